/-! THE REFERENCE, PIECE BY PIECE (printed by sgen.py), 4 -/
theorem S_X23_counts_0 {Z : zT} {d : Nat} {σ : Sg} {l1 : Int32} {K : kS} (F : FX ΦR σ.sh σ.r) (w : (¬ (σ.i 0 22) = 6 → K (.inl none) (σ.wi 0 22 ((σ.i 0 22) + (1 : Int32)))) ∧ ((σ.i 0 22) = 6 → B_X23_breaks_0 Z d σ 7 l1 (yN K fun τ1 => K (.inl none) (τ1.wi 0 22 ((τ1.i 0 22) + (1 : Int32)))))) : B_X23_counts_0 Z (d + 1) σ l1 K := by
  unfold B_X23_counts_0
  refine ab_fin.s2 (i := .aload_n 0) (k := 1) (pc' := 1) (lv' := [(0, .ref 0), (1, .int l1)]) (st' := [.ref 0]) (by decide +kernel) rfl rfl ?_
  refine ab_fin.q_rI (x := (σ.i 0 22)) (ix := 356) (ci := 24) (k := 22) (pc' := 4) (by decide +kernel) rfl (c_rI (F.s s0_0) rfl) rfl ?_
  refine ab_fin.s1i (i := .bipush 6) (k := 2) (pc' := 6) (n := 6) (by decide +kernel) rfl (by decide +kernel) rfl ?_
  refine ab_fin.br (c := ¬ (σ.i 0 22) = 6) (i := .if_icmp .ne 10) (off := 10) (t := 16) (pc' := 9) (r := []) (by decide +kernel) rfl (by decide +kernel) rfl (fun q => ?_) (fun q => ?_)
  · replace w := w.1 q
    refine ab_fin.s2 (i := .aload_n 0) (k := 1) (pc' := 17) (lv' := [(0, .ref 0), (1, .int l1)]) (st' := [.ref 0]) (by decide +kernel) rfl rfl ?_
    refine ab_fin.s1 (i := .dup) (k := 1) (pc' := 18) (st' := [.ref 0, .ref 0]) (by decide +kernel) rfl rfl ?_
    refine ab_fin.q_rI (x := (σ.i 0 22)) (ix := 356) (ci := 24) (k := 22) (pc' := 21) (by decide +kernel) rfl (c_rI (F.s s0_0) rfl) rfl ?_
    refine ab_fin.s1i (i := .iconst 1) (k := 1) (pc' := 22) (n := 1) (by decide +kernel) rfl (by decide +kernel) rfl ?_
    refine ab_fin.s1 (i := .iadd) (k := 1) (pc' := 23) (st' := [.int ((σ.i 0 22) + (1 : Int32)), .ref 0]) (by decide +kernel) rfl rfl ?_
    refine ab_fin.q_pF (ix := 356) (ci := 24) (k := 22) (h1 := conc (σ.wi 0 22 ((σ.i 0 22) + (1 : Int32)))) (pc' := 26) (by decide +kernel) rfl (c_pI (v := ((σ.i 0 22) + (1 : Int32))) (F.s s0_0) rfl) rfl rfl rfl ?_
    exact ab_fin.q_ret (i := .return_) (k := 1) (v := none) (by decide +kernel) rfl F w
  · replace w := w.2 (Decidable.of_not_not q)
    refine ab_fin.s2 (i := .aload_n 0) (k := 1) (pc' := 10) (lv' := [(0, .ref 0), (1, .int l1)]) (st' := [.ref 0]) (by decide +kernel) rfl rfl ?_
    refine ab_fin.s1i (i := .bipush 7) (k := 2) (pc' := 12) (n := 7) (by decide +kernel) rfl (by decide +kernel) rfl ?_
    refine ab_fin.s2 (i := .iload_n 1) (k := 1) (pc' := 13) (lv' := [(0, .ref 0), (1, .int l1)]) (st' := [.int l1, .int 7, .ref 0]) (by decide +kernel) rfl rfl ?_
    refine ab_fin.q_yN (i := .invokevirtual 259) (k := 3) (y := 5910) (As := [.ref 0, .int 7, .int l1]) (rest := []) (M' := (mX23_breaks, [])) (lv2 := [(0, .ref 0), (1, .int 7), (2, .int l1)]) (pc' := 16) (X := K) (by decide +kernel) (ab_cv rfl rfl (conc_get (σ := σ) (F.s s0_0)) ⟨(Nat.le_of_ble_eq_true rfl), (Nat.le_of_ble_eq_true rfl)⟩ rfl) rfl (Nat.le_of_ble_eq_true rfl) rfl rfl (hY_no fun E => rfl) w (fun τ1 F2 w => ?_)
    refine ab_fin.s2 (i := .aload_n 0) (k := 1) (pc' := 17) (lv' := [(0, .ref 0), (1, .int l1)]) (st' := [.ref 0]) (by decide +kernel) rfl rfl ?_
    refine ab_fin.s1 (i := .dup) (k := 1) (pc' := 18) (st' := [.ref 0, .ref 0]) (by decide +kernel) rfl rfl ?_
    refine ab_fin.q_rI (x := (τ1.i 0 22)) (ix := 356) (ci := 24) (k := 22) (pc' := 21) (by decide +kernel) rfl (c_rI (F2.s s0_0) rfl) rfl ?_
    refine ab_fin.s1i (i := .iconst 1) (k := 1) (pc' := 22) (n := 1) (by decide +kernel) rfl (by decide +kernel) rfl ?_
    refine ab_fin.s1 (i := .iadd) (k := 1) (pc' := 23) (st' := [.int ((τ1.i 0 22) + (1 : Int32)), .ref 0]) (by decide +kernel) rfl rfl ?_
    refine ab_fin.q_pF (ix := 356) (ci := 24) (k := 22) (h1 := conc (τ1.wi 0 22 ((τ1.i 0 22) + (1 : Int32)))) (pc' := 26) (by decide +kernel) rfl (c_pI (v := ((τ1.i 0 22) + (1 : Int32))) (F2.s s0_0) rfl) rfl rfl rfl ?_
    exact ab_fin.q_ret (i := .return_) (k := 1) (v := none) (by decide +kernel) rfl F2 w
theorem S_X23_behind_0 {Z : zT} {d : Nat} {σ : Sg}  {K : kS} (F : FX ΦR σ.sh σ.r) (w : B_X23_is_0 Z d σ 43 (yI K fun v3 τ1 => (¬ v3 = 0 → B_X23_behind_20 Z (d + 1) τ1  K) ∧ (v3 = 0 → B_X23_is_0 Z d τ1 45 (yI K fun v6 τ4 => (¬ v6 = 0 → B_X23_behind_20 Z (d + 1) τ4  K) ∧ (v6 = 0 → K (.inl (some (.long 0))) τ4))))) : B_X23_behind_0 Z (d + 1) σ  K := by
  unfold B_X23_behind_0
  refine ab_fin.s2 (i := .aload_n 0) (k := 1) (pc' := 1) (lv' := [(0, .ref 0)]) (st' := [.ref 0]) (by decide +kernel) rfl rfl ?_
  refine ab_fin.s1i (i := .bipush 43) (k := 2) (pc' := 3) (n := 43) (by decide +kernel) rfl (by decide +kernel) rfl ?_
  refine ab_fin.q_yI (i := .invokevirtual 233) (k := 3) (y := 5904) (As := [.ref 0, .int 43]) (rest := []) (M' := (mX23_is, [])) (lv2 := [(0, .ref 0), (1, .int 43)]) (pc' := 6) (X := K) (by decide +kernel) (ab_cv rfl rfl (conc_get (σ := σ) (F.s s0_0)) ⟨(Nat.le_of_ble_eq_true rfl), (Nat.le_of_ble_eq_true rfl)⟩ rfl) rfl (Nat.le_of_ble_eq_true rfl) rfl rfl (hY_no fun E => rfl) w (fun v3 τ1 F2 w => ?_)
  refine ab_fin.br (c := ¬ v3 = 0) (i := .ifCond .ne 14) (off := 14) (t := 20) (pc' := 9) (r := []) (by decide +kernel) rfl (by decide +kernel) rfl (fun q => ?_) (fun q => ?_)
  · replace w := w.1 q
    exact ab_fin.lv ⟨(List.forall_mem_cons.mpr ⟨(List.Mem.head _), (fun _ h => absurd h List.not_mem_nil)⟩), (show ([0] : List Nat).Nodup from by decide)⟩ w
  · replace w := w.2 (Decidable.of_not_not q)
    refine ab_fin.s2 (i := .aload_n 0) (k := 1) (pc' := 10) (lv' := [(0, .ref 0)]) (st' := [.ref 0]) (by decide +kernel) rfl rfl ?_
    refine ab_fin.s1i (i := .bipush 45) (k := 2) (pc' := 12) (n := 45) (by decide +kernel) rfl (by decide +kernel) rfl ?_
    refine ab_fin.q_yI (i := .invokevirtual 233) (k := 3) (y := 5904) (As := [.ref 0, .int 45]) (rest := []) (M' := (mX23_is, [])) (lv2 := [(0, .ref 0), (1, .int 45)]) (pc' := 15) (X := K) (by decide +kernel) (ab_cv rfl rfl (conc_get (σ := τ1) (F2.s s0_0)) ⟨(Nat.le_of_ble_eq_true rfl), (Nat.le_of_ble_eq_true rfl)⟩ rfl) rfl (Nat.le_of_ble_eq_true rfl) rfl rfl (hY_no fun E => rfl) w (fun v6 τ4 F5 w => ?_)
    refine ab_fin.br (c := ¬ v6 = 0) (i := .ifCond .ne 5) (off := 5) (t := 20) (pc' := 18) (r := []) (by decide +kernel) rfl (by decide +kernel) rfl (fun q => ?_) (fun q => ?_)
    · replace w := w.1 q
      exact ab_fin.lv ⟨(List.forall_mem_cons.mpr ⟨(List.Mem.head _), (fun _ h => absurd h List.not_mem_nil)⟩), (show ([0] : List Nat).Nodup from by decide)⟩ w
    · replace w := w.2 (Decidable.of_not_not q)
      refine ab_fin.s1l (i := .lconst 0) (k := 1) (pc' := 19) (n := 0) (by decide +kernel) rfl (by decide +kernel) rfl ?_
      exact ab_fin.q_ret (i := .lreturn) (k := 1) (v := some (.long 0)) (by decide +kernel) rfl F5 w
theorem S_X23_behind_20 {Z : zT} {d : Nat} {σ : Sg}  {K : kS} (F : FX ΦR σ.sh σ.r) (w : B_X23_is_0 Z d σ 45 (yI K fun v3 τ1 => B_X23_next_0 Z d τ1  (yN K fun τ4 => ((τ4.i 0 17) = 3 → B_X23_next_0 Z d τ4  (yN K fun τ6 => (v3 = 0 → K (.inl (some (.long ((Int32.toInt64 (τ4.i 0 19)))))) τ6) ∧ (¬ v3 = 0 → K (.inl (some (.long ((-((Int32.toInt64 (τ4.i 0 19)))))))) τ6))) ∧ (¬ (τ4.i 0 17) = 3 → B_X23_no_0 Z d τ4  (yR K fun v10 τ8 => ∃ x12, aT τ8 v10 x12 ∧ K (.inr (x12, v10)) τ8))))) : B_X23_behind_20 Z (d + 1) σ  K := by
  unfold B_X23_behind_20
  refine ab_fin.s2 (i := .aload_n 0) (k := 1) (pc' := 21) (lv' := [(0, .ref 0)]) (st' := [.ref 0]) (by decide +kernel) rfl rfl ?_
  refine ab_fin.s1i (i := .bipush 45) (k := 2) (pc' := 23) (n := 45) (by decide +kernel) rfl (by decide +kernel) rfl ?_
  refine ab_fin.q_yI (i := .invokevirtual 233) (k := 3) (y := 5904) (As := [.ref 0, .int 45]) (rest := []) (M' := (mX23_is, [])) (lv2 := [(0, .ref 0), (1, .int 45)]) (pc' := 26) (X := K) (by decide +kernel) (ab_cv rfl rfl (conc_get (σ := σ) (F.s s0_0)) ⟨(Nat.le_of_ble_eq_true rfl), (Nat.le_of_ble_eq_true rfl)⟩ rfl) rfl (Nat.le_of_ble_eq_true rfl) rfl rfl (hY_no fun E => rfl) w (fun v3 τ1 F2 w => ?_)
  refine ab_fin.s2 (i := .istore_n 1) (k := 1) (pc' := 27) (lv' := [(1, .int v3), (0, .ref 0)]) (st' := []) (by decide +kernel) rfl rfl ?_
  refine ab_fin.s2 (i := .aload_n 0) (k := 1) (pc' := 28) (lv' := [(1, .int v3), (0, .ref 0)]) (st' := [.ref 0]) (by decide +kernel) rfl rfl ?_
  refine ab_fin.q_yN (i := .invokevirtual 239) (k := 3) (y := 5902) (As := [.ref 0]) (rest := []) (M' := (mX23_next, [])) (lv2 := [(0, .ref 0)]) (pc' := 31) (X := K) (by decide +kernel) (ab_cv rfl rfl (conc_get (σ := τ1) (F2.s s0_0)) ⟨(Nat.le_of_ble_eq_true rfl), (Nat.le_of_ble_eq_true rfl)⟩ rfl) rfl (Nat.le_of_ble_eq_true rfl) rfl rfl (hY_no fun E => rfl) w (fun τ4 F5 w => ?_)
  refine ab_fin.s2 (i := .aload_n 0) (k := 1) (pc' := 32) (lv' := [(1, .int v3), (0, .ref 0)]) (st' := [.ref 0]) (by decide +kernel) rfl rfl ?_
  refine ab_fin.q_rI (x := (τ4.i 0 17)) (ix := 183) (ci := 24) (k := 17) (pc' := 35) (by decide +kernel) rfl (c_rI (F5.s s0_0) rfl) rfl ?_
  refine ab_fin.s1i (i := .iconst 3) (k := 1) (pc' := 36) (n := 3) (by decide +kernel) rfl (by decide +kernel) rfl ?_
  refine ab_fin.br (c := (τ4.i 0 17) = 3) (i := .if_icmp .eq 8) (off := 8) (t := 44) (pc' := 39) (r := []) (by decide +kernel) rfl (by decide +kernel) rfl (fun q => ?_) (fun q => ?_)
  · replace w := w.1 q
    refine ab_fin.s2 (i := .aload_n 0) (k := 1) (pc' := 45) (lv' := [(1, .int v3), (0, .ref 0)]) (st' := [.ref 0]) (by decide +kernel) rfl rfl ?_
    refine ab_fin.q_rI (x := (τ4.i 0 19)) (ix := 213) (ci := 24) (k := 19) (pc' := 48) (by decide +kernel) rfl (c_rI (F5.s s0_0) rfl) rfl ?_
    refine ab_fin.s1 (i := .i2l) (k := 1) (pc' := 49) (st' := [.long ((Int32.toInt64 (τ4.i 0 19)))]) (by decide +kernel) rfl rfl ?_
    refine ab_fin.s2 (i := .lstore_n 2) (k := 1) (pc' := 50) (lv' := [(2, .long ((Int32.toInt64 (τ4.i 0 19)))), (1, .int v3), (0, .ref 0)]) (st' := []) (by decide +kernel) rfl rfl ?_
    refine ab_fin.s2 (i := .aload_n 0) (k := 1) (pc' := 51) (lv' := [(2, .long ((Int32.toInt64 (τ4.i 0 19)))), (1, .int v3), (0, .ref 0)]) (st' := [.ref 0]) (by decide +kernel) rfl rfl ?_
    refine ab_fin.q_yN (i := .invokevirtual 239) (k := 3) (y := 5902) (As := [.ref 0]) (rest := []) (M' := (mX23_next, [])) (lv2 := [(0, .ref 0)]) (pc' := 54) (X := K) (by decide +kernel) (ab_cv rfl rfl (conc_get (σ := τ4) (F5.s s0_0)) ⟨(Nat.le_of_ble_eq_true rfl), (Nat.le_of_ble_eq_true rfl)⟩ rfl) rfl (Nat.le_of_ble_eq_true rfl) rfl rfl (hY_no fun E => rfl) w (fun τ6 F7 w => ?_)
    refine ab_fin.s2 (i := .iload_n 1) (k := 1) (pc' := 55) (lv' := [(2, .long ((Int32.toInt64 (τ4.i 0 19)))), (1, .int v3), (0, .ref 0)]) (st' := [.int v3]) (by decide +kernel) rfl rfl ?_
    refine ab_fin.br (c := v3 = 0) (i := .ifCond .eq 8) (off := 8) (t := 63) (pc' := 58) (r := []) (by decide +kernel) rfl (by decide +kernel) rfl (fun q => ?_) (fun q => ?_)
    · replace w := w.1 q
      refine ab_fin.s2 (i := .lload_n 2) (k := 1) (pc' := 64) (lv' := [(2, .long ((Int32.toInt64 (τ4.i 0 19)))), (1, .int v3), (0, .ref 0)]) (st' := [.long ((Int32.toInt64 (τ4.i 0 19)))]) (by decide +kernel) rfl rfl ?_
      exact ab_fin.q_ret (i := .lreturn) (k := 1) (v := some (.long ((Int32.toInt64 (τ4.i 0 19))))) (by decide +kernel) rfl F7 w
    · replace w := w.2 q
      refine ab_fin.s2 (i := .lload_n 2) (k := 1) (pc' := 59) (lv' := [(2, .long ((Int32.toInt64 (τ4.i 0 19)))), (1, .int v3), (0, .ref 0)]) (st' := [.long ((Int32.toInt64 (τ4.i 0 19)))]) (by decide +kernel) rfl rfl ?_
      refine ab_fin.s1 (i := .lneg) (k := 1) (pc' := 60) (st' := [.long ((-((Int32.toInt64 (τ4.i 0 19)))))]) (by decide +kernel) rfl rfl ?_
      refine ab_fin.s3 (i := .goto 4) (k := 3) (t := 64) (st' := [.long ((-((Int32.toInt64 (τ4.i 0 19)))))]) (by decide +kernel) (ab_gto (by decide +kernel)) ?_
      exact ab_fin.q_ret (i := .lreturn) (k := 1) (v := some (.long ((-((Int32.toInt64 (τ4.i 0 19))))))) (by decide +kernel) rfl F7 w
  · replace w := w.2 q
    refine ab_fin.s2 (i := .aload_n 0) (k := 1) (pc' := 40) (lv' := [(1, .int v3), (0, .ref 0)]) (st' := [.ref 0]) (by decide +kernel) rfl rfl ?_
    refine ab_fin.q_yR (i := .invokevirtual 235) (k := 3) (y := 5903) (As := [.ref 0]) (rest := []) (M' := (mX23_no, [])) (lv2 := [(0, .ref 0)]) (pc' := 43) (X := K) (by decide +kernel) (ab_cv rfl rfl (conc_get (σ := τ4) (F5.s s0_0)) ⟨(Nat.le_of_ble_eq_true rfl), (Nat.le_of_ble_eq_true rfl)⟩ rfl) rfl (Nat.le_of_ble_eq_true rfl) rfl rfl (hY_no fun E => rfl) w (fun v10 τ8 F9 w => ?_)
    obtain ⟨x12, e11, w⟩ := w
    exact ab_fin.q_ath (X := fun r h => ∃ τ, h = conc τ ∧ FX ΦR τ.sh τ.r ∧ K r τ) (by decide +kernel) (aT_ok e11) (fun p h ⟨τ, q, f, z⟩ => by subst q; exact ((hY_no fun E => rfl) : hY ΦR _ _ _ _ _ _ _ _ _ _) p τ f z) ⟨_, rfl, F9, w⟩
theorem S_X23_e_0 {Z : zT} {d : Nat} {σ : Sg}  {K : kS} (F : FX ΦR σ.sh σ.r) (w : B_X23_into_0 Z d σ  (yN K fun τ1 => B_X23_skip_0 Z d τ1 (Rf.old 158) (yI K fun v5 τ3 => (v5 = 0 → B_X23_skip_0 Z d τ3 (Rf.old 146) (yI K fun v8 τ6 => (v8 = 0 → B_X23_is__0 Z d τ6 (Rf.old 180) (yI K fun v11 τ9 => (¬ v11 = 0 → B_X23_e_150 Z (d + 1) τ9 (τ1.i 0 18) K) ∧ (v11 = 0 → B_X23_is__0 Z d τ9 (Rf.old 182) (yI K fun v14 τ12 => (v14 = 0 → B_X23_skip_0 Z d τ12 (Rf.old 178) (yI K fun v17 τ15 => (v17 = 0 → B_X23_is__0 Z d τ15 (Rf.old 142) (yI K fun v20 τ18 => (¬ v20 = 0 → B_X23_e_307 Z (d + 1) τ18 (τ1.i 0 18) K) ∧ (v20 = 0 → B_X23_is__0 Z d τ18 (Rf.old 174) (yI K fun v23 τ21 => (v23 = 0 → B_X23_compared_0 Z d τ21  (yW K fun v26 τ24 => K (.inl (some (rv v26))) (τ24.wi 0 20 ((τ24.i 0 20) - (1 : Int32))))) ∧ (¬ v23 = 0 → B_X23_e_307 Z (d + 1) τ21 (τ1.i 0 18) K))))) ∧ (¬ v17 = 0 → B_X23_counted_0 Z d τ15 (τ1.i 0 18) (yN K fun τ27 => ∃ b29, (τ27.r 0 34) = Rf.ptr b29 ∧ (sh0R[b29]? = some (Sh.obj 22) ∧ (B_X21_get_0 Z d τ27 b29 5 (yW K fun v34 τ32 => B_X23_e_0 Z d τ32  (yW K fun v37 τ35 => ∃ b38, v34 = Rf.ptr b38 ∧ (τ35.sh[b38]? = some (Sh.obj 21) ∧ (B_X23_want__0 Z d (τ35.wr b38 5 v37) (Rf.old 170) (yN K fun τ42 => B_X23_name_0 Z d τ42  (yI K fun v46 τ44 => B_X23_want__0 Z d τ44 (Rf.old 136) (yN K fun τ47 => B_X23_under_0 Z d τ47 (Rf.ptr b38) v46 (yW K fun v51 τ49 => τ49.sh[b38]? = some (Sh.obj 21) ∧ (K (.inl (some (.ref b38))) ((τ49.wr b38 6 v51).wi 0 20 ((τ49.i 0 20) - (1 : Int32)))))))))))))))))) ∧ (¬ v14 = 0 → B_X23_e_150 Z (d + 1) τ12 (τ1.i 0 18) K))))) ∧ (¬ v8 = 0 → B_X23_counted_0 Z d τ6 (τ1.i 0 18) (yN K fun τ54 => ∃ b56, (τ54.r 0 34) = Rf.ptr b56 ∧ (sh0R[b56]? = some (Sh.obj 22) ∧ (B_X21_get_0 Z d τ54 b56 2 (yW K fun v61 τ59 => B_X23_e_0 Z d τ59  (yW K fun v64 τ62 => ∃ b65, v61 = Rf.ptr b65 ∧ (τ62.sh[b65]? = some (Sh.obj 21) ∧ (B_X23_want__0 Z d (τ62.wr b65 5 v64) (Rf.old 176) (yN K fun τ69 => B_X23_e_0 Z d τ69  (yW K fun v73 τ71 => τ71.sh[b65]? = some (Sh.obj 21) ∧ (B_X23_want__0 Z d (τ71.wr b65 6 v73) (Rf.old 140) (yN K fun τ76 => B_X23_e_0 Z d τ76  (yW K fun v80 τ78 => τ78.sh[b65]? = some (Sh.obj 21) ∧ (K (.inl (some (.ref b65))) ((τ78.wr b65 7 v80).wi 0 20 ((τ78.i 0 20) - (1 : Int32))))))))))))))))))) ∧ (¬ v5 = 0 → B_X23_counted_0 Z d τ3 (τ1.i 0 18) (yN K fun τ83 => ∃ b85, (τ83.r 0 34) = Rf.ptr b85 ∧ (sh0R[b85]? = some (Sh.obj 22) ∧ (B_X21_get_0 Z d τ83 b85 1 (yW K fun v90 τ88 => B_X23_name_0 Z d τ88  (yI K fun v93 τ91 => B_X23_want_0 Z d τ91 61 (yN K fun τ94 => B_X23_e_0 Z d τ94  (yW K fun v98 τ96 => ∃ b99, v90 = Rf.ptr b99 ∧ (τ96.sh[b99]? = some (Sh.obj 21) ∧ (B_X23_want__0 Z d (τ96.wr b99 5 v98) (Rf.old 176) (yN K fun τ103 => B_X23_under_0 Z d τ103 (Rf.ptr b99) v93 (yW K fun v107 τ105 => τ105.sh[b99]? = some (Sh.obj 21) ∧ (K (.inl (some (.ref b99))) ((τ105.wr b99 6 v107).wi 0 20 ((τ105.i 0 20) - (1 : Int32))))))))))))))))))) : B_X23_e_0 Z (d + 1) σ  K := by
  unfold B_X23_e_0
  refine ab_fin.s2 (i := .aload_n 0) (k := 1) (pc' := 1) (lv' := [(0, .ref 0)]) (st' := [.ref 0]) (by decide +kernel) rfl rfl ?_
  refine ab_fin.q_yN (i := .invokevirtual 420) (k := 3) (y := 5911) (As := [.ref 0]) (rest := []) (M' := (mX23_into, [])) (lv2 := [(0, .ref 0)]) (pc' := 4) (X := K) (by decide +kernel) (ab_cv rfl rfl (conc_get (σ := σ) (F.s s0_0)) ⟨(Nat.le_of_ble_eq_true rfl), (Nat.le_of_ble_eq_true rfl)⟩ rfl) rfl (Nat.le_of_ble_eq_true rfl) rfl rfl (hY_no fun E => rfl) w (fun τ1 F2 w => ?_)
  refine ab_fin.s2 (i := .aload_n 0) (k := 1) (pc' := 5) (lv' := [(0, .ref 0)]) (st' := [.ref 0]) (by decide +kernel) rfl rfl ?_
  refine ab_fin.q_rI (x := (τ1.i 0 18)) (ix := 106) (ci := 24) (k := 18) (pc' := 8) (by decide +kernel) rfl (c_rI (F2.s s0_0) rfl) rfl ?_
  refine ab_fin.s2 (i := .istore_n 1) (k := 1) (pc' := 9) (lv' := [(1, .int (τ1.i 0 18)), (0, .ref 0)]) (st' := []) (by decide +kernel) rfl rfl ?_
  refine ab_fin.s2 (i := .aload_n 0) (k := 1) (pc' := 10) (lv' := [(1, .int (τ1.i 0 18)), (0, .ref 0)]) (st' := [.ref 0]) (by decide +kernel) rfl rfl ?_
  refine ab_fin.s8 (i := .ldc 151) (k := 2) (pc' := 12) (st' := [.retAddr 158, .ref 0]) (by decide +kernel) rfl rfl rfl rfl ?_
  refine ab_fin.q_yI (i := .invokevirtual 266) (k := 3) (y := 5908) (As := [.ref 0, .retAddr 158]) (rest := []) (M' := (mX23_skip, [])) (lv2 := [(0, .ref 0), (1, .retAddr 158)]) (pc' := 15) (X := K) (by decide +kernel) (ab_cv rfl rfl (conc_get (σ := τ1) (F2.s s0_0)) ⟨(Nat.le_of_ble_eq_true rfl), (Nat.le_of_ble_eq_true rfl)⟩ rfl) rfl (Nat.le_of_ble_eq_true rfl) rfl rfl (hY_no fun E => rfl) w (fun v5 τ3 F4 w => ?_)
  refine ab_fin.br (c := v5 = 0) (i := .ifCond .eq 55) (off := 55) (t := 70) (pc' := 18) (r := []) (by decide +kernel) rfl (by decide +kernel) rfl (fun q => ?_) (fun q => ?_)
  · replace w := w.1 q
    refine ab_fin.s2 (i := .aload_n 0) (k := 1) (pc' := 71) (lv' := [(1, .int (τ1.i 0 18)), (0, .ref 0)]) (st' := [.ref 0]) (by decide +kernel) rfl rfl ?_
    refine ab_fin.s8 (i := .ldc 140) (k := 2) (pc' := 73) (st' := [.retAddr 146, .ref 0]) (by decide +kernel) rfl rfl rfl rfl ?_
    refine ab_fin.q_yI (i := .invokevirtual 266) (k := 3) (y := 5908) (As := [.ref 0, .retAddr 146]) (rest := []) (M' := (mX23_skip, [])) (lv2 := [(0, .ref 0), (1, .retAddr 146)]) (pc' := 76) (X := K) (by decide +kernel) (ab_cv rfl rfl (conc_get (σ := τ3) (F4.s s0_0)) ⟨(Nat.le_of_ble_eq_true rfl), (Nat.le_of_ble_eq_true rfl)⟩ rfl) rfl (Nat.le_of_ble_eq_true rfl) rfl rfl (hY_no fun E => rfl) w (fun v8 τ6 F7 w => ?_)
    refine ab_fin.br (c := v8 = 0) (i := .ifCond .eq 56) (off := 56) (t := 132) (pc' := 79) (r := []) (by decide +kernel) rfl (by decide +kernel) rfl (fun q => ?_) (fun q => ?_)
    · replace w := w.1 q
      refine ab_fin.s2 (i := .aload_n 0) (k := 1) (pc' := 133) (lv' := [(1, .int (τ1.i 0 18)), (0, .ref 0)]) (st' := [.ref 0]) (by decide +kernel) rfl rfl ?_
      refine ab_fin.s8 (i := .ldc 173) (k := 2) (pc' := 135) (st' := [.retAddr 180, .ref 0]) (by decide +kernel) rfl rfl rfl rfl ?_
      refine ab_fin.q_yI (i := .invokevirtual 242) (k := 3) (y := 5905) (As := [.ref 0, .retAddr 180]) (rest := []) (M' := (mX23_is_, [])) (lv2 := [(0, .ref 0), (1, .retAddr 180)]) (pc' := 138) (X := K) (by decide +kernel) (ab_cv rfl rfl (conc_get (σ := τ6) (F7.s s0_0)) ⟨(Nat.le_of_ble_eq_true rfl), (Nat.le_of_ble_eq_true rfl)⟩ rfl) rfl (Nat.le_of_ble_eq_true rfl) rfl rfl (hY_no fun E => rfl) w (fun v11 τ9 F10 w => ?_)
      refine ab_fin.br (c := ¬ v11 = 0) (i := .ifCond .ne 12) (off := 12) (t := 150) (pc' := 141) (r := []) (by decide +kernel) rfl (by decide +kernel) rfl (fun q => ?_) (fun q => ?_)
      · replace w := w.1 q
        exact ab_fin.lv ⟨(List.forall_mem_cons.mpr ⟨(List.Mem.tail _ (List.Mem.head _)), (List.forall_mem_cons.mpr ⟨(List.Mem.head _), (fun _ h => absurd h List.not_mem_nil)⟩)⟩), (show ([1, 0] : List Nat).Nodup from by decide)⟩ w
      · replace w := w.2 (Decidable.of_not_not q)
        refine ab_fin.s2 (i := .aload_n 0) (k := 1) (pc' := 142) (lv' := [(1, .int (τ1.i 0 18)), (0, .ref 0)]) (st' := [.ref 0]) (by decide +kernel) rfl rfl ?_
        refine ab_fin.s8 (i := .ldc 175) (k := 2) (pc' := 144) (st' := [.retAddr 182, .ref 0]) (by decide +kernel) rfl rfl rfl rfl ?_
        refine ab_fin.q_yI (i := .invokevirtual 242) (k := 3) (y := 5905) (As := [.ref 0, .retAddr 182]) (rest := []) (M' := (mX23_is_, [])) (lv2 := [(0, .ref 0), (1, .retAddr 182)]) (pc' := 147) (X := K) (by decide +kernel) (ab_cv rfl rfl (conc_get (σ := τ9) (F10.s s0_0)) ⟨(Nat.le_of_ble_eq_true rfl), (Nat.le_of_ble_eq_true rfl)⟩ rfl) rfl (Nat.le_of_ble_eq_true rfl) rfl rfl (hY_no fun E => rfl) w (fun v14 τ12 F13 w => ?_)
        refine ab_fin.br (c := v14 = 0) (i := .ifCond .eq 81) (off := 81) (t := 228) (pc' := 150) (r := []) (by decide +kernel) rfl (by decide +kernel) rfl (fun q => ?_) (fun q => ?_)
        · replace w := w.1 q
          refine ab_fin.s2 (i := .aload_n 0) (k := 1) (pc' := 229) (lv' := [(1, .int (τ1.i 0 18)), (0, .ref 0)]) (st' := [.ref 0]) (by decide +kernel) rfl rfl ?_
          refine ab_fin.s8 (i := .ldc 171) (k := 2) (pc' := 231) (st' := [.retAddr 178, .ref 0]) (by decide +kernel) rfl rfl rfl rfl ?_
          refine ab_fin.q_yI (i := .invokevirtual 266) (k := 3) (y := 5908) (As := [.ref 0, .retAddr 178]) (rest := []) (M' := (mX23_skip, [])) (lv2 := [(0, .ref 0), (1, .retAddr 178)]) (pc' := 234) (X := K) (by decide +kernel) (ab_cv rfl rfl (conc_get (σ := τ12) (F13.s s0_0)) ⟨(Nat.le_of_ble_eq_true rfl), (Nat.le_of_ble_eq_true rfl)⟩ rfl) rfl (Nat.le_of_ble_eq_true rfl) rfl rfl (hY_no fun E => rfl) w (fun v17 τ15 F16 w => ?_)
          refine ab_fin.br (c := v17 = 0) (i := .ifCond .eq 55) (off := 55) (t := 289) (pc' := 237) (r := []) (by decide +kernel) rfl (by decide +kernel) rfl (fun q => ?_) (fun q => ?_)
          · replace w := w.1 q
            refine ab_fin.s2 (i := .aload_n 0) (k := 1) (pc' := 290) (lv' := [(1, .int (τ1.i 0 18)), (0, .ref 0)]) (st' := [.ref 0]) (by decide +kernel) rfl rfl ?_
            refine ab_fin.s8 (i := .ldc 136) (k := 2) (pc' := 292) (st' := [.retAddr 142, .ref 0]) (by decide +kernel) rfl rfl rfl rfl ?_
            refine ab_fin.q_yI (i := .invokevirtual 242) (k := 3) (y := 5905) (As := [.ref 0, .retAddr 142]) (rest := []) (M' := (mX23_is_, [])) (lv2 := [(0, .ref 0), (1, .retAddr 142)]) (pc' := 295) (X := K) (by decide +kernel) (ab_cv rfl rfl (conc_get (σ := τ15) (F16.s s0_0)) ⟨(Nat.le_of_ble_eq_true rfl), (Nat.le_of_ble_eq_true rfl)⟩ rfl) rfl (Nat.le_of_ble_eq_true rfl) rfl rfl (hY_no fun E => rfl) w (fun v20 τ18 F19 w => ?_)
            refine ab_fin.br (c := ¬ v20 = 0) (i := .ifCond .ne 12) (off := 12) (t := 307) (pc' := 298) (r := []) (by decide +kernel) rfl (by decide +kernel) rfl (fun q => ?_) (fun q => ?_)
            · replace w := w.1 q
              exact ab_fin.lv ⟨(List.forall_mem_cons.mpr ⟨(List.Mem.tail _ (List.Mem.head _)), (List.forall_mem_cons.mpr ⟨(List.Mem.head _), (fun _ h => absurd h List.not_mem_nil)⟩)⟩), (show ([1, 0] : List Nat).Nodup from by decide)⟩ w
            · replace w := w.2 (Decidable.of_not_not q)
              refine ab_fin.s2 (i := .aload_n 0) (k := 1) (pc' := 299) (lv' := [(1, .int (τ1.i 0 18)), (0, .ref 0)]) (st' := [.ref 0]) (by decide +kernel) rfl rfl ?_
              refine ab_fin.s8 (i := .ldc 167) (k := 2) (pc' := 301) (st' := [.retAddr 174, .ref 0]) (by decide +kernel) rfl rfl rfl rfl ?_
              refine ab_fin.q_yI (i := .invokevirtual 242) (k := 3) (y := 5905) (As := [.ref 0, .retAddr 174]) (rest := []) (M' := (mX23_is_, [])) (lv2 := [(0, .ref 0), (1, .retAddr 174)]) (pc' := 304) (X := K) (by decide +kernel) (ab_cv rfl rfl (conc_get (σ := τ18) (F19.s s0_0)) ⟨(Nat.le_of_ble_eq_true rfl), (Nat.le_of_ble_eq_true rfl)⟩ rfl) rfl (Nat.le_of_ble_eq_true rfl) rfl rfl (hY_no fun E => rfl) w (fun v23 τ21 F22 w => ?_)
              refine ab_fin.br (c := v23 = 0) (i := .ifCond .eq 47) (off := 47) (t := 351) (pc' := 307) (r := []) (by decide +kernel) rfl (by decide +kernel) rfl (fun q => ?_) (fun q => ?_)
              · replace w := w.1 q
                refine ab_fin.s2 (i := .aload_n 0) (k := 1) (pc' := 352) (lv' := [(1, .int (τ1.i 0 18)), (0, .ref 0)]) (st' := [.ref 0]) (by decide +kernel) rfl rfl ?_
                refine ab_fin.q_yW (i := .invokevirtual 466) (k := 3) (y := 5932) (As := [.ref 0]) (rest := []) (M' := (mX23_compared, [])) (lv2 := [(0, .ref 0)]) (pc' := 355) (X := K) (by decide +kernel) (ab_cv rfl rfl (conc_get (σ := τ21) (F22.s s0_0)) ⟨(Nat.le_of_ble_eq_true rfl), (Nat.le_of_ble_eq_true rfl)⟩ rfl) rfl (Nat.le_of_ble_eq_true rfl) rfl rfl (hY_no fun E => rfl) w (fun v26 τ24 F25 w => ?_)
                refine ab_fin.q_stA (i := .astore_n 2) (n := 2) (k := 1) (pc' := 356) (lv' := [(2, rv v26), (1, .int (τ1.i 0 18)), (0, .ref 0)]) (Or.inl ⟨_, rfl, rfl, rfl⟩) (by decide +kernel) (by decide) (oR_rv _) rfl rfl ?_
                refine ab_fin.s2 (i := .aload_n 0) (k := 1) (pc' := 357) (lv' := [(2, rv v26), (1, .int (τ1.i 0 18)), (0, .ref 0)]) (st' := [.ref 0]) (by decide +kernel) rfl rfl ?_
                refine ab_fin.s1 (i := .dup) (k := 1) (pc' := 358) (st' := [.ref 0, .ref 0]) (by decide +kernel) rfl rfl ?_
                refine ab_fin.q_rI (x := (τ24.i 0 20)) (ix := 253) (ci := 24) (k := 20) (pc' := 361) (by decide +kernel) rfl (c_rI (F25.s s0_0) rfl) rfl ?_
                refine ab_fin.s1i (i := .iconst 1) (k := 1) (pc' := 362) (n := 1) (by decide +kernel) rfl (by decide +kernel) rfl ?_
                refine ab_fin.s1 (i := .isub) (k := 1) (pc' := 363) (st' := [.int ((τ24.i 0 20) - (1 : Int32)), .ref 0]) (by decide +kernel) rfl rfl ?_
                refine ab_fin.q_pF (ix := 253) (ci := 24) (k := 20) (h1 := conc (τ24.wi 0 20 ((τ24.i 0 20) - (1 : Int32)))) (pc' := 366) (by decide +kernel) rfl (c_pI (v := ((τ24.i 0 20) - (1 : Int32))) (F25.s s0_0) rfl) rfl rfl rfl ?_
                refine ab_fin.ald (i := .aload_n 2) (n := 2) (k := 1) (pc' := 367) (Or.inl ⟨_, rfl, rfl, rfl⟩) (by decide +kernel) rfl (oR_rv _) rfl ?_
                exact ab_fin.q_ret (i := .areturn) (k := 1) (v := some (rv v26)) (by decide +kernel) (ret_A (oR_rv _)) F25 w
              · replace w := w.2 q
                exact ab_fin.lv ⟨(List.forall_mem_cons.mpr ⟨(List.Mem.tail _ (List.Mem.head _)), (List.forall_mem_cons.mpr ⟨(List.Mem.head _), (fun _ h => absurd h List.not_mem_nil)⟩)⟩), (show ([1, 0] : List Nat).Nodup from by decide)⟩ w
          · replace w := w.2 q
            refine ab_fin.s2 (i := .aload_n 0) (k := 1) (pc' := 238) (lv' := [(1, .int (τ1.i 0 18)), (0, .ref 0)]) (st' := [.ref 0]) (by decide +kernel) rfl rfl ?_
            refine ab_fin.s2 (i := .iload_n 1) (k := 1) (pc' := 239) (lv' := [(1, .int (τ1.i 0 18)), (0, .ref 0)]) (st' := [.int (τ1.i 0 18), .ref 0]) (by decide +kernel) rfl rfl ?_
            refine ab_fin.q_yN (i := .invokevirtual 453) (k := 3) (y := 5912) (As := [.ref 0, .int (τ1.i 0 18)]) (rest := []) (M' := (mX23_counted, [])) (lv2 := [(0, .ref 0), (1, .int (τ1.i 0 18))]) (pc' := 242) (X := K) (by decide +kernel) (ab_cv rfl rfl (conc_get (σ := τ15) (F16.s s0_0)) ⟨(Nat.le_of_ble_eq_true rfl), (Nat.le_of_ble_eq_true rfl)⟩ rfl) rfl (Nat.le_of_ble_eq_true rfl) rfl rfl (hY_no fun E => rfl) w (fun τ27 F28 w => ?_)
            refine ab_fin.s2 (i := .aload_n 0) (k := 1) (pc' := 243) (lv' := [(1, .int (τ1.i 0 18)), (0, .ref 0)]) (st' := [.ref 0]) (by decide +kernel) rfl rfl ?_
            obtain ⟨b29, e30, w⟩ := w
            refine ab_fin.q_rA (b := b29) (ix := 353) (ci := 24) (k := 34) (pc' := 246) (by decide +kernel) rfl (c_rA (F28.s s0_0) rfl e30) rfl ?_
            refine ab_fin.s1i (i := .iconst 5) (k := 1) (pc' := 247) (n := 5) (by decide +kernel) rfl (by decide +kernel) rfl ?_
            obtain ⟨e31, w⟩ := w
            refine ab_fin.q_yW (i := .invokevirtual 403) (k := 3) (y := 5377) (As := [.ref b29, .int 5]) (rest := []) (M' := (mX21_get, [])) (lv2 := [(0, .ref b29), (1, .int 5)]) (pc' := 250) (X := K) (by decide +kernel) (ab_cv rfl rfl (conc_get (σ := τ27) (F28.s e31)) ⟨(Nat.le_of_ble_eq_true rfl), (Nat.le_of_ble_eq_true rfl)⟩ rfl) rfl (Nat.le_of_ble_eq_true rfl) rfl rfl (hY_no fun E => rfl) w (fun v34 τ32 F33 w => ?_)
            refine ab_fin.q_stA (i := .astore_n 2) (n := 2) (k := 1) (pc' := 251) (lv' := [(2, rv v34), (1, .int (τ1.i 0 18)), (0, .ref 0)]) (Or.inl ⟨_, rfl, rfl, rfl⟩) (by decide +kernel) (by decide) (oR_rv _) rfl rfl ?_
            refine ab_fin.ald (i := .aload_n 2) (n := 2) (k := 1) (pc' := 252) (Or.inl ⟨_, rfl, rfl, rfl⟩) (by decide +kernel) rfl (oR_rv _) rfl ?_
            refine ab_fin.s2 (i := .aload_n 0) (k := 1) (pc' := 253) (lv' := [(2, rv v34), (1, .int (τ1.i 0 18)), (0, .ref 0)]) (st' := [.ref 0, rv v34]) (by decide +kernel) rfl rfl ?_
            refine ab_fin.q_yW (i := .invokevirtual 372) (k := 3) (y := 5930) (As := [.ref 0]) (rest := [rv v34]) (M' := (mX23_e, [])) (lv2 := [(0, .ref 0)]) (pc' := 256) (X := K) (by decide +kernel) (ab_cv rfl rfl (conc_get (σ := τ32) (F33.s s0_0)) ⟨(Nat.le_of_ble_eq_true rfl), (by simp only [ab_cat, List.map_cons, List.map_nil, cI, cL, cR1, cN1, cX1, cA (oR_rv _)]; exact Nat.le_of_ble_eq_true rfl)⟩ rfl) rfl (Nat.le_of_ble_eq_true rfl) rfl rfl (hY_no fun E => rfl) w (fun v37 τ35 F36 w => ?_)
            obtain ⟨b38, e39, w⟩ := w
            rw [show rv v34 = .ref b38 from by rw [e39]; rfl]
            obtain ⟨e40, w⟩ := w
            have F41 := FX.w (Φ := ΦR) (a := b38) (k := 5) (v := v37) F36 (cD F36 e40 rfl)
            refine ab_fin.q_pF (ix := 409) (ci := 21) (k := 5) (h1 := conc (τ35.wr b38 5 v37)) (pc' := 259) (by decide +kernel) rfl (c_pR (v := v37) e40 rfl) nRv_n nRv_f rfl ?_
            refine ab_fin.s2 (i := .aload_n 0) (k := 1) (pc' := 260) (lv' := [(2, .ref b38), (1, .int (τ1.i 0 18)), (0, .ref 0)]) (st' := [.ref 0]) (by decide +kernel) rfl rfl ?_
            refine ab_fin.s8 (i := .ldc 163) (k := 2) (pc' := 262) (st' := [.retAddr 170, .ref 0]) (by decide +kernel) rfl rfl rfl rfl ?_
            refine ab_fin.q_yN (i := .invokevirtual 456) (k := 3) (y := 5907) (As := [.ref 0, .retAddr 170]) (rest := []) (M' := (mX23_want_, [])) (lv2 := [(0, .ref 0), (1, .retAddr 170)]) (pc' := 265) (X := K) (by decide +kernel) (ab_cv rfl rfl (conc_get (σ := (τ35.wr b38 5 v37)) (F41.s s0_0)) ⟨(Nat.le_of_ble_eq_true rfl), (Nat.le_of_ble_eq_true rfl)⟩ rfl) rfl (Nat.le_of_ble_eq_true rfl) rfl rfl (hY_no fun E => rfl) w (fun τ42 F43 w => ?_)
            refine ab_fin.s2 (i := .aload_n 0) (k := 1) (pc' := 266) (lv' := [(2, .ref b38), (1, .int (τ1.i 0 18)), (0, .ref 0)]) (st' := [.ref 0]) (by decide +kernel) rfl rfl ?_
            refine ab_fin.q_yI (i := .invokevirtual 277) (k := 3) (y := 5909) (As := [.ref 0]) (rest := []) (M' := (mX23_name, [])) (lv2 := [(0, .ref 0)]) (pc' := 269) (X := K) (by decide +kernel) (ab_cv rfl rfl (conc_get (σ := τ42) (F43.s s0_0)) ⟨(Nat.le_of_ble_eq_true rfl), (Nat.le_of_ble_eq_true rfl)⟩ rfl) rfl (Nat.le_of_ble_eq_true rfl) rfl rfl (hY_no fun E => rfl) w (fun v46 τ44 F45 w => ?_)
            refine ab_fin.s2 (i := .istore_n 3) (k := 1) (pc' := 270) (lv' := [(3, .int v46), (2, .ref b38), (1, .int (τ1.i 0 18)), (0, .ref 0)]) (st' := []) (by decide +kernel) rfl rfl ?_
            refine ab_fin.s2 (i := .aload_n 0) (k := 1) (pc' := 271) (lv' := [(3, .int v46), (2, .ref b38), (1, .int (τ1.i 0 18)), (0, .ref 0)]) (st' := [.ref 0]) (by decide +kernel) rfl rfl ?_
            refine ab_fin.s8 (i := .ldc 130) (k := 2) (pc' := 273) (st' := [.retAddr 136, .ref 0]) (by decide +kernel) rfl rfl rfl rfl ?_
            refine ab_fin.q_yN (i := .invokevirtual 456) (k := 3) (y := 5907) (As := [.ref 0, .retAddr 136]) (rest := []) (M' := (mX23_want_, [])) (lv2 := [(0, .ref 0), (1, .retAddr 136)]) (pc' := 276) (X := K) (by decide +kernel) (ab_cv rfl rfl (conc_get (σ := τ44) (F45.s s0_0)) ⟨(Nat.le_of_ble_eq_true rfl), (Nat.le_of_ble_eq_true rfl)⟩ rfl) rfl (Nat.le_of_ble_eq_true rfl) rfl rfl (hY_no fun E => rfl) w (fun τ47 F48 w => ?_)
            refine ab_fin.s2 (i := .aload_n 2) (k := 1) (pc' := 277) (lv' := [(3, .int v46), (2, .ref b38), (1, .int (τ1.i 0 18)), (0, .ref 0)]) (st' := [.ref b38]) (by decide +kernel) rfl rfl ?_
            refine ab_fin.s2 (i := .aload_n 0) (k := 1) (pc' := 278) (lv' := [(3, .int v46), (2, .ref b38), (1, .int (τ1.i 0 18)), (0, .ref 0)]) (st' := [.ref 0, .ref b38]) (by decide +kernel) rfl rfl ?_
            refine ab_fin.s2 (i := .aload_n 2) (k := 1) (pc' := 279) (lv' := [(3, .int v46), (2, .ref b38), (1, .int (τ1.i 0 18)), (0, .ref 0)]) (st' := [.ref b38, .ref 0, .ref b38]) (by decide +kernel) rfl rfl ?_
            refine ab_fin.s2 (i := .iload_n 3) (k := 1) (pc' := 280) (lv' := [(3, .int v46), (2, .ref b38), (1, .int (τ1.i 0 18)), (0, .ref 0)]) (st' := [.int v46, .ref b38, .ref 0, .ref b38]) (by decide +kernel) rfl rfl ?_
            refine ab_fin.q_yW (i := .invokevirtual 459) (k := 3) (y := 5931) (As := [.ref 0, .ref b38, .int v46]) (rest := [.ref b38]) (M' := (mX23_under, [])) (lv2 := [(0, .ref 0), (1, .ref b38), (2, .int v46)]) (pc' := 283) (X := K) (by decide +kernel) (ab_cv rfl rfl (conc_get (σ := τ47) (F48.s s0_0)) ⟨(Nat.le_of_ble_eq_true rfl), (Nat.le_of_ble_eq_true rfl)⟩ rfl) rfl (Nat.le_of_ble_eq_true rfl) rfl rfl (hY_no fun E => rfl) w (fun v51 τ49 F50 w => ?_)
            obtain ⟨e52, w⟩ := w
            have F53 := FX.w (Φ := ΦR) (a := b38) (k := 6) (v := v51) F50 (cD F50 e52 rfl)
            refine ab_fin.q_pF (ix := 414) (ci := 21) (k := 6) (h1 := conc (τ49.wr b38 6 v51)) (pc' := 286) (by decide +kernel) rfl (c_pR (v := v51) e52 rfl) nRv_n nRv_f rfl ?_
            refine ab_fin.s3 (i := .goto 70) (k := 3) (t := 356) (st' := []) (by decide +kernel) (ab_gto (by decide +kernel)) ?_
            refine ab_fin.s2 (i := .aload_n 0) (k := 1) (pc' := 357) (lv' := [(3, .int v46), (2, .ref b38), (1, .int (τ1.i 0 18)), (0, .ref 0)]) (st' := [.ref 0]) (by decide +kernel) rfl rfl ?_
            refine ab_fin.s1 (i := .dup) (k := 1) (pc' := 358) (st' := [.ref 0, .ref 0]) (by decide +kernel) rfl rfl ?_
            refine ab_fin.q_rI (x := (τ49.i 0 20)) (ix := 253) (ci := 24) (k := 20) (pc' := 361) (by decide +kernel) rfl (c_rI (F53.s s0_0) rfl) rfl ?_
            refine ab_fin.s1i (i := .iconst 1) (k := 1) (pc' := 362) (n := 1) (by decide +kernel) rfl (by decide +kernel) rfl ?_
            refine ab_fin.s1 (i := .isub) (k := 1) (pc' := 363) (st' := [.int ((τ49.i 0 20) - (1 : Int32)), .ref 0]) (by decide +kernel) rfl rfl ?_
            refine ab_fin.q_pF (ix := 253) (ci := 24) (k := 20) (h1 := conc ((τ49.wr b38 6 v51).wi 0 20 ((τ49.i 0 20) - (1 : Int32)))) (pc' := 366) (by decide +kernel) rfl (c_pI (v := ((τ49.i 0 20) - (1 : Int32))) (F53.s s0_0) rfl) rfl rfl rfl ?_
            refine ab_fin.s2 (i := .aload_n 2) (k := 1) (pc' := 367) (lv' := [(3, .int v46), (2, .ref b38), (1, .int (τ1.i 0 18)), (0, .ref 0)]) (st' := [.ref b38]) (by decide +kernel) rfl rfl ?_
            exact ab_fin.q_ret (i := .areturn) (k := 1) (v := some (.ref b38)) (by decide +kernel) rfl F53 w
        · replace w := w.2 q
          exact ab_fin.lv ⟨(List.forall_mem_cons.mpr ⟨(List.Mem.tail _ (List.Mem.head _)), (List.forall_mem_cons.mpr ⟨(List.Mem.head _), (fun _ h => absurd h List.not_mem_nil)⟩)⟩), (show ([1, 0] : List Nat).Nodup from by decide)⟩ w
    · replace w := w.2 q
      refine ab_fin.s2 (i := .aload_n 0) (k := 1) (pc' := 80) (lv' := [(1, .int (τ1.i 0 18)), (0, .ref 0)]) (st' := [.ref 0]) (by decide +kernel) rfl rfl ?_
      refine ab_fin.s2 (i := .iload_n 1) (k := 1) (pc' := 81) (lv' := [(1, .int (τ1.i 0 18)), (0, .ref 0)]) (st' := [.int (τ1.i 0 18), .ref 0]) (by decide +kernel) rfl rfl ?_
      refine ab_fin.q_yN (i := .invokevirtual 453) (k := 3) (y := 5912) (As := [.ref 0, .int (τ1.i 0 18)]) (rest := []) (M' := (mX23_counted, [])) (lv2 := [(0, .ref 0), (1, .int (τ1.i 0 18))]) (pc' := 84) (X := K) (by decide +kernel) (ab_cv rfl rfl (conc_get (σ := τ6) (F7.s s0_0)) ⟨(Nat.le_of_ble_eq_true rfl), (Nat.le_of_ble_eq_true rfl)⟩ rfl) rfl (Nat.le_of_ble_eq_true rfl) rfl rfl (hY_no fun E => rfl) w (fun τ54 F55 w => ?_)
      refine ab_fin.s2 (i := .aload_n 0) (k := 1) (pc' := 85) (lv' := [(1, .int (τ1.i 0 18)), (0, .ref 0)]) (st' := [.ref 0]) (by decide +kernel) rfl rfl ?_
      obtain ⟨b56, e57, w⟩ := w
      refine ab_fin.q_rA (b := b56) (ix := 353) (ci := 24) (k := 34) (pc' := 88) (by decide +kernel) rfl (c_rA (F55.s s0_0) rfl e57) rfl ?_
      refine ab_fin.s1i (i := .iconst 2) (k := 1) (pc' := 89) (n := 2) (by decide +kernel) rfl (by decide +kernel) rfl ?_
      obtain ⟨e58, w⟩ := w
      refine ab_fin.q_yW (i := .invokevirtual 403) (k := 3) (y := 5377) (As := [.ref b56, .int 2]) (rest := []) (M' := (mX21_get, [])) (lv2 := [(0, .ref b56), (1, .int 2)]) (pc' := 92) (X := K) (by decide +kernel) (ab_cv rfl rfl (conc_get (σ := τ54) (F55.s e58)) ⟨(Nat.le_of_ble_eq_true rfl), (Nat.le_of_ble_eq_true rfl)⟩ rfl) rfl (Nat.le_of_ble_eq_true rfl) rfl rfl (hY_no fun E => rfl) w (fun v61 τ59 F60 w => ?_)
      refine ab_fin.q_stA (i := .astore_n 2) (n := 2) (k := 1) (pc' := 93) (lv' := [(2, rv v61), (1, .int (τ1.i 0 18)), (0, .ref 0)]) (Or.inl ⟨_, rfl, rfl, rfl⟩) (by decide +kernel) (by decide) (oR_rv _) rfl rfl ?_
      refine ab_fin.ald (i := .aload_n 2) (n := 2) (k := 1) (pc' := 94) (Or.inl ⟨_, rfl, rfl, rfl⟩) (by decide +kernel) rfl (oR_rv _) rfl ?_
      refine ab_fin.s2 (i := .aload_n 0) (k := 1) (pc' := 95) (lv' := [(2, rv v61), (1, .int (τ1.i 0 18)), (0, .ref 0)]) (st' := [.ref 0, rv v61]) (by decide +kernel) rfl rfl ?_
      refine ab_fin.q_yW (i := .invokevirtual 372) (k := 3) (y := 5930) (As := [.ref 0]) (rest := [rv v61]) (M' := (mX23_e, [])) (lv2 := [(0, .ref 0)]) (pc' := 98) (X := K) (by decide +kernel) (ab_cv rfl rfl (conc_get (σ := τ59) (F60.s s0_0)) ⟨(Nat.le_of_ble_eq_true rfl), (by simp only [ab_cat, List.map_cons, List.map_nil, cI, cL, cR1, cN1, cX1, cA (oR_rv _)]; exact Nat.le_of_ble_eq_true rfl)⟩ rfl) rfl (Nat.le_of_ble_eq_true rfl) rfl rfl (hY_no fun E => rfl) w (fun v64 τ62 F63 w => ?_)
      obtain ⟨b65, e66, w⟩ := w
      rw [show rv v61 = .ref b65 from by rw [e66]; rfl]
      obtain ⟨e67, w⟩ := w
      have F68 := FX.w (Φ := ΦR) (a := b65) (k := 5) (v := v64) F63 (cD F63 e67 rfl)
      refine ab_fin.q_pF (ix := 409) (ci := 21) (k := 5) (h1 := conc (τ62.wr b65 5 v64)) (pc' := 101) (by decide +kernel) rfl (c_pR (v := v64) e67 rfl) nRv_n nRv_f rfl ?_
      refine ab_fin.s2 (i := .aload_n 0) (k := 1) (pc' := 102) (lv' := [(2, .ref b65), (1, .int (τ1.i 0 18)), (0, .ref 0)]) (st' := [.ref 0]) (by decide +kernel) rfl rfl ?_
      refine ab_fin.s8 (i := .ldc 169) (k := 2) (pc' := 104) (st' := [.retAddr 176, .ref 0]) (by decide +kernel) rfl rfl rfl rfl ?_
      refine ab_fin.q_yN (i := .invokevirtual 456) (k := 3) (y := 5907) (As := [.ref 0, .retAddr 176]) (rest := []) (M' := (mX23_want_, [])) (lv2 := [(0, .ref 0), (1, .retAddr 176)]) (pc' := 107) (X := K) (by decide +kernel) (ab_cv rfl rfl (conc_get (σ := (τ62.wr b65 5 v64)) (F68.s s0_0)) ⟨(Nat.le_of_ble_eq_true rfl), (Nat.le_of_ble_eq_true rfl)⟩ rfl) rfl (Nat.le_of_ble_eq_true rfl) rfl rfl (hY_no fun E => rfl) w (fun τ69 F70 w => ?_)
      refine ab_fin.s2 (i := .aload_n 2) (k := 1) (pc' := 108) (lv' := [(2, .ref b65), (1, .int (τ1.i 0 18)), (0, .ref 0)]) (st' := [.ref b65]) (by decide +kernel) rfl rfl ?_
      refine ab_fin.s2 (i := .aload_n 0) (k := 1) (pc' := 109) (lv' := [(2, .ref b65), (1, .int (τ1.i 0 18)), (0, .ref 0)]) (st' := [.ref 0, .ref b65]) (by decide +kernel) rfl rfl ?_
      refine ab_fin.q_yW (i := .invokevirtual 372) (k := 3) (y := 5930) (As := [.ref 0]) (rest := [.ref b65]) (M' := (mX23_e, [])) (lv2 := [(0, .ref 0)]) (pc' := 112) (X := K) (by decide +kernel) (ab_cv rfl rfl (conc_get (σ := τ69) (F70.s s0_0)) ⟨(Nat.le_of_ble_eq_true rfl), (Nat.le_of_ble_eq_true rfl)⟩ rfl) rfl (Nat.le_of_ble_eq_true rfl) rfl rfl (hY_no fun E => rfl) w (fun v73 τ71 F72 w => ?_)
      obtain ⟨e74, w⟩ := w
      have F75 := FX.w (Φ := ΦR) (a := b65) (k := 6) (v := v73) F72 (cD F72 e74 rfl)
      refine ab_fin.q_pF (ix := 414) (ci := 21) (k := 6) (h1 := conc (τ71.wr b65 6 v73)) (pc' := 115) (by decide +kernel) rfl (c_pR (v := v73) e74 rfl) nRv_n nRv_f rfl ?_
      refine ab_fin.s2 (i := .aload_n 0) (k := 1) (pc' := 116) (lv' := [(2, .ref b65), (1, .int (τ1.i 0 18)), (0, .ref 0)]) (st' := [.ref 0]) (by decide +kernel) rfl rfl ?_
      refine ab_fin.s8 (i := .ldc 134) (k := 2) (pc' := 118) (st' := [.retAddr 140, .ref 0]) (by decide +kernel) rfl rfl rfl rfl ?_
      refine ab_fin.q_yN (i := .invokevirtual 456) (k := 3) (y := 5907) (As := [.ref 0, .retAddr 140]) (rest := []) (M' := (mX23_want_, [])) (lv2 := [(0, .ref 0), (1, .retAddr 140)]) (pc' := 121) (X := K) (by decide +kernel) (ab_cv rfl rfl (conc_get (σ := (τ71.wr b65 6 v73)) (F75.s s0_0)) ⟨(Nat.le_of_ble_eq_true rfl), (Nat.le_of_ble_eq_true rfl)⟩ rfl) rfl (Nat.le_of_ble_eq_true rfl) rfl rfl (hY_no fun E => rfl) w (fun τ76 F77 w => ?_)
      refine ab_fin.s2 (i := .aload_n 2) (k := 1) (pc' := 122) (lv' := [(2, .ref b65), (1, .int (τ1.i 0 18)), (0, .ref 0)]) (st' := [.ref b65]) (by decide +kernel) rfl rfl ?_
      refine ab_fin.s2 (i := .aload_n 0) (k := 1) (pc' := 123) (lv' := [(2, .ref b65), (1, .int (τ1.i 0 18)), (0, .ref 0)]) (st' := [.ref 0, .ref b65]) (by decide +kernel) rfl rfl ?_
      refine ab_fin.q_yW (i := .invokevirtual 372) (k := 3) (y := 5930) (As := [.ref 0]) (rest := [.ref b65]) (M' := (mX23_e, [])) (lv2 := [(0, .ref 0)]) (pc' := 126) (X := K) (by decide +kernel) (ab_cv rfl rfl (conc_get (σ := τ76) (F77.s s0_0)) ⟨(Nat.le_of_ble_eq_true rfl), (Nat.le_of_ble_eq_true rfl)⟩ rfl) rfl (Nat.le_of_ble_eq_true rfl) rfl rfl (hY_no fun E => rfl) w (fun v80 τ78 F79 w => ?_)
      obtain ⟨e81, w⟩ := w
      have F82 := FX.w (Φ := ΦR) (a := b65) (k := 7) (v := v80) F79 (cD F79 e81 rfl)
      refine ab_fin.q_pF (ix := 463) (ci := 21) (k := 7) (h1 := conc (τ78.wr b65 7 v80)) (pc' := 129) (by decide +kernel) rfl (c_pR (v := v80) e81 rfl) nRv_n nRv_f rfl ?_
      refine ab_fin.s3 (i := .goto 227) (k := 3) (t := 356) (st' := []) (by decide +kernel) (ab_gto (by decide +kernel)) ?_
      refine ab_fin.s2 (i := .aload_n 0) (k := 1) (pc' := 357) (lv' := [(2, .ref b65), (1, .int (τ1.i 0 18)), (0, .ref 0)]) (st' := [.ref 0]) (by decide +kernel) rfl rfl ?_
      refine ab_fin.s1 (i := .dup) (k := 1) (pc' := 358) (st' := [.ref 0, .ref 0]) (by decide +kernel) rfl rfl ?_
      refine ab_fin.q_rI (x := (τ78.i 0 20)) (ix := 253) (ci := 24) (k := 20) (pc' := 361) (by decide +kernel) rfl (c_rI (F82.s s0_0) rfl) rfl ?_
      refine ab_fin.s1i (i := .iconst 1) (k := 1) (pc' := 362) (n := 1) (by decide +kernel) rfl (by decide +kernel) rfl ?_
      refine ab_fin.s1 (i := .isub) (k := 1) (pc' := 363) (st' := [.int ((τ78.i 0 20) - (1 : Int32)), .ref 0]) (by decide +kernel) rfl rfl ?_
      refine ab_fin.q_pF (ix := 253) (ci := 24) (k := 20) (h1 := conc ((τ78.wr b65 7 v80).wi 0 20 ((τ78.i 0 20) - (1 : Int32)))) (pc' := 366) (by decide +kernel) rfl (c_pI (v := ((τ78.i 0 20) - (1 : Int32))) (F82.s s0_0) rfl) rfl rfl rfl ?_
      refine ab_fin.s2 (i := .aload_n 2) (k := 1) (pc' := 367) (lv' := [(2, .ref b65), (1, .int (τ1.i 0 18)), (0, .ref 0)]) (st' := [.ref b65]) (by decide +kernel) rfl rfl ?_
      exact ab_fin.q_ret (i := .areturn) (k := 1) (v := some (.ref b65)) (by decide +kernel) rfl F82 w
  · replace w := w.2 q
    refine ab_fin.s2 (i := .aload_n 0) (k := 1) (pc' := 19) (lv' := [(1, .int (τ1.i 0 18)), (0, .ref 0)]) (st' := [.ref 0]) (by decide +kernel) rfl rfl ?_
    refine ab_fin.s2 (i := .iload_n 1) (k := 1) (pc' := 20) (lv' := [(1, .int (τ1.i 0 18)), (0, .ref 0)]) (st' := [.int (τ1.i 0 18), .ref 0]) (by decide +kernel) rfl rfl ?_
    refine ab_fin.q_yN (i := .invokevirtual 453) (k := 3) (y := 5912) (As := [.ref 0, .int (τ1.i 0 18)]) (rest := []) (M' := (mX23_counted, [])) (lv2 := [(0, .ref 0), (1, .int (τ1.i 0 18))]) (pc' := 23) (X := K) (by decide +kernel) (ab_cv rfl rfl (conc_get (σ := τ3) (F4.s s0_0)) ⟨(Nat.le_of_ble_eq_true rfl), (Nat.le_of_ble_eq_true rfl)⟩ rfl) rfl (Nat.le_of_ble_eq_true rfl) rfl rfl (hY_no fun E => rfl) w (fun τ83 F84 w => ?_)
    refine ab_fin.s2 (i := .aload_n 0) (k := 1) (pc' := 24) (lv' := [(1, .int (τ1.i 0 18)), (0, .ref 0)]) (st' := [.ref 0]) (by decide +kernel) rfl rfl ?_
    obtain ⟨b85, e86, w⟩ := w
    refine ab_fin.q_rA (b := b85) (ix := 353) (ci := 24) (k := 34) (pc' := 27) (by decide +kernel) rfl (c_rA (F84.s s0_0) rfl e86) rfl ?_
    refine ab_fin.s1i (i := .iconst 1) (k := 1) (pc' := 28) (n := 1) (by decide +kernel) rfl (by decide +kernel) rfl ?_
    obtain ⟨e87, w⟩ := w
    refine ab_fin.q_yW (i := .invokevirtual 403) (k := 3) (y := 5377) (As := [.ref b85, .int 1]) (rest := []) (M' := (mX21_get, [])) (lv2 := [(0, .ref b85), (1, .int 1)]) (pc' := 31) (X := K) (by decide +kernel) (ab_cv rfl rfl (conc_get (σ := τ83) (F84.s e87)) ⟨(Nat.le_of_ble_eq_true rfl), (Nat.le_of_ble_eq_true rfl)⟩ rfl) rfl (Nat.le_of_ble_eq_true rfl) rfl rfl (hY_no fun E => rfl) w (fun v90 τ88 F89 w => ?_)
    refine ab_fin.q_stA (i := .astore_n 2) (n := 2) (k := 1) (pc' := 32) (lv' := [(2, rv v90), (1, .int (τ1.i 0 18)), (0, .ref 0)]) (Or.inl ⟨_, rfl, rfl, rfl⟩) (by decide +kernel) (by decide) (oR_rv _) rfl rfl ?_
    refine ab_fin.s2 (i := .aload_n 0) (k := 1) (pc' := 33) (lv' := [(2, rv v90), (1, .int (τ1.i 0 18)), (0, .ref 0)]) (st' := [.ref 0]) (by decide +kernel) rfl rfl ?_
    refine ab_fin.q_yI (i := .invokevirtual 277) (k := 3) (y := 5909) (As := [.ref 0]) (rest := []) (M' := (mX23_name, [])) (lv2 := [(0, .ref 0)]) (pc' := 36) (X := K) (by decide +kernel) (ab_cv rfl rfl (conc_get (σ := τ88) (F89.s s0_0)) ⟨(Nat.le_of_ble_eq_true rfl), (Nat.le_of_ble_eq_true rfl)⟩ rfl) rfl (Nat.le_of_ble_eq_true rfl) rfl rfl (hY_no fun E => rfl) w (fun v93 τ91 F92 w => ?_)
    refine ab_fin.q_stI (i := .istore_n 3) (n := 3) (k := 1) (pc' := 37) (lv' := [(3, .int v93), (2, rv v90), (1, .int (τ1.i 0 18)), (0, .ref 0)]) (Or.inl ⟨_, rfl, rfl, rfl⟩) (by decide +kernel) (by decide) (by simp only [ab_st1, List.filter_cons, List.filter_nil, cA (oR_rv _)]; rfl) rfl ?_
    refine ab_fin.s2 (i := .aload_n 0) (k := 1) (pc' := 38) (lv' := [(3, .int v93), (2, rv v90), (1, .int (τ1.i 0 18)), (0, .ref 0)]) (st' := [.ref 0]) (by decide +kernel) rfl rfl ?_
    refine ab_fin.s1i (i := .bipush 61) (k := 2) (pc' := 40) (n := 61) (by decide +kernel) rfl (by decide +kernel) rfl ?_
    refine ab_fin.q_yN (i := .invokevirtual 293) (k := 3) (y := 5906) (As := [.ref 0, .int 61]) (rest := []) (M' := (mX23_want, [])) (lv2 := [(0, .ref 0), (1, .int 61)]) (pc' := 43) (X := K) (by decide +kernel) (ab_cv rfl rfl (conc_get (σ := τ91) (F92.s s0_0)) ⟨(Nat.le_of_ble_eq_true rfl), (Nat.le_of_ble_eq_true rfl)⟩ rfl) rfl (Nat.le_of_ble_eq_true rfl) rfl rfl (hY_no fun E => rfl) w (fun τ94 F95 w => ?_)
    refine ab_fin.ald (i := .aload_n 2) (n := 2) (k := 1) (pc' := 44) (Or.inl ⟨_, rfl, rfl, rfl⟩) (by decide +kernel) rfl (oR_rv _) rfl ?_
    refine ab_fin.s2 (i := .aload_n 0) (k := 1) (pc' := 45) (lv' := [(3, .int v93), (2, rv v90), (1, .int (τ1.i 0 18)), (0, .ref 0)]) (st' := [.ref 0, rv v90]) (by decide +kernel) rfl rfl ?_
    refine ab_fin.q_yW (i := .invokevirtual 372) (k := 3) (y := 5930) (As := [.ref 0]) (rest := [rv v90]) (M' := (mX23_e, [])) (lv2 := [(0, .ref 0)]) (pc' := 48) (X := K) (by decide +kernel) (ab_cv rfl rfl (conc_get (σ := τ94) (F95.s s0_0)) ⟨(Nat.le_of_ble_eq_true rfl), (by simp only [ab_cat, List.map_cons, List.map_nil, cI, cL, cR1, cN1, cX1, cA (oR_rv _)]; exact Nat.le_of_ble_eq_true rfl)⟩ rfl) rfl (Nat.le_of_ble_eq_true rfl) rfl rfl (hY_no fun E => rfl) w (fun v98 τ96 F97 w => ?_)
    obtain ⟨b99, e100, w⟩ := w
    rw [show rv v90 = .ref b99 from by rw [e100]; rfl]
    obtain ⟨e101, w⟩ := w
    have F102 := FX.w (Φ := ΦR) (a := b99) (k := 5) (v := v98) F97 (cD F97 e101 rfl)
    refine ab_fin.q_pF (ix := 409) (ci := 21) (k := 5) (h1 := conc (τ96.wr b99 5 v98)) (pc' := 51) (by decide +kernel) rfl (c_pR (v := v98) e101 rfl) nRv_n nRv_f rfl ?_
    refine ab_fin.s2 (i := .aload_n 0) (k := 1) (pc' := 52) (lv' := [(3, .int v93), (2, .ref b99), (1, .int (τ1.i 0 18)), (0, .ref 0)]) (st' := [.ref 0]) (by decide +kernel) rfl rfl ?_
    refine ab_fin.s8 (i := .ldc 169) (k := 2) (pc' := 54) (st' := [.retAddr 176, .ref 0]) (by decide +kernel) rfl rfl rfl rfl ?_
    refine ab_fin.q_yN (i := .invokevirtual 456) (k := 3) (y := 5907) (As := [.ref 0, .retAddr 176]) (rest := []) (M' := (mX23_want_, [])) (lv2 := [(0, .ref 0), (1, .retAddr 176)]) (pc' := 57) (X := K) (by decide +kernel) (ab_cv rfl rfl (conc_get (σ := (τ96.wr b99 5 v98)) (F102.s s0_0)) ⟨(Nat.le_of_ble_eq_true rfl), (Nat.le_of_ble_eq_true rfl)⟩ rfl) rfl (Nat.le_of_ble_eq_true rfl) rfl rfl (hY_no fun E => rfl) w (fun τ103 F104 w => ?_)
    refine ab_fin.s2 (i := .aload_n 2) (k := 1) (pc' := 58) (lv' := [(3, .int v93), (2, .ref b99), (1, .int (τ1.i 0 18)), (0, .ref 0)]) (st' := [.ref b99]) (by decide +kernel) rfl rfl ?_
    refine ab_fin.s2 (i := .aload_n 0) (k := 1) (pc' := 59) (lv' := [(3, .int v93), (2, .ref b99), (1, .int (τ1.i 0 18)), (0, .ref 0)]) (st' := [.ref 0, .ref b99]) (by decide +kernel) rfl rfl ?_
    refine ab_fin.s2 (i := .aload_n 2) (k := 1) (pc' := 60) (lv' := [(3, .int v93), (2, .ref b99), (1, .int (τ1.i 0 18)), (0, .ref 0)]) (st' := [.ref b99, .ref 0, .ref b99]) (by decide +kernel) rfl rfl ?_
    refine ab_fin.s2 (i := .iload_n 3) (k := 1) (pc' := 61) (lv' := [(3, .int v93), (2, .ref b99), (1, .int (τ1.i 0 18)), (0, .ref 0)]) (st' := [.int v93, .ref b99, .ref 0, .ref b99]) (by decide +kernel) rfl rfl ?_
    refine ab_fin.q_yW (i := .invokevirtual 459) (k := 3) (y := 5931) (As := [.ref 0, .ref b99, .int v93]) (rest := [.ref b99]) (M' := (mX23_under, [])) (lv2 := [(0, .ref 0), (1, .ref b99), (2, .int v93)]) (pc' := 64) (X := K) (by decide +kernel) (ab_cv rfl rfl (conc_get (σ := τ103) (F104.s s0_0)) ⟨(Nat.le_of_ble_eq_true rfl), (Nat.le_of_ble_eq_true rfl)⟩ rfl) rfl (Nat.le_of_ble_eq_true rfl) rfl rfl (hY_no fun E => rfl) w (fun v107 τ105 F106 w => ?_)
    obtain ⟨e108, w⟩ := w
    have F109 := FX.w (Φ := ΦR) (a := b99) (k := 6) (v := v107) F106 (cD F106 e108 rfl)
    refine ab_fin.q_pF (ix := 414) (ci := 21) (k := 6) (h1 := conc (τ105.wr b99 6 v107)) (pc' := 67) (by decide +kernel) rfl (c_pR (v := v107) e108 rfl) nRv_n nRv_f rfl ?_
    refine ab_fin.s3 (i := .goto 289) (k := 3) (t := 356) (st' := []) (by decide +kernel) (ab_gto (by decide +kernel)) ?_
    refine ab_fin.s2 (i := .aload_n 0) (k := 1) (pc' := 357) (lv' := [(3, .int v93), (2, .ref b99), (1, .int (τ1.i 0 18)), (0, .ref 0)]) (st' := [.ref 0]) (by decide +kernel) rfl rfl ?_
    refine ab_fin.s1 (i := .dup) (k := 1) (pc' := 358) (st' := [.ref 0, .ref 0]) (by decide +kernel) rfl rfl ?_
    refine ab_fin.q_rI (x := (τ105.i 0 20)) (ix := 253) (ci := 24) (k := 20) (pc' := 361) (by decide +kernel) rfl (c_rI (F109.s s0_0) rfl) rfl ?_
    refine ab_fin.s1i (i := .iconst 1) (k := 1) (pc' := 362) (n := 1) (by decide +kernel) rfl (by decide +kernel) rfl ?_
    refine ab_fin.s1 (i := .isub) (k := 1) (pc' := 363) (st' := [.int ((τ105.i 0 20) - (1 : Int32)), .ref 0]) (by decide +kernel) rfl rfl ?_
    refine ab_fin.q_pF (ix := 253) (ci := 24) (k := 20) (h1 := conc ((τ105.wr b99 6 v107).wi 0 20 ((τ105.i 0 20) - (1 : Int32)))) (pc' := 366) (by decide +kernel) rfl (c_pI (v := ((τ105.i 0 20) - (1 : Int32))) (F109.s s0_0) rfl) rfl rfl rfl ?_
    refine ab_fin.s2 (i := .aload_n 2) (k := 1) (pc' := 367) (lv' := [(3, .int v93), (2, .ref b99), (1, .int (τ1.i 0 18)), (0, .ref 0)]) (st' := [.ref b99]) (by decide +kernel) rfl rfl ?_
    exact ab_fin.q_ret (i := .areturn) (k := 1) (v := some (.ref b99)) (by decide +kernel) rfl F109 w
theorem S_X23_e_150 {Z : zT} {d : Nat} {σ : Sg} {l1 : Int32} {K : kS} (F : FX ΦR σ.sh σ.r) (w : B_X23_counted_0 Z d σ l1 (yN K fun τ1 => ∃ b3, (τ1.r 0 34) = Rf.ptr b3 ∧ (B_X23_is__0 Z d τ1 (Rf.old 180) (yI K fun v7 τ5 => (v7 = 0 → B_X23_e_173 Z (d + 1) τ5 b3 4 K) ∧ (¬ v7 = 0 → B_X23_e_173 Z (d + 1) τ5 b3 3 K))))) : B_X23_e_150 Z (d + 1) σ l1 K := by
  unfold B_X23_e_150
  refine ab_fin.s2 (i := .aload_n 0) (k := 1) (pc' := 151) (lv' := [(0, .ref 0), (1, .int l1)]) (st' := [.ref 0]) (by decide +kernel) rfl rfl ?_
  refine ab_fin.s2 (i := .iload_n 1) (k := 1) (pc' := 152) (lv' := [(0, .ref 0), (1, .int l1)]) (st' := [.int l1, .ref 0]) (by decide +kernel) rfl rfl ?_
  refine ab_fin.q_yN (i := .invokevirtual 453) (k := 3) (y := 5912) (As := [.ref 0, .int l1]) (rest := []) (M' := (mX23_counted, [])) (lv2 := [(0, .ref 0), (1, .int l1)]) (pc' := 155) (X := K) (by decide +kernel) (ab_cv rfl rfl (conc_get (σ := σ) (F.s s0_0)) ⟨(Nat.le_of_ble_eq_true rfl), (Nat.le_of_ble_eq_true rfl)⟩ rfl) rfl (Nat.le_of_ble_eq_true rfl) rfl rfl (hY_no fun E => rfl) w (fun τ1 F2 w => ?_)
  refine ab_fin.s2 (i := .aload_n 0) (k := 1) (pc' := 156) (lv' := [(0, .ref 0), (1, .int l1)]) (st' := [.ref 0]) (by decide +kernel) rfl rfl ?_
  obtain ⟨b3, e4, w⟩ := w
  refine ab_fin.q_rA (b := b3) (ix := 353) (ci := 24) (k := 34) (pc' := 159) (by decide +kernel) rfl (c_rA (F2.s s0_0) rfl e4) rfl ?_
  refine ab_fin.s2 (i := .aload_n 0) (k := 1) (pc' := 160) (lv' := [(0, .ref 0), (1, .int l1)]) (st' := [.ref 0, .ref b3]) (by decide +kernel) rfl rfl ?_
  refine ab_fin.s8 (i := .ldc 173) (k := 2) (pc' := 162) (st' := [.retAddr 180, .ref 0, .ref b3]) (by decide +kernel) rfl rfl rfl rfl ?_
  refine ab_fin.q_yI (i := .invokevirtual 242) (k := 3) (y := 5905) (As := [.ref 0, .retAddr 180]) (rest := [.ref b3]) (M' := (mX23_is_, [])) (lv2 := [(0, .ref 0), (1, .retAddr 180)]) (pc' := 165) (X := K) (by decide +kernel) (ab_cv rfl rfl (conc_get (σ := τ1) (F2.s s0_0)) ⟨(Nat.le_of_ble_eq_true rfl), (Nat.le_of_ble_eq_true rfl)⟩ rfl) rfl (Nat.le_of_ble_eq_true rfl) rfl rfl (hY_no fun E => rfl) w (fun v7 τ5 F6 w => ?_)
  refine ab_fin.br (c := v7 = 0) (i := .ifCond .eq 7) (off := 7) (t := 172) (pc' := 168) (r := [.ref b3]) (by decide +kernel) rfl (by decide +kernel) rfl (fun q => ?_) (fun q => ?_)
  · replace w := w.1 q
    refine ab_fin.s1i (i := .iconst 4) (k := 1) (pc' := 173) (n := 4) (by decide +kernel) rfl (by decide +kernel) rfl ?_
    exact ab_fin.lv ⟨(List.forall_mem_cons.mpr ⟨(List.Mem.head _), (fun _ h => absurd h List.not_mem_nil)⟩), (show ([0, 1] : List Nat).Nodup from by decide)⟩ w
  · replace w := w.2 q
    refine ab_fin.s1i (i := .iconst 3) (k := 1) (pc' := 169) (n := 3) (by decide +kernel) rfl (by decide +kernel) rfl ?_
    refine ab_fin.s3 (i := .goto 4) (k := 3) (t := 173) (st' := [.int 3, .ref b3]) (by decide +kernel) (ab_gto (by decide +kernel)) ?_
    exact ab_fin.lv ⟨(List.forall_mem_cons.mpr ⟨(List.Mem.head _), (fun _ h => absurd h List.not_mem_nil)⟩), (show ([0, 1] : List Nat).Nodup from by decide)⟩ w
theorem S_X23_e_173 {Z : zT} {d : Nat} {σ : Sg} {s0 : Nat} {s1 : Int32} {K : kS} (F : FX ΦR σ.sh σ.r) (w : sh0R[s0]? = some (Sh.obj 22) ∧ (B_X21_get_0 Z d σ s0 s1 (yW K fun v4 τ2 => B_X23_next_0 Z d τ2  (yN K fun τ5 => B_X23_name_0 Z d τ5  (yI K fun v9 τ7 => B_X23_layerNamed_0 Z d τ7 v9 (yI K fun v12 τ10 => ∃ b13, v4 = Rf.ptr b13 ∧ (τ10.sh[b13]? = some (Sh.obj 21) ∧ ((0 ≤ ((τ10.wi b13 1 v12).i b13 1) → B_X23_e_211 Z (d + 1) (τ10.wi b13 1 v12) b13 K) ∧ (¬ 0 ≤ ((τ10.wi b13 1 v12).i b13 1) → B_X23_breaks_0 Z d (τ10.wi b13 1 v12) 3 (τ5.i 0 18) (yN K fun τ16 => B_X23_e_211 Z (d + 1) τ16 b13 K)))))))))) : B_X23_e_173 Z (d + 1) σ s0 s1 K := by
  unfold B_X23_e_173
  obtain ⟨e1, w⟩ := w
  refine ab_fin.q_yW (i := .invokevirtual 403) (k := 3) (y := 5377) (As := [.ref s0, .int s1]) (rest := []) (M' := (mX21_get, [])) (lv2 := [(0, .ref s0), (1, .int s1)]) (pc' := 176) (X := K) (by decide +kernel) (ab_cv rfl rfl (conc_get (σ := σ) (F.s e1)) ⟨(Nat.le_of_ble_eq_true rfl), (Nat.le_of_ble_eq_true rfl)⟩ rfl) rfl (Nat.le_of_ble_eq_true rfl) rfl rfl (hY_no fun E => rfl) w (fun v4 τ2 F3 w => ?_)
  refine ab_fin.q_stA (i := .astore_n 2) (n := 2) (k := 1) (pc' := 177) (lv' := [(2, rv v4), (0, .ref 0)]) (Or.inl ⟨_, rfl, rfl, rfl⟩) (by decide +kernel) (by decide) (oR_rv _) rfl rfl ?_
  refine ab_fin.s2 (i := .aload_n 0) (k := 1) (pc' := 178) (lv' := [(2, rv v4), (0, .ref 0)]) (st' := [.ref 0]) (by decide +kernel) rfl rfl ?_
  refine ab_fin.q_yN (i := .invokevirtual 239) (k := 3) (y := 5902) (As := [.ref 0]) (rest := []) (M' := (mX23_next, [])) (lv2 := [(0, .ref 0)]) (pc' := 181) (X := K) (by decide +kernel) (ab_cv rfl rfl (conc_get (σ := τ2) (F3.s s0_0)) ⟨(Nat.le_of_ble_eq_true rfl), (Nat.le_of_ble_eq_true rfl)⟩ rfl) rfl (Nat.le_of_ble_eq_true rfl) rfl rfl (hY_no fun E => rfl) w (fun τ5 F6 w => ?_)
  refine ab_fin.s2 (i := .aload_n 0) (k := 1) (pc' := 182) (lv' := [(2, rv v4), (0, .ref 0)]) (st' := [.ref 0]) (by decide +kernel) rfl rfl ?_
  refine ab_fin.q_rI (x := (τ5.i 0 18)) (ix := 106) (ci := 24) (k := 18) (pc' := 185) (by decide +kernel) rfl (c_rI (F6.s s0_0) rfl) rfl ?_
  refine ab_fin.q_stI (i := .istore_n 3) (n := 3) (k := 1) (pc' := 186) (lv' := [(3, .int (τ5.i 0 18)), (2, rv v4), (0, .ref 0)]) (Or.inl ⟨_, rfl, rfl, rfl⟩) (by decide +kernel) (by decide) (by simp only [ab_st1, List.filter_cons, List.filter_nil, cA (oR_rv _)]; rfl) rfl ?_
  refine ab_fin.ald (i := .aload_n 2) (n := 2) (k := 1) (pc' := 187) (Or.inl ⟨_, rfl, rfl, rfl⟩) (by decide +kernel) rfl (oR_rv _) rfl ?_
  refine ab_fin.s2 (i := .aload_n 0) (k := 1) (pc' := 188) (lv' := [(3, .int (τ5.i 0 18)), (2, rv v4), (0, .ref 0)]) (st' := [.ref 0, rv v4]) (by decide +kernel) rfl rfl ?_
  refine ab_fin.s2 (i := .aload_n 0) (k := 1) (pc' := 189) (lv' := [(3, .int (τ5.i 0 18)), (2, rv v4), (0, .ref 0)]) (st' := [.ref 0, .ref 0, rv v4]) (by decide +kernel) rfl rfl ?_
  refine ab_fin.q_yI (i := .invokevirtual 277) (k := 3) (y := 5909) (As := [.ref 0]) (rest := [.ref 0, rv v4]) (M' := (mX23_name, [])) (lv2 := [(0, .ref 0)]) (pc' := 192) (X := K) (by decide +kernel) (ab_cv rfl rfl (conc_get (σ := τ5) (F6.s s0_0)) ⟨(Nat.le_of_ble_eq_true rfl), (by simp only [ab_cat, List.map_cons, List.map_nil, cI, cL, cR1, cN1, cX1, cA (oR_rv _)]; exact Nat.le_of_ble_eq_true rfl)⟩ rfl) rfl (Nat.le_of_ble_eq_true rfl) rfl rfl (hY_no fun E => rfl) w (fun v9 τ7 F8 w => ?_)
  refine ab_fin.q_yI (i := .invokevirtual 55) (k := 3) (y := 5892) (As := [.ref 0, .int v9]) (rest := [rv v4]) (M' := (mX23_layerNamed, [])) (lv2 := [(0, .ref 0), (1, .int v9)]) (pc' := 195) (X := K) (by decide +kernel) (ab_cv rfl rfl (conc_get (σ := τ7) (F8.s s0_0)) ⟨(Nat.le_of_ble_eq_true rfl), (by simp only [ab_cat, List.map_cons, List.map_nil, cI, cL, cR1, cN1, cX1, cA (oR_rv _)]; exact Nat.le_of_ble_eq_true rfl)⟩ rfl) rfl (Nat.le_of_ble_eq_true rfl) rfl rfl (hY_no fun E => rfl) w (fun v12 τ10 F11 w => ?_)
  obtain ⟨b13, e14, w⟩ := w
  rw [show rv v4 = .ref b13 from by rw [e14]; rfl]
  obtain ⟨e15, w⟩ := w
  refine ab_fin.q_pF (ix := 438) (ci := 21) (k := 1) (h1 := conc (τ10.wi b13 1 v12)) (pc' := 198) (by decide +kernel) rfl (c_pI (v := v12) e15 rfl) rfl rfl rfl ?_
  refine ab_fin.s2 (i := .aload_n 2) (k := 1) (pc' := 199) (lv' := [(3, .int (τ5.i 0 18)), (2, .ref b13), (0, .ref 0)]) (st' := [.ref b13]) (by decide +kernel) rfl rfl ?_
  refine ab_fin.q_rI (x := ((τ10.wi b13 1 v12).i b13 1)) (ix := 438) (ci := 21) (k := 1) (pc' := 202) (by decide +kernel) rfl (c_rI e15 rfl) rfl ?_
  refine ab_fin.br (c := 0 ≤ ((τ10.wi b13 1 v12).i b13 1)) (i := .ifCond .ge 9) (off := 9) (t := 211) (pc' := 205) (r := []) (by decide +kernel) rfl (by decide +kernel) rfl (fun q => ?_) (fun q => ?_)
  · replace w := w.1 q
    exact ab_fin.lv ⟨(List.forall_mem_cons.mpr ⟨(List.Mem.tail _ (List.Mem.tail _ (List.Mem.head _))), (List.forall_mem_cons.mpr ⟨(List.Mem.tail _ (List.Mem.head _)), (fun _ h => absurd h List.not_mem_nil)⟩)⟩), (show ([3, 2, 0] : List Nat).Nodup from by decide)⟩ w
  · replace w := w.2 q
    refine ab_fin.s2 (i := .aload_n 0) (k := 1) (pc' := 206) (lv' := [(3, .int (τ5.i 0 18)), (2, .ref b13), (0, .ref 0)]) (st' := [.ref 0]) (by decide +kernel) rfl rfl ?_
    refine ab_fin.s1i (i := .iconst 3) (k := 1) (pc' := 207) (n := 3) (by decide +kernel) rfl (by decide +kernel) rfl ?_
    refine ab_fin.s2 (i := .iload_n 3) (k := 1) (pc' := 208) (lv' := [(3, .int (τ5.i 0 18)), (2, .ref b13), (0, .ref 0)]) (st' := [.int (τ5.i 0 18), .int 3, .ref 0]) (by decide +kernel) rfl rfl ?_
    refine ab_fin.q_yN (i := .invokevirtual 259) (k := 3) (y := 5910) (As := [.ref 0, .int 3, .int (τ5.i 0 18)]) (rest := []) (M' := (mX23_breaks, [])) (lv2 := [(0, .ref 0), (1, .int 3), (2, .int (τ5.i 0 18))]) (pc' := 211) (X := K) (by decide +kernel) (ab_cv rfl rfl (conc_get (σ := (τ10.wi b13 1 v12)) (F11.s s0_0)) ⟨(Nat.le_of_ble_eq_true rfl), (Nat.le_of_ble_eq_true rfl)⟩ rfl) rfl (Nat.le_of_ble_eq_true rfl) rfl rfl (hY_no fun E => rfl) w (fun τ16 F17 w => ?_)
    exact ab_fin.lv ⟨(List.forall_mem_cons.mpr ⟨(List.Mem.tail _ (List.Mem.tail _ (List.Mem.head _))), (List.forall_mem_cons.mpr ⟨(List.Mem.tail _ (List.Mem.head _)), (fun _ h => absurd h List.not_mem_nil)⟩)⟩), (show ([3, 2, 0] : List Nat).Nodup from by decide)⟩ w
theorem S_X23_e_211 {Z : zT} {d : Nat} {σ : Sg} {l2 : Nat} {K : kS} (F : FX ΦR σ.sh σ.r) (w : B_X23_want__0 Z d σ (Rf.old 136) (yN K fun τ1 => B_X23_e_0 Z d τ1  (yW K fun v5 τ3 => τ3.sh[l2]? = some (Sh.obj 21) ∧ (K (.inl (some (.ref l2))) ((τ3.wr l2 5 v5).wi 0 20 ((τ3.i 0 20) - (1 : Int32))))))) : B_X23_e_211 Z (d + 1) σ l2 K := by
  unfold B_X23_e_211
  refine ab_fin.s2 (i := .aload_n 0) (k := 1) (pc' := 212) (lv' := [(0, .ref 0), (2, .ref l2)]) (st' := [.ref 0]) (by decide +kernel) rfl rfl ?_
  refine ab_fin.s8 (i := .ldc 130) (k := 2) (pc' := 214) (st' := [.retAddr 136, .ref 0]) (by decide +kernel) rfl rfl rfl rfl ?_
  refine ab_fin.q_yN (i := .invokevirtual 456) (k := 3) (y := 5907) (As := [.ref 0, .retAddr 136]) (rest := []) (M' := (mX23_want_, [])) (lv2 := [(0, .ref 0), (1, .retAddr 136)]) (pc' := 217) (X := K) (by decide +kernel) (ab_cv rfl rfl (conc_get (σ := σ) (F.s s0_0)) ⟨(Nat.le_of_ble_eq_true rfl), (Nat.le_of_ble_eq_true rfl)⟩ rfl) rfl (Nat.le_of_ble_eq_true rfl) rfl rfl (hY_no fun E => rfl) w (fun τ1 F2 w => ?_)
  refine ab_fin.s2 (i := .aload_n 2) (k := 1) (pc' := 218) (lv' := [(0, .ref 0), (2, .ref l2)]) (st' := [.ref l2]) (by decide +kernel) rfl rfl ?_
  refine ab_fin.s2 (i := .aload_n 0) (k := 1) (pc' := 219) (lv' := [(0, .ref 0), (2, .ref l2)]) (st' := [.ref 0, .ref l2]) (by decide +kernel) rfl rfl ?_
  refine ab_fin.q_yW (i := .invokevirtual 372) (k := 3) (y := 5930) (As := [.ref 0]) (rest := [.ref l2]) (M' := (mX23_e, [])) (lv2 := [(0, .ref 0)]) (pc' := 222) (X := K) (by decide +kernel) (ab_cv rfl rfl (conc_get (σ := τ1) (F2.s s0_0)) ⟨(Nat.le_of_ble_eq_true rfl), (Nat.le_of_ble_eq_true rfl)⟩ rfl) rfl (Nat.le_of_ble_eq_true rfl) rfl rfl (hY_no fun E => rfl) w (fun v5 τ3 F4 w => ?_)
  obtain ⟨e6, w⟩ := w
  have F7 := FX.w (Φ := ΦR) (a := l2) (k := 5) (v := v5) F4 (cD F4 e6 rfl)
  refine ab_fin.q_pF (ix := 409) (ci := 21) (k := 5) (h1 := conc (τ3.wr l2 5 v5)) (pc' := 225) (by decide +kernel) rfl (c_pR (v := v5) e6 rfl) nRv_n nRv_f rfl ?_
  refine ab_fin.s3 (i := .goto 131) (k := 3) (t := 356) (st' := []) (by decide +kernel) (ab_gto (by decide +kernel)) ?_
  refine ab_fin.s2 (i := .aload_n 0) (k := 1) (pc' := 357) (lv' := [(0, .ref 0), (2, .ref l2)]) (st' := [.ref 0]) (by decide +kernel) rfl rfl ?_
  refine ab_fin.s1 (i := .dup) (k := 1) (pc' := 358) (st' := [.ref 0, .ref 0]) (by decide +kernel) rfl rfl ?_
  refine ab_fin.q_rI (x := (τ3.i 0 20)) (ix := 253) (ci := 24) (k := 20) (pc' := 361) (by decide +kernel) rfl (c_rI (F7.s s0_0) rfl) rfl ?_
  refine ab_fin.s1i (i := .iconst 1) (k := 1) (pc' := 362) (n := 1) (by decide +kernel) rfl (by decide +kernel) rfl ?_
  refine ab_fin.s1 (i := .isub) (k := 1) (pc' := 363) (st' := [.int ((τ3.i 0 20) - (1 : Int32)), .ref 0]) (by decide +kernel) rfl rfl ?_
  refine ab_fin.q_pF (ix := 253) (ci := 24) (k := 20) (h1 := conc ((τ3.wr l2 5 v5).wi 0 20 ((τ3.i 0 20) - (1 : Int32)))) (pc' := 366) (by decide +kernel) rfl (c_pI (v := ((τ3.i 0 20) - (1 : Int32))) (F7.s s0_0) rfl) rfl rfl rfl ?_
  refine ab_fin.s2 (i := .aload_n 2) (k := 1) (pc' := 367) (lv' := [(0, .ref 0), (2, .ref l2)]) (st' := [.ref l2]) (by decide +kernel) rfl rfl ?_
  exact ab_fin.q_ret (i := .areturn) (k := 1) (v := some (.ref l2)) (by decide +kernel) rfl F7 w
theorem S_X23_e_307 {Z : zT} {d : Nat} {σ : Sg} {l1 : Int32} {K : kS} (F : FX ΦR σ.sh σ.r) (w : B_X23_counted_0 Z d σ l1 (yN K fun τ1 => ∃ b3, (τ1.r 0 34) = Rf.ptr b3 ∧ (B_X23_is__0 Z d τ1 (Rf.old 142) (yI K fun v7 τ5 => (v7 = 0 → B_X23_e_332 Z (d + 1) τ5 b3 7 K) ∧ (¬ v7 = 0 → B_X23_e_332 Z (d + 1) τ5 b3 6 K))))) : B_X23_e_307 Z (d + 1) σ l1 K := by
  unfold B_X23_e_307
  refine ab_fin.s2 (i := .aload_n 0) (k := 1) (pc' := 308) (lv' := [(0, .ref 0), (1, .int l1)]) (st' := [.ref 0]) (by decide +kernel) rfl rfl ?_
  refine ab_fin.s2 (i := .iload_n 1) (k := 1) (pc' := 309) (lv' := [(0, .ref 0), (1, .int l1)]) (st' := [.int l1, .ref 0]) (by decide +kernel) rfl rfl ?_
  refine ab_fin.q_yN (i := .invokevirtual 453) (k := 3) (y := 5912) (As := [.ref 0, .int l1]) (rest := []) (M' := (mX23_counted, [])) (lv2 := [(0, .ref 0), (1, .int l1)]) (pc' := 312) (X := K) (by decide +kernel) (ab_cv rfl rfl (conc_get (σ := σ) (F.s s0_0)) ⟨(Nat.le_of_ble_eq_true rfl), (Nat.le_of_ble_eq_true rfl)⟩ rfl) rfl (Nat.le_of_ble_eq_true rfl) rfl rfl (hY_no fun E => rfl) w (fun τ1 F2 w => ?_)
  refine ab_fin.s2 (i := .aload_n 0) (k := 1) (pc' := 313) (lv' := [(0, .ref 0), (1, .int l1)]) (st' := [.ref 0]) (by decide +kernel) rfl rfl ?_
  obtain ⟨b3, e4, w⟩ := w
  refine ab_fin.q_rA (b := b3) (ix := 353) (ci := 24) (k := 34) (pc' := 316) (by decide +kernel) rfl (c_rA (F2.s s0_0) rfl e4) rfl ?_
  refine ab_fin.s2 (i := .aload_n 0) (k := 1) (pc' := 317) (lv' := [(0, .ref 0), (1, .int l1)]) (st' := [.ref 0, .ref b3]) (by decide +kernel) rfl rfl ?_
  refine ab_fin.s8 (i := .ldc 136) (k := 2) (pc' := 319) (st' := [.retAddr 142, .ref 0, .ref b3]) (by decide +kernel) rfl rfl rfl rfl ?_
  refine ab_fin.q_yI (i := .invokevirtual 242) (k := 3) (y := 5905) (As := [.ref 0, .retAddr 142]) (rest := [.ref b3]) (M' := (mX23_is_, [])) (lv2 := [(0, .ref 0), (1, .retAddr 142)]) (pc' := 322) (X := K) (by decide +kernel) (ab_cv rfl rfl (conc_get (σ := τ1) (F2.s s0_0)) ⟨(Nat.le_of_ble_eq_true rfl), (Nat.le_of_ble_eq_true rfl)⟩ rfl) rfl (Nat.le_of_ble_eq_true rfl) rfl rfl (hY_no fun E => rfl) w (fun v7 τ5 F6 w => ?_)
  refine ab_fin.br (c := v7 = 0) (i := .ifCond .eq 8) (off := 8) (t := 330) (pc' := 325) (r := [.ref b3]) (by decide +kernel) rfl (by decide +kernel) rfl (fun q => ?_) (fun q => ?_)
  · replace w := w.1 q
    refine ab_fin.s1i (i := .bipush 7) (k := 2) (pc' := 332) (n := 7) (by decide +kernel) rfl (by decide +kernel) rfl ?_
    exact ab_fin.lv ⟨(List.forall_mem_cons.mpr ⟨(List.Mem.head _), (fun _ h => absurd h List.not_mem_nil)⟩), (show ([0, 1] : List Nat).Nodup from by decide)⟩ w
  · replace w := w.2 q
    refine ab_fin.s1i (i := .bipush 6) (k := 2) (pc' := 327) (n := 6) (by decide +kernel) rfl (by decide +kernel) rfl ?_
    refine ab_fin.s3 (i := .goto 5) (k := 3) (t := 332) (st' := [.int 6, .ref b3]) (by decide +kernel) (ab_gto (by decide +kernel)) ?_
    exact ab_fin.lv ⟨(List.forall_mem_cons.mpr ⟨(List.Mem.head _), (fun _ h => absurd h List.not_mem_nil)⟩), (show ([0, 1] : List Nat).Nodup from by decide)⟩ w
theorem S_X23_e_332 {Z : zT} {d : Nat} {σ : Sg} {s0 : Nat} {s1 : Int32} {K : kS} (F : FX ΦR σ.sh σ.r) (w : sh0R[s0]? = some (Sh.obj 22) ∧ (B_X21_get_0 Z d σ s0 s1 (yW K fun v4 τ2 => B_X23_next_0 Z d τ2  (yN K fun τ5 => B_X23_e_0 Z d τ5  (yW K fun v9 τ7 => ∃ b10, v4 = Rf.ptr b10 ∧ (τ7.sh[b10]? = some (Sh.obj 21) ∧ (K (.inl (some (.ref b10))) ((τ7.wr b10 5 v9).wi 0 20 ((τ7.i 0 20) - (1 : Int32)))))))))) : B_X23_e_332 Z (d + 1) σ s0 s1 K := by
  unfold B_X23_e_332
  obtain ⟨e1, w⟩ := w
  refine ab_fin.q_yW (i := .invokevirtual 403) (k := 3) (y := 5377) (As := [.ref s0, .int s1]) (rest := []) (M' := (mX21_get, [])) (lv2 := [(0, .ref s0), (1, .int s1)]) (pc' := 335) (X := K) (by decide +kernel) (ab_cv rfl rfl (conc_get (σ := σ) (F.s e1)) ⟨(Nat.le_of_ble_eq_true rfl), (Nat.le_of_ble_eq_true rfl)⟩ rfl) rfl (Nat.le_of_ble_eq_true rfl) rfl rfl (hY_no fun E => rfl) w (fun v4 τ2 F3 w => ?_)
  refine ab_fin.q_stA (i := .astore_n 2) (n := 2) (k := 1) (pc' := 336) (lv' := [(2, rv v4), (0, .ref 0)]) (Or.inl ⟨_, rfl, rfl, rfl⟩) (by decide +kernel) (by decide) (oR_rv _) rfl rfl ?_
  refine ab_fin.s2 (i := .aload_n 0) (k := 1) (pc' := 337) (lv' := [(2, rv v4), (0, .ref 0)]) (st' := [.ref 0]) (by decide +kernel) rfl rfl ?_
  refine ab_fin.q_yN (i := .invokevirtual 239) (k := 3) (y := 5902) (As := [.ref 0]) (rest := []) (M' := (mX23_next, [])) (lv2 := [(0, .ref 0)]) (pc' := 340) (X := K) (by decide +kernel) (ab_cv rfl rfl (conc_get (σ := τ2) (F3.s s0_0)) ⟨(Nat.le_of_ble_eq_true rfl), (Nat.le_of_ble_eq_true rfl)⟩ rfl) rfl (Nat.le_of_ble_eq_true rfl) rfl rfl (hY_no fun E => rfl) w (fun τ5 F6 w => ?_)
  refine ab_fin.ald (i := .aload_n 2) (n := 2) (k := 1) (pc' := 341) (Or.inl ⟨_, rfl, rfl, rfl⟩) (by decide +kernel) rfl (oR_rv _) rfl ?_
  refine ab_fin.s2 (i := .aload_n 0) (k := 1) (pc' := 342) (lv' := [(2, rv v4), (0, .ref 0)]) (st' := [.ref 0, rv v4]) (by decide +kernel) rfl rfl ?_
  refine ab_fin.q_yW (i := .invokevirtual 372) (k := 3) (y := 5930) (As := [.ref 0]) (rest := [rv v4]) (M' := (mX23_e, [])) (lv2 := [(0, .ref 0)]) (pc' := 345) (X := K) (by decide +kernel) (ab_cv rfl rfl (conc_get (σ := τ5) (F6.s s0_0)) ⟨(Nat.le_of_ble_eq_true rfl), (by simp only [ab_cat, List.map_cons, List.map_nil, cI, cL, cR1, cN1, cX1, cA (oR_rv _)]; exact Nat.le_of_ble_eq_true rfl)⟩ rfl) rfl (Nat.le_of_ble_eq_true rfl) rfl rfl (hY_no fun E => rfl) w (fun v9 τ7 F8 w => ?_)
  obtain ⟨b10, e11, w⟩ := w
  rw [show rv v4 = .ref b10 from by rw [e11]; rfl]
  obtain ⟨e12, w⟩ := w
  have F13 := FX.w (Φ := ΦR) (a := b10) (k := 5) (v := v9) F8 (cD F8 e12 rfl)
  refine ab_fin.q_pF (ix := 409) (ci := 21) (k := 5) (h1 := conc (τ7.wr b10 5 v9)) (pc' := 348) (by decide +kernel) rfl (c_pR (v := v9) e12 rfl) nRv_n nRv_f rfl ?_
  refine ab_fin.s3 (i := .goto 8) (k := 3) (t := 356) (st' := []) (by decide +kernel) (ab_gto (by decide +kernel)) ?_
  refine ab_fin.s2 (i := .aload_n 0) (k := 1) (pc' := 357) (lv' := [(2, .ref b10), (0, .ref 0)]) (st' := [.ref 0]) (by decide +kernel) rfl rfl ?_
  refine ab_fin.s1 (i := .dup) (k := 1) (pc' := 358) (st' := [.ref 0, .ref 0]) (by decide +kernel) rfl rfl ?_
  refine ab_fin.q_rI (x := (τ7.i 0 20)) (ix := 253) (ci := 24) (k := 20) (pc' := 361) (by decide +kernel) rfl (c_rI (F13.s s0_0) rfl) rfl ?_
  refine ab_fin.s1i (i := .iconst 1) (k := 1) (pc' := 362) (n := 1) (by decide +kernel) rfl (by decide +kernel) rfl ?_
  refine ab_fin.s1 (i := .isub) (k := 1) (pc' := 363) (st' := [.int ((τ7.i 0 20) - (1 : Int32)), .ref 0]) (by decide +kernel) rfl rfl ?_
  refine ab_fin.q_pF (ix := 253) (ci := 24) (k := 20) (h1 := conc ((τ7.wr b10 5 v9).wi 0 20 ((τ7.i 0 20) - (1 : Int32)))) (pc' := 366) (by decide +kernel) rfl (c_pI (v := ((τ7.i 0 20) - (1 : Int32))) (F13.s s0_0) rfl) rfl rfl rfl ?_
  refine ab_fin.s2 (i := .aload_n 2) (k := 1) (pc' := 367) (lv' := [(2, .ref b10), (0, .ref 0)]) (st' := [.ref b10]) (by decide +kernel) rfl rfl ?_
  exact ab_fin.q_ret (i := .areturn) (k := 1) (v := some (.ref b10)) (by decide +kernel) rfl F13 w
theorem S_X23_under_0 {Z : zT} {d : Nat} {σ : Sg} {l1 : Rf} {l2 : Int32} {K : kS} (F : FX ΦR σ.sh σ.r) (w : ∃ b1, l1 = Rf.ptr b1 ∧ (σ.sh[b1]? = some (Sh.obj 21) ∧ (ib ((σ.wi b1 2 (σ.i 0 32)).i 0 32) 64 ∧ (B_X23_e_0 Z d (((σ.wi b1 2 (σ.i 0 32)).wi 54 (((σ.wi b1 2 (σ.i 0 32)).i 0 32).toNatClampNeg) l2).wi 0 32 (((σ.wi b1 2 (σ.i 0 32)).i 0 32) + (1 : Int32)))  (yW K fun v7 τ5 => K (.inl (some (rv v7))) (τ5.wi 0 32 ((τ5.i 0 32) - (1 : Int32)))))))) : B_X23_under_0 Z (d + 1) σ l1 l2 K := by
  unfold B_X23_under_0
  refine ab_fin.ald (i := .aload_n 1) (n := 1) (k := 1) (pc' := 1) (Or.inl ⟨_, rfl, rfl, rfl⟩) (by decide +kernel) rfl (oR_rv _) rfl ?_
  refine ab_fin.s2 (i := .aload_n 0) (k := 1) (pc' := 2) (lv' := [(0, .ref 0), (1, rv l1), (2, .int l2)]) (st' := [.ref 0, rv l1]) (by decide +kernel) rfl rfl ?_
  refine ab_fin.q_rI (x := (σ.i 0 32)) (ix := 339) (ci := 24) (k := 32) (pc' := 5) (by decide +kernel) rfl (c_rI (F.s s0_0) rfl) rfl ?_
  obtain ⟨b1, e2, w⟩ := w
  rw [show rv l1 = .ref b1 from by rw [e2]; rfl]
  obtain ⟨e3, w⟩ := w
  refine ab_fin.q_pF (ix := 435) (ci := 21) (k := 2) (h1 := conc (σ.wi b1 2 (σ.i 0 32))) (pc' := 8) (by decide +kernel) rfl (c_pI (v := (σ.i 0 32)) e3 rfl) rfl rfl rfl ?_
  refine ab_fin.s2 (i := .aload_n 0) (k := 1) (pc' := 9) (lv' := [(0, .ref 0), (1, .ref b1), (2, .int l2)]) (st' := [.ref 0]) (by decide +kernel) rfl rfl ?_
  refine ab_fin.q_rA (b := 54) (ix := 382) (ci := 24) (k := 31) (pc' := 12) (by decide +kernel) rfl (c_rA (F.s s0_0) rfl (rM_31 F)) rfl ?_
  refine ab_fin.s2 (i := .aload_n 0) (k := 1) (pc' := 13) (lv' := [(0, .ref 0), (1, .ref b1), (2, .int l2)]) (st' := [.ref 0, .ref 54]) (by decide +kernel) rfl rfl ?_
  refine ab_fin.q_rI (x := ((σ.wi b1 2 (σ.i 0 32)).i 0 32)) (ix := 339) (ci := 24) (k := 32) (pc' := 16) (by decide +kernel) rfl (c_rI (F.s s0_0) rfl) rfl ?_
  refine ab_fin.s2 (i := .iload_n 2) (k := 1) (pc' := 17) (lv' := [(0, .ref 0), (1, .ref b1), (2, .int l2)]) (st' := [.int l2, .int ((σ.wi b1 2 (σ.i 0 32)).i 0 32), .ref 54]) (by decide +kernel) rfl rfl ?_
  obtain ⟨e4, w⟩ := w
  refine ab_fin.q_sI (h1 := conc ((σ.wi b1 2 (σ.i 0 32)).wi 54 (((σ.wi b1 2 (σ.i 0 32)).i 0 32).toNatClampNeg) l2)) (pc' := 18) (by decide +kernel) (c_sI' (F.s s0_54) e4 rfl) rfl ?_
  refine ab_fin.s2 (i := .aload_n 0) (k := 1) (pc' := 19) (lv' := [(0, .ref 0), (1, .ref b1), (2, .int l2)]) (st' := [.ref 0]) (by decide +kernel) rfl rfl ?_
  refine ab_fin.s1 (i := .dup) (k := 1) (pc' := 20) (st' := [.ref 0, .ref 0]) (by decide +kernel) rfl rfl ?_
  refine ab_fin.q_rI (x := ((σ.wi b1 2 (σ.i 0 32)).i 0 32)) (ix := 339) (ci := 24) (k := 32) (pc' := 23) (by decide +kernel) rfl (c_rI (F.s s0_0) rfl) rfl ?_
  refine ab_fin.s1i (i := .iconst 1) (k := 1) (pc' := 24) (n := 1) (by decide +kernel) rfl (by decide +kernel) rfl ?_
  refine ab_fin.s1 (i := .iadd) (k := 1) (pc' := 25) (st' := [.int (((σ.wi b1 2 (σ.i 0 32)).i 0 32) + (1 : Int32)), .ref 0]) (by decide +kernel) rfl rfl ?_
  refine ab_fin.q_pF (ix := 339) (ci := 24) (k := 32) (h1 := conc (((σ.wi b1 2 (σ.i 0 32)).wi 54 (((σ.wi b1 2 (σ.i 0 32)).i 0 32).toNatClampNeg) l2).wi 0 32 (((σ.wi b1 2 (σ.i 0 32)).i 0 32) + (1 : Int32)))) (pc' := 28) (by decide +kernel) rfl (c_pI (v := (((σ.wi b1 2 (σ.i 0 32)).i 0 32) + (1 : Int32))) (F.s s0_0) rfl) rfl rfl rfl ?_
  refine ab_fin.s2 (i := .aload_n 0) (k := 1) (pc' := 29) (lv' := [(0, .ref 0), (1, .ref b1), (2, .int l2)]) (st' := [.ref 0]) (by decide +kernel) rfl rfl ?_
  refine ab_fin.q_yW (i := .invokevirtual 372) (k := 3) (y := 5930) (As := [.ref 0]) (rest := []) (M' := (mX23_e, [])) (lv2 := [(0, .ref 0)]) (pc' := 32) (X := K) (by decide +kernel) (ab_cv rfl rfl (conc_get (σ := (((σ.wi b1 2 (σ.i 0 32)).wi 54 (((σ.wi b1 2 (σ.i 0 32)).i 0 32).toNatClampNeg) l2).wi 0 32 (((σ.wi b1 2 (σ.i 0 32)).i 0 32) + (1 : Int32)))) (F.s s0_0)) ⟨(Nat.le_of_ble_eq_true rfl), (Nat.le_of_ble_eq_true rfl)⟩ rfl) rfl (Nat.le_of_ble_eq_true rfl) rfl rfl (hY_no fun E => rfl) w (fun v7 τ5 F6 w => ?_)
  refine ab_fin.q_stA (i := .astore_n 3) (n := 3) (k := 1) (pc' := 33) (lv' := [(3, rv v7), (0, .ref 0), (1, .ref b1), (2, .int l2)]) (Or.inl ⟨_, rfl, rfl, rfl⟩) (by decide +kernel) (by decide) (oR_rv _) rfl rfl ?_
  refine ab_fin.s2 (i := .aload_n 0) (k := 1) (pc' := 34) (lv' := [(3, rv v7), (0, .ref 0), (1, .ref b1), (2, .int l2)]) (st' := [.ref 0]) (by decide +kernel) rfl rfl ?_
  refine ab_fin.s1 (i := .dup) (k := 1) (pc' := 35) (st' := [.ref 0, .ref 0]) (by decide +kernel) rfl rfl ?_
  refine ab_fin.q_rI (x := (τ5.i 0 32)) (ix := 339) (ci := 24) (k := 32) (pc' := 38) (by decide +kernel) rfl (c_rI (F6.s s0_0) rfl) rfl ?_
  refine ab_fin.s1i (i := .iconst 1) (k := 1) (pc' := 39) (n := 1) (by decide +kernel) rfl (by decide +kernel) rfl ?_
  refine ab_fin.s1 (i := .isub) (k := 1) (pc' := 40) (st' := [.int ((τ5.i 0 32) - (1 : Int32)), .ref 0]) (by decide +kernel) rfl rfl ?_
  refine ab_fin.q_pF (ix := 339) (ci := 24) (k := 32) (h1 := conc (τ5.wi 0 32 ((τ5.i 0 32) - (1 : Int32)))) (pc' := 43) (by decide +kernel) rfl (c_pI (v := ((τ5.i 0 32) - (1 : Int32))) (F6.s s0_0) rfl) rfl rfl rfl ?_
  refine ab_fin.ald (i := .aload_n 3) (n := 3) (k := 1) (pc' := 44) (Or.inl ⟨_, rfl, rfl, rfl⟩) (by decide +kernel) rfl (oR_rv _) rfl ?_
  exact ab_fin.q_ret (i := .areturn) (k := 1) (v := some (rv v7)) (by decide +kernel) (ret_A (oR_rv _)) F6 w
theorem S_X23_compared_0 {Z : zT} {d : Nat} {σ : Sg}  {K : kS} (F : FX ΦR σ.sh σ.r) (w : B_X23_chain_0 Z d σ 1 (yW K fun v3 τ1 => B_X23_is_0 Z d τ1 60 (yI K fun v6 τ4 => (¬ v6 = 0 → B_X23_compared_35 Z (d + 1) τ4 v3 K) ∧ (v6 = 0 → B_X23_is_0 Z d τ4 316 (yI K fun v9 τ7 => (¬ v9 = 0 → B_X23_compared_35 Z (d + 1) τ7 v3 K) ∧ (v9 = 0 → B_X23_is_0 Z d τ7 317 (yI K fun v12 τ10 => (v12 = 0 → B_X23_is__0 Z d τ10 (Rf.old 148) (yI K fun v15 τ13 => (¬ v15 = 0 → B_X23_counted_0 Z d τ13 (τ13.i 0 18) (yN K fun τ16 => B_X23_next_0 Z d τ16  (yN K fun τ18 => ∃ b20, (τ18.r 0 34) = Rf.ptr b20 ∧ (sh0R[b20]? = some (Sh.obj 22) ∧ (B_X21_get_0 Z d τ18 b20 9 (yW K fun v25 τ23 => ∃ b26, v25 = Rf.ptr b26 ∧ (τ23.sh[b26]? = some (Sh.obj 21) ∧ (B_X23_name_0 Z d (τ23.wr b26 5 v3)  (yI K fun v32 τ30 => B_X23_kindNamed_0 Z d τ30 v32 (yI K fun v35 τ33 => τ33.sh[b26]? = some (Sh.obj 21) ∧ ((0 ≤ ((τ33.wi b26 1 v35).i b26 1) → K (.inl (some (.ref b26))) (τ33.wi b26 1 v35)) ∧ (¬ 0 ≤ ((τ33.wi b26 1 v35).i b26 1) → B_X23_breaks_0 Z d (τ33.wi b26 1 v35) 3 (τ23.i 0 18) (yN K fun τ37 => K (.inl (some (.ref b26))) τ37))))))))))))) ∧ (v15 = 0 → K (.inl (some (rv v3))) τ13))) ∧ (¬ v12 = 0 → B_X23_compared_35 Z (d + 1) τ10 v3 K)))))))) : B_X23_compared_0 Z (d + 1) σ  K := by
  unfold B_X23_compared_0
  refine ab_fin.s2 (i := .aload_n 0) (k := 1) (pc' := 1) (lv' := [(0, .ref 0)]) (st' := [.ref 0]) (by decide +kernel) rfl rfl ?_
  refine ab_fin.s1i (i := .iconst 1) (k := 1) (pc' := 2) (n := 1) (by decide +kernel) rfl (by decide +kernel) rfl ?_
  refine ab_fin.q_yW (i := .invokevirtual 469) (k := 3) (y := 5933) (As := [.ref 0, .int 1]) (rest := []) (M' := (mX23_chain, [])) (lv2 := [(0, .ref 0), (1, .int 1)]) (pc' := 5) (X := K) (by decide +kernel) (ab_cv rfl rfl (conc_get (σ := σ) (F.s s0_0)) ⟨(Nat.le_of_ble_eq_true rfl), (Nat.le_of_ble_eq_true rfl)⟩ rfl) rfl (Nat.le_of_ble_eq_true rfl) rfl rfl (hY_no fun E => rfl) w (fun v3 τ1 F2 w => ?_)
  refine ab_fin.q_stA (i := .astore_n 1) (n := 1) (k := 1) (pc' := 6) (lv' := [(1, rv v3), (0, .ref 0)]) (Or.inl ⟨_, rfl, rfl, rfl⟩) (by decide +kernel) (by decide) (oR_rv _) rfl rfl ?_
  refine ab_fin.s2 (i := .aload_n 0) (k := 1) (pc' := 7) (lv' := [(1, rv v3), (0, .ref 0)]) (st' := [.ref 0]) (by decide +kernel) rfl rfl ?_
  refine ab_fin.s1i (i := .bipush 60) (k := 2) (pc' := 9) (n := 60) (by decide +kernel) rfl (by decide +kernel) rfl ?_
  refine ab_fin.q_yI (i := .invokevirtual 233) (k := 3) (y := 5904) (As := [.ref 0, .int 60]) (rest := []) (M' := (mX23_is, [])) (lv2 := [(0, .ref 0), (1, .int 60)]) (pc' := 12) (X := K) (by decide +kernel) (ab_cv rfl rfl (conc_get (σ := τ1) (F2.s s0_0)) ⟨(Nat.le_of_ble_eq_true rfl), (Nat.le_of_ble_eq_true rfl)⟩ rfl) rfl (Nat.le_of_ble_eq_true rfl) rfl rfl (hY_no fun E => rfl) w (fun v6 τ4 F5 w => ?_)
  refine ab_fin.br (c := ¬ v6 = 0) (i := .ifCond .ne 23) (off := 23) (t := 35) (pc' := 15) (r := []) (by decide +kernel) rfl (by decide +kernel) rfl (fun q => ?_) (fun q => ?_)
  · replace w := w.1 q
    exact ab_fin.lv ⟨(List.forall_mem_cons.mpr ⟨(List.Mem.tail _ (List.Mem.head _)), (List.forall_mem_cons.mpr ⟨(List.Mem.head _), (fun _ h => absurd h List.not_mem_nil)⟩)⟩), (show ([1, 0] : List Nat).Nodup from by decide)⟩ w
  · replace w := w.2 (Decidable.of_not_not q)
    refine ab_fin.s2 (i := .aload_n 0) (k := 1) (pc' := 16) (lv' := [(1, rv v3), (0, .ref 0)]) (st' := [.ref 0]) (by decide +kernel) rfl rfl ?_
    refine ab_fin.s1i (i := .sipush 316) (k := 3) (pc' := 19) (n := 316) (by decide +kernel) rfl (by decide +kernel) rfl ?_
    refine ab_fin.q_yI (i := .invokevirtual 233) (k := 3) (y := 5904) (As := [.ref 0, .int 316]) (rest := []) (M' := (mX23_is, [])) (lv2 := [(0, .ref 0), (1, .int 316)]) (pc' := 22) (X := K) (by decide +kernel) (ab_cv rfl rfl (conc_get (σ := τ4) (F5.s s0_0)) ⟨(Nat.le_of_ble_eq_true rfl), (Nat.le_of_ble_eq_true rfl)⟩ rfl) rfl (Nat.le_of_ble_eq_true rfl) rfl rfl (hY_no fun E => rfl) w (fun v9 τ7 F8 w => ?_)
    refine ab_fin.br (c := ¬ v9 = 0) (i := .ifCond .ne 13) (off := 13) (t := 35) (pc' := 25) (r := []) (by decide +kernel) rfl (by decide +kernel) rfl (fun q => ?_) (fun q => ?_)
    · replace w := w.1 q
      exact ab_fin.lv ⟨(List.forall_mem_cons.mpr ⟨(List.Mem.tail _ (List.Mem.head _)), (List.forall_mem_cons.mpr ⟨(List.Mem.head _), (fun _ h => absurd h List.not_mem_nil)⟩)⟩), (show ([1, 0] : List Nat).Nodup from by decide)⟩ w
    · replace w := w.2 (Decidable.of_not_not q)
      refine ab_fin.s2 (i := .aload_n 0) (k := 1) (pc' := 26) (lv' := [(1, rv v3), (0, .ref 0)]) (st' := [.ref 0]) (by decide +kernel) rfl rfl ?_
      refine ab_fin.s1i (i := .sipush 317) (k := 3) (pc' := 29) (n := 317) (by decide +kernel) rfl (by decide +kernel) rfl ?_
      refine ab_fin.q_yI (i := .invokevirtual 233) (k := 3) (y := 5904) (As := [.ref 0, .int 317]) (rest := []) (M' := (mX23_is, [])) (lv2 := [(0, .ref 0), (1, .int 317)]) (pc' := 32) (X := K) (by decide +kernel) (ab_cv rfl rfl (conc_get (σ := τ7) (F8.s s0_0)) ⟨(Nat.le_of_ble_eq_true rfl), (Nat.le_of_ble_eq_true rfl)⟩ rfl) rfl (Nat.le_of_ble_eq_true rfl) rfl rfl (hY_no fun E => rfl) w (fun v12 τ10 F11 w => ?_)
      refine ab_fin.br (c := v12 = 0) (i := .ifCond .eq 49) (off := 49) (t := 81) (pc' := 35) (r := []) (by decide +kernel) rfl (by decide +kernel) rfl (fun q => ?_) (fun q => ?_)
      · replace w := w.1 q
        refine ab_fin.s2 (i := .aload_n 0) (k := 1) (pc' := 82) (lv' := [(1, rv v3), (0, .ref 0)]) (st' := [.ref 0]) (by decide +kernel) rfl rfl ?_
        refine ab_fin.s8 (i := .ldc 142) (k := 2) (pc' := 84) (st' := [.retAddr 148, .ref 0]) (by decide +kernel) rfl rfl rfl rfl ?_
        refine ab_fin.q_yI (i := .invokevirtual 242) (k := 3) (y := 5905) (As := [.ref 0, .retAddr 148]) (rest := []) (M' := (mX23_is_, [])) (lv2 := [(0, .ref 0), (1, .retAddr 148)]) (pc' := 87) (X := K) (by decide +kernel) (ab_cv rfl rfl (conc_get (σ := τ10) (F11.s s0_0)) ⟨(Nat.le_of_ble_eq_true rfl), (Nat.le_of_ble_eq_true rfl)⟩ rfl) rfl (Nat.le_of_ble_eq_true rfl) rfl rfl (hY_no fun E => rfl) w (fun v15 τ13 F14 w => ?_)
        refine ab_fin.br (c := ¬ v15 = 0) (i := .ifCond .ne 5) (off := 5) (t := 92) (pc' := 90) (r := []) (by decide +kernel) rfl (by decide +kernel) rfl (fun q => ?_) (fun q => ?_)
        · replace w := w.1 q
          refine ab_fin.s2 (i := .aload_n 0) (k := 1) (pc' := 93) (lv' := [(1, rv v3), (0, .ref 0)]) (st' := [.ref 0]) (by decide +kernel) rfl rfl ?_
          refine ab_fin.s2 (i := .aload_n 0) (k := 1) (pc' := 94) (lv' := [(1, rv v3), (0, .ref 0)]) (st' := [.ref 0, .ref 0]) (by decide +kernel) rfl rfl ?_
          refine ab_fin.q_rI (x := (τ13.i 0 18)) (ix := 106) (ci := 24) (k := 18) (pc' := 97) (by decide +kernel) rfl (c_rI (F14.s s0_0) rfl) rfl ?_
          refine ab_fin.q_yN (i := .invokevirtual 453) (k := 3) (y := 5912) (As := [.ref 0, .int (τ13.i 0 18)]) (rest := []) (M' := (mX23_counted, [])) (lv2 := [(0, .ref 0), (1, .int (τ13.i 0 18))]) (pc' := 100) (X := K) (by decide +kernel) (ab_cv rfl rfl (conc_get (σ := τ13) (F14.s s0_0)) ⟨(Nat.le_of_ble_eq_true rfl), (Nat.le_of_ble_eq_true rfl)⟩ rfl) rfl (Nat.le_of_ble_eq_true rfl) rfl rfl (hY_no fun E => rfl) w (fun τ16 F17 w => ?_)
          refine ab_fin.s2 (i := .aload_n 0) (k := 1) (pc' := 101) (lv' := [(1, rv v3), (0, .ref 0)]) (st' := [.ref 0]) (by decide +kernel) rfl rfl ?_
          refine ab_fin.q_yN (i := .invokevirtual 239) (k := 3) (y := 5902) (As := [.ref 0]) (rest := []) (M' := (mX23_next, [])) (lv2 := [(0, .ref 0)]) (pc' := 104) (X := K) (by decide +kernel) (ab_cv rfl rfl (conc_get (σ := τ16) (F17.s s0_0)) ⟨(Nat.le_of_ble_eq_true rfl), (Nat.le_of_ble_eq_true rfl)⟩ rfl) rfl (Nat.le_of_ble_eq_true rfl) rfl rfl (hY_no fun E => rfl) w (fun τ18 F19 w => ?_)
          refine ab_fin.s2 (i := .aload_n 0) (k := 1) (pc' := 105) (lv' := [(1, rv v3), (0, .ref 0)]) (st' := [.ref 0]) (by decide +kernel) rfl rfl ?_
          obtain ⟨b20, e21, w⟩ := w
          refine ab_fin.q_rA (b := b20) (ix := 353) (ci := 24) (k := 34) (pc' := 108) (by decide +kernel) rfl (c_rA (F19.s s0_0) rfl e21) rfl ?_
          refine ab_fin.s1i (i := .bipush 9) (k := 2) (pc' := 110) (n := 9) (by decide +kernel) rfl (by decide +kernel) rfl ?_
          obtain ⟨e22, w⟩ := w
          refine ab_fin.q_yW (i := .invokevirtual 403) (k := 3) (y := 5377) (As := [.ref b20, .int 9]) (rest := []) (M' := (mX21_get, [])) (lv2 := [(0, .ref b20), (1, .int 9)]) (pc' := 113) (X := K) (by decide +kernel) (ab_cv rfl rfl (conc_get (σ := τ18) (F19.s e22)) ⟨(Nat.le_of_ble_eq_true rfl), (Nat.le_of_ble_eq_true rfl)⟩ rfl) rfl (Nat.le_of_ble_eq_true rfl) rfl rfl (hY_no fun E => rfl) w (fun v25 τ23 F24 w => ?_)
          refine ab_fin.q_stA (i := .astore_n 2) (n := 2) (k := 1) (pc' := 114) (lv' := [(2, rv v25), (1, rv v3), (0, .ref 0)]) (Or.inl ⟨_, rfl, rfl, rfl⟩) (by decide +kernel) (by decide) (oR_rv _) (by simp only [ab_st1, List.filter_cons, List.filter_nil, cA (oR_rv _)]; rfl) rfl ?_
          refine ab_fin.ald (i := .aload_n 2) (n := 2) (k := 1) (pc' := 115) (Or.inl ⟨_, rfl, rfl, rfl⟩) (by decide +kernel) rfl (oR_rv _) rfl ?_
          refine ab_fin.ald (i := .aload_n 1) (n := 1) (k := 1) (pc' := 116) (Or.inl ⟨_, rfl, rfl, rfl⟩) (by decide +kernel) rfl (oR_rv _) rfl ?_
          obtain ⟨b26, e27, w⟩ := w
          rw [show rv v25 = .ref b26 from by rw [e27]; rfl]
          obtain ⟨e28, w⟩ := w
          have F29 := FX.w (Φ := ΦR) (a := b26) (k := 5) (v := v3) F24 (cD F24 e28 rfl)
          refine ab_fin.q_pF (ix := 409) (ci := 21) (k := 5) (h1 := conc (τ23.wr b26 5 v3)) (pc' := 119) (by decide +kernel) rfl (c_pR (v := v3) e28 rfl) nRv_n nRv_f rfl ?_
          refine ab_fin.s2 (i := .aload_n 0) (k := 1) (pc' := 120) (lv' := [(2, .ref b26), (1, rv v3), (0, .ref 0)]) (st' := [.ref 0]) (by decide +kernel) rfl rfl ?_
          refine ab_fin.q_rI (x := (τ23.i 0 18)) (ix := 106) (ci := 24) (k := 18) (pc' := 123) (by decide +kernel) rfl (c_rI (F29.s s0_0) rfl) rfl ?_
          refine ab_fin.s2 (i := .istore_n 3) (k := 1) (pc' := 124) (lv' := [(3, .int (τ23.i 0 18)), (2, .ref b26), (1, rv v3), (0, .ref 0)]) (st' := []) (by decide +kernel) rfl rfl ?_
          refine ab_fin.s2 (i := .aload_n 2) (k := 1) (pc' := 125) (lv' := [(3, .int (τ23.i 0 18)), (2, .ref b26), (1, rv v3), (0, .ref 0)]) (st' := [.ref b26]) (by decide +kernel) rfl rfl ?_
          refine ab_fin.s2 (i := .aload_n 0) (k := 1) (pc' := 126) (lv' := [(3, .int (τ23.i 0 18)), (2, .ref b26), (1, rv v3), (0, .ref 0)]) (st' := [.ref 0, .ref b26]) (by decide +kernel) rfl rfl ?_
          refine ab_fin.s2 (i := .aload_n 0) (k := 1) (pc' := 127) (lv' := [(3, .int (τ23.i 0 18)), (2, .ref b26), (1, rv v3), (0, .ref 0)]) (st' := [.ref 0, .ref 0, .ref b26]) (by decide +kernel) rfl rfl ?_
          refine ab_fin.q_yI (i := .invokevirtual 277) (k := 3) (y := 5909) (As := [.ref 0]) (rest := [.ref 0, .ref b26]) (M' := (mX23_name, [])) (lv2 := [(0, .ref 0)]) (pc' := 130) (X := K) (by decide +kernel) (ab_cv rfl rfl (conc_get (σ := (τ23.wr b26 5 v3)) (F29.s s0_0)) ⟨(Nat.le_of_ble_eq_true rfl), (Nat.le_of_ble_eq_true rfl)⟩ rfl) rfl (Nat.le_of_ble_eq_true rfl) rfl rfl (hY_no fun E => rfl) w (fun v32 τ30 F31 w => ?_)
          refine ab_fin.q_yI (i := .invokevirtual 48) (k := 3) (y := 5890) (As := [.ref 0, .int v32]) (rest := [.ref b26]) (M' := (mX23_kindNamed, [])) (lv2 := [(0, .ref 0), (1, .int v32)]) (pc' := 133) (X := K) (by decide +kernel) (ab_cv rfl rfl (conc_get (σ := τ30) (F31.s s0_0)) ⟨(Nat.le_of_ble_eq_true rfl), (Nat.le_of_ble_eq_true rfl)⟩ rfl) rfl (Nat.le_of_ble_eq_true rfl) rfl rfl (hY_no fun E => rfl) w (fun v35 τ33 F34 w => ?_)
          obtain ⟨e36, w⟩ := w
          refine ab_fin.q_pF (ix := 438) (ci := 21) (k := 1) (h1 := conc (τ33.wi b26 1 v35)) (pc' := 136) (by decide +kernel) rfl (c_pI (v := v35) e36 rfl) rfl rfl rfl ?_
          refine ab_fin.s2 (i := .aload_n 2) (k := 1) (pc' := 137) (lv' := [(3, .int (τ23.i 0 18)), (2, .ref b26), (1, rv v3), (0, .ref 0)]) (st' := [.ref b26]) (by decide +kernel) rfl rfl ?_
          refine ab_fin.q_rI (x := ((τ33.wi b26 1 v35).i b26 1)) (ix := 438) (ci := 21) (k := 1) (pc' := 140) (by decide +kernel) rfl (c_rI e36 rfl) rfl ?_
          refine ab_fin.br (c := 0 ≤ ((τ33.wi b26 1 v35).i b26 1)) (i := .ifCond .ge 9) (off := 9) (t := 149) (pc' := 143) (r := []) (by decide +kernel) rfl (by decide +kernel) rfl (fun q => ?_) (fun q => ?_)
          · replace w := w.1 q
            refine ab_fin.s2 (i := .aload_n 2) (k := 1) (pc' := 150) (lv' := [(3, .int (τ23.i 0 18)), (2, .ref b26), (1, rv v3), (0, .ref 0)]) (st' := [.ref b26]) (by decide +kernel) rfl rfl ?_
            exact ab_fin.q_ret (i := .areturn) (k := 1) (v := some (.ref b26)) (by decide +kernel) rfl F34 w
          · replace w := w.2 q
            refine ab_fin.s2 (i := .aload_n 0) (k := 1) (pc' := 144) (lv' := [(3, .int (τ23.i 0 18)), (2, .ref b26), (1, rv v3), (0, .ref 0)]) (st' := [.ref 0]) (by decide +kernel) rfl rfl ?_
            refine ab_fin.s1i (i := .iconst 3) (k := 1) (pc' := 145) (n := 3) (by decide +kernel) rfl (by decide +kernel) rfl ?_
            refine ab_fin.s2 (i := .iload_n 3) (k := 1) (pc' := 146) (lv' := [(3, .int (τ23.i 0 18)), (2, .ref b26), (1, rv v3), (0, .ref 0)]) (st' := [.int (τ23.i 0 18), .int 3, .ref 0]) (by decide +kernel) rfl rfl ?_
            refine ab_fin.q_yN (i := .invokevirtual 259) (k := 3) (y := 5910) (As := [.ref 0, .int 3, .int (τ23.i 0 18)]) (rest := []) (M' := (mX23_breaks, [])) (lv2 := [(0, .ref 0), (1, .int 3), (2, .int (τ23.i 0 18))]) (pc' := 149) (X := K) (by decide +kernel) (ab_cv rfl rfl (conc_get (σ := (τ33.wi b26 1 v35)) (F34.s s0_0)) ⟨(Nat.le_of_ble_eq_true rfl), (Nat.le_of_ble_eq_true rfl)⟩ rfl) rfl (Nat.le_of_ble_eq_true rfl) rfl rfl (hY_no fun E => rfl) w (fun τ37 F38 w => ?_)
            refine ab_fin.s2 (i := .aload_n 2) (k := 1) (pc' := 150) (lv' := [(3, .int (τ23.i 0 18)), (2, .ref b26), (1, rv v3), (0, .ref 0)]) (st' := [.ref b26]) (by decide +kernel) rfl rfl ?_
            exact ab_fin.q_ret (i := .areturn) (k := 1) (v := some (.ref b26)) (by decide +kernel) rfl F38 w
        · replace w := w.2 (Decidable.of_not_not q)
          refine ab_fin.ald (i := .aload_n 1) (n := 1) (k := 1) (pc' := 91) (Or.inl ⟨_, rfl, rfl, rfl⟩) (by decide +kernel) rfl (oR_rv _) rfl ?_
          exact ab_fin.q_ret (i := .areturn) (k := 1) (v := some (rv v3)) (by decide +kernel) (ret_A (oR_rv _)) F14 w
      · replace w := w.2 q
        exact ab_fin.lv ⟨(List.forall_mem_cons.mpr ⟨(List.Mem.tail _ (List.Mem.head _)), (List.forall_mem_cons.mpr ⟨(List.Mem.head _), (fun _ h => absurd h List.not_mem_nil)⟩)⟩), (show ([1, 0] : List Nat).Nodup from by decide)⟩ w
theorem S_X23_compared_35 {Z : zT} {d : Nat} {σ : Sg} {l1 : Rf} {K : kS} (F : FX ΦR σ.sh σ.r) (w : B_X23_counted_0 Z d σ (σ.i 0 18) (yN K fun τ1 => ∃ b3, (τ1.r 0 34) = Rf.ptr b3 ∧ (sh0R[b3]? = some (Sh.obj 22) ∧ (B_X21_get_0 Z d τ1 b3 8 (yW K fun v8 τ6 => ∃ b9, v8 = Rf.ptr b9 ∧ (τ6.sh[b9]? = some (Sh.obj 21) ∧ (B_X23_next_0 Z d (τ6.wi b9 3 (τ6.i 0 19))  (yN K fun τ12 => τ12.sh[b9]? = some (Sh.obj 21) ∧ (B_X23_chain_0 Z d (τ12.wr b9 5 l1) 1 (yW K fun v18 τ16 => τ16.sh[b9]? = some (Sh.obj 21) ∧ (K (.inl (some (.ref b9))) (τ16.wr b9 6 v18)))))))))))) : B_X23_compared_35 Z (d + 1) σ l1 K := by
  unfold B_X23_compared_35
  refine ab_fin.s2 (i := .aload_n 0) (k := 1) (pc' := 36) (lv' := [(0, .ref 0), (1, rv l1)]) (st' := [.ref 0]) (by decide +kernel) rfl rfl ?_
  refine ab_fin.s2 (i := .aload_n 0) (k := 1) (pc' := 37) (lv' := [(0, .ref 0), (1, rv l1)]) (st' := [.ref 0, .ref 0]) (by decide +kernel) rfl rfl ?_
  refine ab_fin.q_rI (x := (σ.i 0 18)) (ix := 106) (ci := 24) (k := 18) (pc' := 40) (by decide +kernel) rfl (c_rI (F.s s0_0) rfl) rfl ?_
  refine ab_fin.q_yN (i := .invokevirtual 453) (k := 3) (y := 5912) (As := [.ref 0, .int (σ.i 0 18)]) (rest := []) (M' := (mX23_counted, [])) (lv2 := [(0, .ref 0), (1, .int (σ.i 0 18))]) (pc' := 43) (X := K) (by decide +kernel) (ab_cv rfl rfl (conc_get (σ := σ) (F.s s0_0)) ⟨(Nat.le_of_ble_eq_true rfl), (Nat.le_of_ble_eq_true rfl)⟩ rfl) rfl (Nat.le_of_ble_eq_true rfl) rfl rfl (hY_no fun E => rfl) w (fun τ1 F2 w => ?_)
  refine ab_fin.s2 (i := .aload_n 0) (k := 1) (pc' := 44) (lv' := [(0, .ref 0), (1, rv l1)]) (st' := [.ref 0]) (by decide +kernel) rfl rfl ?_
  obtain ⟨b3, e4, w⟩ := w
  refine ab_fin.q_rA (b := b3) (ix := 353) (ci := 24) (k := 34) (pc' := 47) (by decide +kernel) rfl (c_rA (F2.s s0_0) rfl e4) rfl ?_
  refine ab_fin.s1i (i := .bipush 8) (k := 2) (pc' := 49) (n := 8) (by decide +kernel) rfl (by decide +kernel) rfl ?_
  obtain ⟨e5, w⟩ := w
  refine ab_fin.q_yW (i := .invokevirtual 403) (k := 3) (y := 5377) (As := [.ref b3, .int 8]) (rest := []) (M' := (mX21_get, [])) (lv2 := [(0, .ref b3), (1, .int 8)]) (pc' := 52) (X := K) (by decide +kernel) (ab_cv rfl rfl (conc_get (σ := τ1) (F2.s e5)) ⟨(Nat.le_of_ble_eq_true rfl), (Nat.le_of_ble_eq_true rfl)⟩ rfl) rfl (Nat.le_of_ble_eq_true rfl) rfl rfl (hY_no fun E => rfl) w (fun v8 τ6 F7 w => ?_)
  refine ab_fin.q_stA (i := .astore_n 2) (n := 2) (k := 1) (pc' := 53) (lv' := [(2, rv v8), (0, .ref 0), (1, rv l1)]) (Or.inl ⟨_, rfl, rfl, rfl⟩) (by decide +kernel) (by decide) (oR_rv _) (by simp only [ab_st1, List.filter_cons, List.filter_nil, cA (oR_rv _)]; rfl) rfl ?_
  refine ab_fin.ald (i := .aload_n 2) (n := 2) (k := 1) (pc' := 54) (Or.inl ⟨_, rfl, rfl, rfl⟩) (by decide +kernel) rfl (oR_rv _) rfl ?_
  refine ab_fin.s2 (i := .aload_n 0) (k := 1) (pc' := 55) (lv' := [(2, rv v8), (0, .ref 0), (1, rv l1)]) (st' := [.ref 0, rv v8]) (by decide +kernel) rfl rfl ?_
  refine ab_fin.q_rI (x := (τ6.i 0 19)) (ix := 213) (ci := 24) (k := 19) (pc' := 58) (by decide +kernel) rfl (c_rI (F7.s s0_0) rfl) rfl ?_
  obtain ⟨b9, e10, w⟩ := w
  rw [show rv v8 = .ref b9 from by rw [e10]; rfl]
  obtain ⟨e11, w⟩ := w
  refine ab_fin.q_pF (ix := 449) (ci := 21) (k := 3) (h1 := conc (τ6.wi b9 3 (τ6.i 0 19))) (pc' := 61) (by decide +kernel) rfl (c_pI (v := (τ6.i 0 19)) e11 rfl) rfl rfl rfl ?_
  refine ab_fin.s2 (i := .aload_n 0) (k := 1) (pc' := 62) (lv' := [(2, .ref b9), (0, .ref 0), (1, rv l1)]) (st' := [.ref 0]) (by decide +kernel) rfl rfl ?_
  refine ab_fin.q_yN (i := .invokevirtual 239) (k := 3) (y := 5902) (As := [.ref 0]) (rest := []) (M' := (mX23_next, [])) (lv2 := [(0, .ref 0)]) (pc' := 65) (X := K) (by decide +kernel) (ab_cv rfl rfl (conc_get (σ := (τ6.wi b9 3 (τ6.i 0 19))) (F7.s s0_0)) ⟨(Nat.le_of_ble_eq_true rfl), (Nat.le_of_ble_eq_true rfl)⟩ rfl) rfl (Nat.le_of_ble_eq_true rfl) rfl rfl (hY_no fun E => rfl) w (fun τ12 F13 w => ?_)
  refine ab_fin.s2 (i := .aload_n 2) (k := 1) (pc' := 66) (lv' := [(2, .ref b9), (0, .ref 0), (1, rv l1)]) (st' := [.ref b9]) (by decide +kernel) rfl rfl ?_
  refine ab_fin.ald (i := .aload_n 1) (n := 1) (k := 1) (pc' := 67) (Or.inl ⟨_, rfl, rfl, rfl⟩) (by decide +kernel) rfl (oR_rv _) rfl ?_
  obtain ⟨e14, w⟩ := w
  have F15 := FX.w (Φ := ΦR) (a := b9) (k := 5) (v := l1) F13 (cD F13 e14 rfl)
  refine ab_fin.q_pF (ix := 409) (ci := 21) (k := 5) (h1 := conc (τ12.wr b9 5 l1)) (pc' := 70) (by decide +kernel) rfl (c_pR (v := l1) e14 rfl) nRv_n nRv_f rfl ?_
  refine ab_fin.s2 (i := .aload_n 2) (k := 1) (pc' := 71) (lv' := [(2, .ref b9), (0, .ref 0), (1, rv l1)]) (st' := [.ref b9]) (by decide +kernel) rfl rfl ?_
  refine ab_fin.s2 (i := .aload_n 0) (k := 1) (pc' := 72) (lv' := [(2, .ref b9), (0, .ref 0), (1, rv l1)]) (st' := [.ref 0, .ref b9]) (by decide +kernel) rfl rfl ?_
  refine ab_fin.s1i (i := .iconst 1) (k := 1) (pc' := 73) (n := 1) (by decide +kernel) rfl (by decide +kernel) rfl ?_
  refine ab_fin.q_yW (i := .invokevirtual 469) (k := 3) (y := 5933) (As := [.ref 0, .int 1]) (rest := [.ref b9]) (M' := (mX23_chain, [])) (lv2 := [(0, .ref 0), (1, .int 1)]) (pc' := 76) (X := K) (by decide +kernel) (ab_cv rfl rfl (conc_get (σ := (τ12.wr b9 5 l1)) (F15.s s0_0)) ⟨(Nat.le_of_ble_eq_true rfl), (Nat.le_of_ble_eq_true rfl)⟩ rfl) rfl (Nat.le_of_ble_eq_true rfl) rfl rfl (hY_no fun E => rfl) w (fun v18 τ16 F17 w => ?_)
  obtain ⟨e19, w⟩ := w
  have F20 := FX.w (Φ := ΦR) (a := b9) (k := 6) (v := v18) F17 (cD F17 e19 rfl)
  refine ab_fin.q_pF (ix := 414) (ci := 21) (k := 6) (h1 := conc (τ16.wr b9 6 v18)) (pc' := 79) (by decide +kernel) rfl (c_pR (v := v18) e19 rfl) nRv_n nRv_f rfl ?_
  refine ab_fin.s2 (i := .aload_n 2) (k := 1) (pc' := 80) (lv' := [(2, .ref b9), (0, .ref 0), (1, rv l1)]) (st' := [.ref b9]) (by decide +kernel) rfl rfl ?_
  exact ab_fin.q_ret (i := .areturn) (k := 1) (v := some (.ref b9)) (by decide +kernel) rfl F20 w
theorem S_X23_chain_0 {Z : zT} {d : Nat} {σ : Sg} {l1 : Int32} {K : kS} (F : FX ΦR σ.sh σ.r) (w : (l1 = 0 → B_X23_p_0 Z d σ  (yW K fun v3 τ1 => B_X23_chain_22 Z (d + 1) τ1 l1 v3 Rf.nul Rf.nul K)) ∧ (¬ l1 = 0 → B_X23_chain_0 Z d σ 0 (yW K fun v6 τ4 => B_X23_chain_22 Z (d + 1) τ4 l1 v6 Rf.nul Rf.nul K))) : B_X23_chain_0 Z (d + 1) σ l1 K := by
  unfold B_X23_chain_0
  refine ab_fin.s2 (i := .iload_n 1) (k := 1) (pc' := 1) (lv' := [(0, .ref 0), (1, .int l1)]) (st' := [.int l1]) (by decide +kernel) rfl rfl ?_
  refine ab_fin.br (c := l1 = 0) (i := .ifCond .eq 11) (off := 11) (t := 12) (pc' := 4) (r := []) (by decide +kernel) rfl (by decide +kernel) rfl (fun q => ?_) (fun q => ?_)
  · replace w := w.1 q
    refine ab_fin.s2 (i := .aload_n 0) (k := 1) (pc' := 13) (lv' := [(0, .ref 0), (1, .int l1)]) (st' := [.ref 0]) (by decide +kernel) rfl rfl ?_
    refine ab_fin.q_yW (i := .invokevirtual 473) (k := 3) (y := 5934) (As := [.ref 0]) (rest := []) (M' := (mX23_p, [])) (lv2 := [(0, .ref 0)]) (pc' := 16) (X := K) (by decide +kernel) (ab_cv rfl rfl (conc_get (σ := σ) (F.s s0_0)) ⟨(Nat.le_of_ble_eq_true rfl), (Nat.le_of_ble_eq_true rfl)⟩ rfl) rfl (Nat.le_of_ble_eq_true rfl) rfl rfl (hY_no fun E => rfl) w (fun v3 τ1 F2 w => ?_)
    refine ab_fin.q_stA (i := .astore_n 2) (n := 2) (k := 1) (pc' := 17) (lv' := [(2, rv v3), (0, .ref 0), (1, .int l1)]) (Or.inl ⟨_, rfl, rfl, rfl⟩) (by decide +kernel) (by decide) (oR_rv _) rfl rfl ?_
    refine ab_fin.s1 (i := .aconst_null) (k := 1) (pc' := 18) (st' := [.null]) (by decide +kernel) rfl rfl ?_
    refine ab_fin.q_stA (i := .astore_n 3) (n := 3) (k := 1) (pc' := 19) (lv' := [(3, .null), (2, rv v3), (0, .ref 0), (1, .int l1)]) (Or.inl ⟨_, rfl, rfl, rfl⟩) (by decide +kernel) (by decide) rfl (by simp only [ab_st1, List.filter_cons, List.filter_nil, cA (oR_rv _)]; rfl) rfl ?_
    refine ab_fin.s1 (i := .aconst_null) (k := 1) (pc' := 20) (st' := [.null]) (by decide +kernel) rfl rfl ?_
    refine ab_fin.s2 (i := .astore 4) (k := 2) (pc' := 22) (lv' := [(4, .null), (3, .null), (2, rv v3), (0, .ref 0), (1, .int l1)]) (st' := []) (by decide +kernel) rfl rfl ?_
    exact ab_fin.lv ⟨(List.forall_mem_cons.mpr ⟨(List.Mem.tail _ (List.Mem.tail _ (List.Mem.tail _ (List.Mem.head _)))), (List.forall_mem_cons.mpr ⟨(List.Mem.tail _ (List.Mem.tail _ (List.Mem.tail _ (List.Mem.tail _ (List.Mem.head _))))), (List.forall_mem_cons.mpr ⟨(List.Mem.tail _ (List.Mem.tail _ (List.Mem.head _))), (List.forall_mem_cons.mpr ⟨(List.Mem.tail _ (List.Mem.head _)), (List.forall_mem_cons.mpr ⟨(List.Mem.head _), (fun _ h => absurd h List.not_mem_nil)⟩)⟩)⟩)⟩)⟩), (show ([4, 3, 2, 0, 1] : List Nat).Nodup from by decide)⟩ w
  · replace w := w.2 q
    refine ab_fin.s2 (i := .aload_n 0) (k := 1) (pc' := 5) (lv' := [(0, .ref 0), (1, .int l1)]) (st' := [.ref 0]) (by decide +kernel) rfl rfl ?_
    refine ab_fin.s1i (i := .iconst 0) (k := 1) (pc' := 6) (n := 0) (by decide +kernel) rfl (by decide +kernel) rfl ?_
    refine ab_fin.q_yW (i := .invokevirtual 469) (k := 3) (y := 5933) (As := [.ref 0, .int 0]) (rest := []) (M' := (mX23_chain, [])) (lv2 := [(0, .ref 0), (1, .int 0)]) (pc' := 9) (X := K) (by decide +kernel) (ab_cv rfl rfl (conc_get (σ := σ) (F.s s0_0)) ⟨(Nat.le_of_ble_eq_true rfl), (Nat.le_of_ble_eq_true rfl)⟩ rfl) rfl (Nat.le_of_ble_eq_true rfl) rfl rfl (hY_no fun E => rfl) w (fun v6 τ4 F5 w => ?_)
    refine ab_fin.s3 (i := .goto 7) (k := 3) (t := 16) (st' := [rv v6]) (by decide +kernel) (ab_gto (by decide +kernel)) ?_
    refine ab_fin.q_stA (i := .astore_n 2) (n := 2) (k := 1) (pc' := 17) (lv' := [(2, rv v6), (0, .ref 0), (1, .int l1)]) (Or.inl ⟨_, rfl, rfl, rfl⟩) (by decide +kernel) (by decide) (oR_rv _) rfl rfl ?_
    refine ab_fin.s1 (i := .aconst_null) (k := 1) (pc' := 18) (st' := [.null]) (by decide +kernel) rfl rfl ?_
    refine ab_fin.q_stA (i := .astore_n 3) (n := 3) (k := 1) (pc' := 19) (lv' := [(3, .null), (2, rv v6), (0, .ref 0), (1, .int l1)]) (Or.inl ⟨_, rfl, rfl, rfl⟩) (by decide +kernel) (by decide) rfl (by simp only [ab_st1, List.filter_cons, List.filter_nil, cA (oR_rv _)]; rfl) rfl ?_
    refine ab_fin.s1 (i := .aconst_null) (k := 1) (pc' := 20) (st' := [.null]) (by decide +kernel) rfl rfl ?_
    refine ab_fin.s2 (i := .astore 4) (k := 2) (pc' := 22) (lv' := [(4, .null), (3, .null), (2, rv v6), (0, .ref 0), (1, .int l1)]) (st' := []) (by decide +kernel) rfl rfl ?_
    exact ab_fin.lv ⟨(List.forall_mem_cons.mpr ⟨(List.Mem.tail _ (List.Mem.tail _ (List.Mem.tail _ (List.Mem.head _)))), (List.forall_mem_cons.mpr ⟨(List.Mem.tail _ (List.Mem.tail _ (List.Mem.tail _ (List.Mem.tail _ (List.Mem.head _))))), (List.forall_mem_cons.mpr ⟨(List.Mem.tail _ (List.Mem.tail _ (List.Mem.head _))), (List.forall_mem_cons.mpr ⟨(List.Mem.tail _ (List.Mem.head _)), (List.forall_mem_cons.mpr ⟨(List.Mem.head _), (fun _ h => absurd h List.not_mem_nil)⟩)⟩)⟩)⟩)⟩), (show ([4, 3, 2, 0, 1] : List Nat).Nodup from by decide)⟩ w
theorem S_X23_chain_22 {Z : zT} {d : Nat} {σ : Sg} {l1 : Int32} {l2 : Rf} {l3 : Rf} {l4 : Rf} {K : kS} (F : FX ΦR σ.sh σ.r) (w : (l1 = 0 → B_X23_is_0 Z d σ 42 (yI K fun v3 τ1 => (¬ v3 = 0 → B_X23_chain_65 Z (d + 1) τ1 l1 l2 l3 l4 K) ∧ (v3 = 0 → B_X23_is_0 Z d τ1 47 (yI K fun v6 τ4 => (v6 = 0 → (¬ l3 = Rf.nul → K (.inl (some (rv l3))) τ4) ∧ (l3 = Rf.nul → K (.inl (some (rv l2))) τ4)) ∧ (¬ v6 = 0 → B_X23_chain_65 Z (d + 1) τ4 l1 l2 l3 l4 K))))) ∧ (¬ l1 = 0 → B_X23_is_0 Z d σ 43 (yI K fun v9 τ7 => (¬ v9 = 0 → B_X23_chain_65 Z (d + 1) τ7 l1 l2 l3 l4 K) ∧ (v9 = 0 → B_X23_is_0 Z d τ7 45 (yI K fun v12 τ10 => (v12 = 0 → (¬ l3 = Rf.nul → K (.inl (some (rv l3))) τ10) ∧ (l3 = Rf.nul → K (.inl (some (rv l2))) τ10)) ∧ (¬ v12 = 0 → B_X23_chain_65 Z (d + 1) τ10 l1 l2 l3 l4 K)))))) : B_X23_chain_22 Z (d + 1) σ l1 l2 l3 l4 K := by
  unfold B_X23_chain_22
  refine ab_fin.s2 (i := .iload_n 1) (k := 1) (pc' := 23) (lv' := [(0, .ref 0), (1, .int l1), (2, rv l2), (3, rv l3), (4, rv l4)]) (st' := [.int l1]) (by decide +kernel) rfl rfl ?_
  refine ab_fin.br (c := l1 = 0) (i := .ifCond .eq 24) (off := 24) (t := 47) (pc' := 26) (r := []) (by decide +kernel) rfl (by decide +kernel) rfl (fun q => ?_) (fun q => ?_)
  · replace w := w.1 q
    refine ab_fin.s2 (i := .aload_n 0) (k := 1) (pc' := 48) (lv' := [(0, .ref 0), (1, .int l1), (2, rv l2), (3, rv l3), (4, rv l4)]) (st' := [.ref 0]) (by decide +kernel) rfl rfl ?_
    refine ab_fin.s1i (i := .bipush 42) (k := 2) (pc' := 50) (n := 42) (by decide +kernel) rfl (by decide +kernel) rfl ?_
    refine ab_fin.q_yI (i := .invokevirtual 233) (k := 3) (y := 5904) (As := [.ref 0, .int 42]) (rest := []) (M' := (mX23_is, [])) (lv2 := [(0, .ref 0), (1, .int 42)]) (pc' := 53) (X := K) (by decide +kernel) (ab_cv rfl rfl (conc_get (σ := σ) (F.s s0_0)) ⟨(Nat.le_of_ble_eq_true rfl), (Nat.le_of_ble_eq_true rfl)⟩ rfl) rfl (Nat.le_of_ble_eq_true rfl) rfl rfl (hY_no fun E => rfl) w (fun v3 τ1 F2 w => ?_)
    refine ab_fin.br (c := ¬ v3 = 0) (i := .ifCond .ne 12) (off := 12) (t := 65) (pc' := 56) (r := []) (by decide +kernel) rfl (by decide +kernel) rfl (fun q => ?_) (fun q => ?_)
    · replace w := w.1 q
      exact ab_fin.lv ⟨(List.forall_mem_cons.mpr ⟨(List.Mem.head _), (List.forall_mem_cons.mpr ⟨(List.Mem.tail _ (List.Mem.head _)), (List.forall_mem_cons.mpr ⟨(List.Mem.tail _ (List.Mem.tail _ (List.Mem.head _))), (List.forall_mem_cons.mpr ⟨(List.Mem.tail _ (List.Mem.tail _ (List.Mem.tail _ (List.Mem.head _)))), (List.forall_mem_cons.mpr ⟨(List.Mem.tail _ (List.Mem.tail _ (List.Mem.tail _ (List.Mem.tail _ (List.Mem.head _))))), (fun _ h => absurd h List.not_mem_nil)⟩)⟩)⟩)⟩)⟩), (show ([0, 1, 2, 3, 4] : List Nat).Nodup from by decide)⟩ w
    · replace w := w.2 (Decidable.of_not_not q)
      refine ab_fin.s2 (i := .aload_n 0) (k := 1) (pc' := 57) (lv' := [(0, .ref 0), (1, .int l1), (2, rv l2), (3, rv l3), (4, rv l4)]) (st' := [.ref 0]) (by decide +kernel) rfl rfl ?_
      refine ab_fin.s1i (i := .bipush 47) (k := 2) (pc' := 59) (n := 47) (by decide +kernel) rfl (by decide +kernel) rfl ?_
      refine ab_fin.q_yI (i := .invokevirtual 233) (k := 3) (y := 5904) (As := [.ref 0, .int 47]) (rest := []) (M' := (mX23_is, [])) (lv2 := [(0, .ref 0), (1, .int 47)]) (pc' := 62) (X := K) (by decide +kernel) (ab_cv rfl rfl (conc_get (σ := τ1) (F2.s s0_0)) ⟨(Nat.le_of_ble_eq_true rfl), (Nat.le_of_ble_eq_true rfl)⟩ rfl) rfl (Nat.le_of_ble_eq_true rfl) rfl rfl (hY_no fun E => rfl) w (fun v6 τ4 F5 w => ?_)
      refine ab_fin.br (c := v6 = 0) (i := .ifCond .eq 113) (off := 113) (t := 175) (pc' := 65) (r := []) (by decide +kernel) rfl (by decide +kernel) rfl (fun q => ?_) (fun q => ?_)
      · replace w := w.1 q
        refine ab_fin.ald (i := .aload_n 3) (n := 3) (k := 1) (pc' := 176) (Or.inl ⟨_, rfl, rfl, rfl⟩) (by decide +kernel) rfl (oR_rv _) rfl ?_
        refine ab_fin.q_nnl (off := 7) (t := 183) (pc' := 179) (by decide +kernel) (oR_rv _) (by decide +kernel) rfl (fun q => ?_) (fun q => ?_)
        · replace w := w.1 (fun z => q (rv_null.mpr z))
          refine ab_fin.ald (i := .aload_n 3) (n := 3) (k := 1) (pc' := 184) (Or.inl ⟨_, rfl, rfl, rfl⟩) (by decide +kernel) rfl (oR_rv _) rfl ?_
          exact ab_fin.q_ret (i := .areturn) (k := 1) (v := some (rv l3)) (by decide +kernel) (ret_A (oR_rv _)) F5 w
        · replace w := w.2 (rv_null.mp q)
          refine ab_fin.ald (i := .aload_n 2) (n := 2) (k := 1) (pc' := 180) (Or.inl ⟨_, rfl, rfl, rfl⟩) (by decide +kernel) rfl (oR_rv _) rfl ?_
          refine ab_fin.s3 (i := .goto 4) (k := 3) (t := 184) (st' := [rv l2]) (by decide +kernel) (ab_gto (by decide +kernel)) ?_
          exact ab_fin.q_ret (i := .areturn) (k := 1) (v := some (rv l2)) (by decide +kernel) (ret_A (oR_rv _)) F5 w
      · replace w := w.2 q
        exact ab_fin.lv ⟨(List.forall_mem_cons.mpr ⟨(List.Mem.head _), (List.forall_mem_cons.mpr ⟨(List.Mem.tail _ (List.Mem.head _)), (List.forall_mem_cons.mpr ⟨(List.Mem.tail _ (List.Mem.tail _ (List.Mem.head _))), (List.forall_mem_cons.mpr ⟨(List.Mem.tail _ (List.Mem.tail _ (List.Mem.tail _ (List.Mem.head _)))), (List.forall_mem_cons.mpr ⟨(List.Mem.tail _ (List.Mem.tail _ (List.Mem.tail _ (List.Mem.tail _ (List.Mem.head _))))), (fun _ h => absurd h List.not_mem_nil)⟩)⟩)⟩)⟩)⟩), (show ([0, 1, 2, 3, 4] : List Nat).Nodup from by decide)⟩ w
  · replace w := w.2 q
    refine ab_fin.s2 (i := .aload_n 0) (k := 1) (pc' := 27) (lv' := [(0, .ref 0), (1, .int l1), (2, rv l2), (3, rv l3), (4, rv l4)]) (st' := [.ref 0]) (by decide +kernel) rfl rfl ?_
    refine ab_fin.s1i (i := .bipush 43) (k := 2) (pc' := 29) (n := 43) (by decide +kernel) rfl (by decide +kernel) rfl ?_
    refine ab_fin.q_yI (i := .invokevirtual 233) (k := 3) (y := 5904) (As := [.ref 0, .int 43]) (rest := []) (M' := (mX23_is, [])) (lv2 := [(0, .ref 0), (1, .int 43)]) (pc' := 32) (X := K) (by decide +kernel) (ab_cv rfl rfl (conc_get (σ := σ) (F.s s0_0)) ⟨(Nat.le_of_ble_eq_true rfl), (Nat.le_of_ble_eq_true rfl)⟩ rfl) rfl (Nat.le_of_ble_eq_true rfl) rfl rfl (hY_no fun E => rfl) w (fun v9 τ7 F8 w => ?_)
    refine ab_fin.br (c := ¬ v9 = 0) (i := .ifCond .ne 33) (off := 33) (t := 65) (pc' := 35) (r := []) (by decide +kernel) rfl (by decide +kernel) rfl (fun q => ?_) (fun q => ?_)
    · replace w := w.1 q
      exact ab_fin.lv ⟨(List.forall_mem_cons.mpr ⟨(List.Mem.head _), (List.forall_mem_cons.mpr ⟨(List.Mem.tail _ (List.Mem.head _)), (List.forall_mem_cons.mpr ⟨(List.Mem.tail _ (List.Mem.tail _ (List.Mem.head _))), (List.forall_mem_cons.mpr ⟨(List.Mem.tail _ (List.Mem.tail _ (List.Mem.tail _ (List.Mem.head _)))), (List.forall_mem_cons.mpr ⟨(List.Mem.tail _ (List.Mem.tail _ (List.Mem.tail _ (List.Mem.tail _ (List.Mem.head _))))), (fun _ h => absurd h List.not_mem_nil)⟩)⟩)⟩)⟩)⟩), (show ([0, 1, 2, 3, 4] : List Nat).Nodup from by decide)⟩ w
    · replace w := w.2 (Decidable.of_not_not q)
      refine ab_fin.s2 (i := .aload_n 0) (k := 1) (pc' := 36) (lv' := [(0, .ref 0), (1, .int l1), (2, rv l2), (3, rv l3), (4, rv l4)]) (st' := [.ref 0]) (by decide +kernel) rfl rfl ?_
      refine ab_fin.s1i (i := .bipush 45) (k := 2) (pc' := 38) (n := 45) (by decide +kernel) rfl (by decide +kernel) rfl ?_
      refine ab_fin.q_yI (i := .invokevirtual 233) (k := 3) (y := 5904) (As := [.ref 0, .int 45]) (rest := []) (M' := (mX23_is, [])) (lv2 := [(0, .ref 0), (1, .int 45)]) (pc' := 41) (X := K) (by decide +kernel) (ab_cv rfl rfl (conc_get (σ := τ7) (F8.s s0_0)) ⟨(Nat.le_of_ble_eq_true rfl), (Nat.le_of_ble_eq_true rfl)⟩ rfl) rfl (Nat.le_of_ble_eq_true rfl) rfl rfl (hY_no fun E => rfl) w (fun v12 τ10 F11 w => ?_)
      refine ab_fin.br (c := v12 = 0) (i := .ifCond .eq 134) (off := 134) (t := 175) (pc' := 44) (r := []) (by decide +kernel) rfl (by decide +kernel) rfl (fun q => ?_) (fun q => ?_)
      · replace w := w.1 q
        refine ab_fin.ald (i := .aload_n 3) (n := 3) (k := 1) (pc' := 176) (Or.inl ⟨_, rfl, rfl, rfl⟩) (by decide +kernel) rfl (oR_rv _) rfl ?_
        refine ab_fin.q_nnl (off := 7) (t := 183) (pc' := 179) (by decide +kernel) (oR_rv _) (by decide +kernel) rfl (fun q => ?_) (fun q => ?_)
        · replace w := w.1 (fun z => q (rv_null.mpr z))
          refine ab_fin.ald (i := .aload_n 3) (n := 3) (k := 1) (pc' := 184) (Or.inl ⟨_, rfl, rfl, rfl⟩) (by decide +kernel) rfl (oR_rv _) rfl ?_
          exact ab_fin.q_ret (i := .areturn) (k := 1) (v := some (rv l3)) (by decide +kernel) (ret_A (oR_rv _)) F11 w
        · replace w := w.2 (rv_null.mp q)
          refine ab_fin.ald (i := .aload_n 2) (n := 2) (k := 1) (pc' := 180) (Or.inl ⟨_, rfl, rfl, rfl⟩) (by decide +kernel) rfl (oR_rv _) rfl ?_
          refine ab_fin.s3 (i := .goto 4) (k := 3) (t := 184) (st' := [rv l2]) (by decide +kernel) (ab_gto (by decide +kernel)) ?_
          exact ab_fin.q_ret (i := .areturn) (k := 1) (v := some (rv l2)) (by decide +kernel) (ret_A (oR_rv _)) F11 w
      · replace w := w.2 q
        refine ab_fin.s3 (i := .goto 21) (k := 3) (t := 65) (st' := []) (by decide +kernel) (ab_gto (by decide +kernel)) ?_
        exact ab_fin.lv ⟨(List.forall_mem_cons.mpr ⟨(List.Mem.head _), (List.forall_mem_cons.mpr ⟨(List.Mem.tail _ (List.Mem.head _)), (List.forall_mem_cons.mpr ⟨(List.Mem.tail _ (List.Mem.tail _ (List.Mem.head _))), (List.forall_mem_cons.mpr ⟨(List.Mem.tail _ (List.Mem.tail _ (List.Mem.tail _ (List.Mem.head _)))), (List.forall_mem_cons.mpr ⟨(List.Mem.tail _ (List.Mem.tail _ (List.Mem.tail _ (List.Mem.tail _ (List.Mem.head _))))), (fun _ h => absurd h List.not_mem_nil)⟩)⟩)⟩)⟩)⟩), (show ([0, 1, 2, 3, 4] : List Nat).Nodup from by decide)⟩ w
theorem S_X23_chain_65 {Z : zT} {d : Nat} {σ : Sg} {l1 : Int32} {l2 : Rf} {l3 : Rf} {l4 : Rf} {K : kS} (F : FX ΦR σ.sh σ.r) (w : B_X23_counted_0 Z d σ (σ.i 0 18) (yN K fun τ1 => (¬ l3 = Rf.nul → B_X23_chain_92 Z (d + 1) τ1 l1 l2 l3 l4 K) ∧ (l3 = Rf.nul → ∃ b3, (τ1.r 0 34) = Rf.ptr b3 ∧ (sh0R[b3]? = some (Sh.obj 22) ∧ (B_X21_get_0 Z d τ1 b3 10 (yW K fun v8 τ6 => ∃ b9, v8 = Rf.ptr b9 ∧ (τ6.sh[b9]? = some (Sh.obj 21) ∧ (B_X23_chain_92 Z (d + 1) (τ6.wr b9 5 l2) l1 l2 (Rf.ptr b9) l4 K)))))))) : B_X23_chain_65 Z (d + 1) σ l1 l2 l3 l4 K := by
  unfold B_X23_chain_65
  refine ab_fin.s2 (i := .aload_n 0) (k := 1) (pc' := 66) (lv' := [(0, .ref 0), (1, .int l1), (2, rv l2), (3, rv l3), (4, rv l4)]) (st' := [.ref 0]) (by decide +kernel) rfl rfl ?_
  refine ab_fin.s2 (i := .aload_n 0) (k := 1) (pc' := 67) (lv' := [(0, .ref 0), (1, .int l1), (2, rv l2), (3, rv l3), (4, rv l4)]) (st' := [.ref 0, .ref 0]) (by decide +kernel) rfl rfl ?_
  refine ab_fin.q_rI (x := (σ.i 0 18)) (ix := 106) (ci := 24) (k := 18) (pc' := 70) (by decide +kernel) rfl (c_rI (F.s s0_0) rfl) rfl ?_
  refine ab_fin.q_yN (i := .invokevirtual 453) (k := 3) (y := 5912) (As := [.ref 0, .int (σ.i 0 18)]) (rest := []) (M' := (mX23_counted, [])) (lv2 := [(0, .ref 0), (1, .int (σ.i 0 18))]) (pc' := 73) (X := K) (by decide +kernel) (ab_cv rfl rfl (conc_get (σ := σ) (F.s s0_0)) ⟨(Nat.le_of_ble_eq_true rfl), (Nat.le_of_ble_eq_true rfl)⟩ rfl) rfl (Nat.le_of_ble_eq_true rfl) rfl rfl (hY_no fun E => rfl) w (fun τ1 F2 w => ?_)
  refine ab_fin.ald (i := .aload_n 3) (n := 3) (k := 1) (pc' := 74) (Or.inl ⟨_, rfl, rfl, rfl⟩) (by decide +kernel) rfl (oR_rv _) rfl ?_
  refine ab_fin.q_nnl (off := 18) (t := 92) (pc' := 77) (by decide +kernel) (oR_rv _) (by decide +kernel) rfl (fun q => ?_) (fun q => ?_)
  · replace w := w.1 (fun z => q (rv_null.mpr z))
    exact ab_fin.lv ⟨(List.forall_mem_cons.mpr ⟨(List.Mem.head _), (List.forall_mem_cons.mpr ⟨(List.Mem.tail _ (List.Mem.head _)), (List.forall_mem_cons.mpr ⟨(List.Mem.tail _ (List.Mem.tail _ (List.Mem.head _))), (List.forall_mem_cons.mpr ⟨(List.Mem.tail _ (List.Mem.tail _ (List.Mem.tail _ (List.Mem.head _)))), (List.forall_mem_cons.mpr ⟨(List.Mem.tail _ (List.Mem.tail _ (List.Mem.tail _ (List.Mem.tail _ (List.Mem.head _))))), (fun _ h => absurd h List.not_mem_nil)⟩)⟩)⟩)⟩)⟩), (show ([0, 1, 2, 3, 4] : List Nat).Nodup from by decide)⟩ w
  · replace w := w.2 (rv_null.mp q)
    refine ab_fin.s2 (i := .aload_n 0) (k := 1) (pc' := 78) (lv' := [(0, .ref 0), (1, .int l1), (2, rv l2), (3, rv l3), (4, rv l4)]) (st' := [.ref 0]) (by decide +kernel) rfl rfl ?_
    obtain ⟨b3, e4, w⟩ := w
    refine ab_fin.q_rA (b := b3) (ix := 353) (ci := 24) (k := 34) (pc' := 81) (by decide +kernel) rfl (c_rA (F2.s s0_0) rfl e4) rfl ?_
    refine ab_fin.s1i (i := .bipush 10) (k := 2) (pc' := 83) (n := 10) (by decide +kernel) rfl (by decide +kernel) rfl ?_
    obtain ⟨e5, w⟩ := w
    refine ab_fin.q_yW (i := .invokevirtual 403) (k := 3) (y := 5377) (As := [.ref b3, .int 10]) (rest := []) (M' := (mX21_get, [])) (lv2 := [(0, .ref b3), (1, .int 10)]) (pc' := 86) (X := K) (by decide +kernel) (ab_cv rfl rfl (conc_get (σ := τ1) (F2.s e5)) ⟨(Nat.le_of_ble_eq_true rfl), (Nat.le_of_ble_eq_true rfl)⟩ rfl) rfl (Nat.le_of_ble_eq_true rfl) rfl rfl (hY_no fun E => rfl) w (fun v8 τ6 F7 w => ?_)
    refine ab_fin.q_stA (i := .astore_n 3) (n := 3) (k := 1) (pc' := 87) (lv' := [(3, rv v8), (0, .ref 0), (1, .int l1), (2, rv l2), (4, rv l4)]) (Or.inl ⟨_, rfl, rfl, rfl⟩) (by decide +kernel) (by decide) (oR_rv _) (by simp only [ab_st1, List.filter_cons, List.filter_nil, cA (oR_rv _)]; rfl) rfl ?_
    refine ab_fin.ald (i := .aload_n 3) (n := 3) (k := 1) (pc' := 88) (Or.inl ⟨_, rfl, rfl, rfl⟩) (by decide +kernel) rfl (oR_rv _) rfl ?_
    refine ab_fin.ald (i := .aload_n 2) (n := 2) (k := 1) (pc' := 89) (Or.inl ⟨_, rfl, rfl, rfl⟩) (by decide +kernel) rfl (oR_rv _) rfl ?_
    obtain ⟨b9, e10, w⟩ := w
    rw [show rv v8 = .ref b9 from by rw [e10]; rfl]
    obtain ⟨e11, w⟩ := w
    have F12 := FX.w (Φ := ΦR) (a := b9) (k := 5) (v := l2) F7 (cD F7 e11 rfl)
    refine ab_fin.q_pF (ix := 409) (ci := 21) (k := 5) (h1 := conc (τ6.wr b9 5 l2)) (pc' := 92) (by decide +kernel) rfl (c_pR (v := l2) e11 rfl) nRv_n nRv_f rfl ?_
    exact ab_fin.lv ⟨(List.forall_mem_cons.mpr ⟨(List.Mem.tail _ (List.Mem.head _)), (List.forall_mem_cons.mpr ⟨(List.Mem.tail _ (List.Mem.tail _ (List.Mem.head _))), (List.forall_mem_cons.mpr ⟨(List.Mem.tail _ (List.Mem.tail _ (List.Mem.tail _ (List.Mem.head _)))), (List.forall_mem_cons.mpr ⟨(List.Mem.head _), (List.forall_mem_cons.mpr ⟨(List.Mem.tail _ (List.Mem.tail _ (List.Mem.tail _ (List.Mem.tail _ (List.Mem.head _))))), (fun _ h => absurd h List.not_mem_nil)⟩)⟩)⟩)⟩)⟩), (show ([3, 0, 1, 2, 4] : List Nat).Nodup from by decide)⟩ w
theorem S_X23_chain_92 {Z : zT} {d : Nat} {σ : Sg} {l1 : Int32} {l2 : Rf} {l3 : Rf} {l4 : Rf} {K : kS} (F : FX ΦR σ.sh σ.r) (w : ∃ b1, (σ.r 0 34) = Rf.ptr b1 ∧ (sh0R[b1]? = some (Sh.obj 22) ∧ (B_X21_get_0 Z d σ b1 10 (yW K fun v6 τ4 => ∃ b7, v6 = Rf.ptr b7 ∧ (τ4.sh[b7]? = some (Sh.obj 21) ∧ (B_X23_next_0 Z d (τ4.wi b7 3 (τ4.i 0 19))  (yN K fun τ10 => (l1 = 0 → B_X23_p_0 Z d τ10  (yW K fun v14 τ12 => B_X23_chain_134 Z (d + 1) τ12 l1 l2 l3 l4 b7 b7 v14 K)) ∧ (¬ l1 = 0 → B_X23_chain_0 Z d τ10 0 (yW K fun v17 τ15 => B_X23_chain_134 Z (d + 1) τ15 l1 l2 l3 l4 b7 b7 v17 K))))))))) : B_X23_chain_92 Z (d + 1) σ l1 l2 l3 l4 K := by
  unfold B_X23_chain_92
  refine ab_fin.s2 (i := .aload_n 0) (k := 1) (pc' := 93) (lv' := [(0, .ref 0), (1, .int l1), (2, rv l2), (3, rv l3), (4, rv l4)]) (st' := [.ref 0]) (by decide +kernel) rfl rfl ?_
  obtain ⟨b1, e2, w⟩ := w
  refine ab_fin.q_rA (b := b1) (ix := 353) (ci := 24) (k := 34) (pc' := 96) (by decide +kernel) rfl (c_rA (F.s s0_0) rfl e2) rfl ?_
  refine ab_fin.s1i (i := .bipush 10) (k := 2) (pc' := 98) (n := 10) (by decide +kernel) rfl (by decide +kernel) rfl ?_
  obtain ⟨e3, w⟩ := w
  refine ab_fin.q_yW (i := .invokevirtual 403) (k := 3) (y := 5377) (As := [.ref b1, .int 10]) (rest := []) (M' := (mX21_get, [])) (lv2 := [(0, .ref b1), (1, .int 10)]) (pc' := 101) (X := K) (by decide +kernel) (ab_cv rfl rfl (conc_get (σ := σ) (F.s e3)) ⟨(Nat.le_of_ble_eq_true rfl), (Nat.le_of_ble_eq_true rfl)⟩ rfl) rfl (Nat.le_of_ble_eq_true rfl) rfl rfl (hY_no fun E => rfl) w (fun v6 τ4 F5 w => ?_)
  refine ab_fin.q_stA (i := .astore 5) (n := 5) (k := 2) (pc' := 103) (lv' := [(5, rv v6), (0, .ref 0), (1, .int l1), (2, rv l2), (3, rv l3), (4, rv l4)]) (Or.inr ⟨rfl, rfl⟩) (by decide +kernel) (by decide) (oR_rv _) (by simp only [ab_st1, List.filter_cons, List.filter_nil, cA (oR_rv _)]; rfl) rfl ?_
  refine ab_fin.ald (i := .aload 5) (n := 5) (k := 2) (pc' := 105) (Or.inr ⟨rfl, rfl⟩) (by decide +kernel) rfl (oR_rv _) rfl ?_
  refine ab_fin.s2 (i := .aload_n 0) (k := 1) (pc' := 106) (lv' := [(5, rv v6), (0, .ref 0), (1, .int l1), (2, rv l2), (3, rv l3), (4, rv l4)]) (st' := [.ref 0, rv v6]) (by decide +kernel) rfl rfl ?_
  refine ab_fin.q_rI (x := (τ4.i 0 19)) (ix := 213) (ci := 24) (k := 19) (pc' := 109) (by decide +kernel) rfl (c_rI (F5.s s0_0) rfl) rfl ?_
  obtain ⟨b7, e8, w⟩ := w
  rw [show rv v6 = .ref b7 from by rw [e8]; rfl]
  obtain ⟨e9, w⟩ := w
  refine ab_fin.q_pF (ix := 449) (ci := 21) (k := 3) (h1 := conc (τ4.wi b7 3 (τ4.i 0 19))) (pc' := 112) (by decide +kernel) rfl (c_pI (v := (τ4.i 0 19)) e9 rfl) rfl rfl rfl ?_
  refine ab_fin.s2 (i := .aload_n 0) (k := 1) (pc' := 113) (lv' := [(5, .ref b7), (0, .ref 0), (1, .int l1), (2, rv l2), (3, rv l3), (4, rv l4)]) (st' := [.ref 0]) (by decide +kernel) rfl rfl ?_
  refine ab_fin.q_yN (i := .invokevirtual 239) (k := 3) (y := 5902) (As := [.ref 0]) (rest := []) (M' := (mX23_next, [])) (lv2 := [(0, .ref 0)]) (pc' := 116) (X := K) (by decide +kernel) (ab_cv rfl rfl (conc_get (σ := (τ4.wi b7 3 (τ4.i 0 19))) (F5.s s0_0)) ⟨(Nat.le_of_ble_eq_true rfl), (Nat.le_of_ble_eq_true rfl)⟩ rfl) rfl (Nat.le_of_ble_eq_true rfl) rfl rfl (hY_no fun E => rfl) w (fun τ10 F11 w => ?_)
  refine ab_fin.s2 (i := .aload 5) (k := 2) (pc' := 118) (lv' := [(5, .ref b7), (0, .ref 0), (1, .int l1), (2, rv l2), (3, rv l3), (4, rv l4)]) (st' := [.ref b7]) (by decide +kernel) rfl rfl ?_
  refine ab_fin.s2 (i := .iload_n 1) (k := 1) (pc' := 119) (lv' := [(5, .ref b7), (0, .ref 0), (1, .int l1), (2, rv l2), (3, rv l3), (4, rv l4)]) (st' := [.int l1, .ref b7]) (by decide +kernel) rfl rfl ?_
  refine ab_fin.br (c := l1 = 0) (i := .ifCond .eq 11) (off := 11) (t := 130) (pc' := 122) (r := [.ref b7]) (by decide +kernel) rfl (by decide +kernel) rfl (fun q => ?_) (fun q => ?_)
  · replace w := w.1 q
    refine ab_fin.s2 (i := .aload_n 0) (k := 1) (pc' := 131) (lv' := [(5, .ref b7), (0, .ref 0), (1, .int l1), (2, rv l2), (3, rv l3), (4, rv l4)]) (st' := [.ref 0, .ref b7]) (by decide +kernel) rfl rfl ?_
    refine ab_fin.q_yW (i := .invokevirtual 473) (k := 3) (y := 5934) (As := [.ref 0]) (rest := [.ref b7]) (M' := (mX23_p, [])) (lv2 := [(0, .ref 0)]) (pc' := 134) (X := K) (by decide +kernel) (ab_cv rfl rfl (conc_get (σ := τ10) (F11.s s0_0)) ⟨(Nat.le_of_ble_eq_true rfl), (Nat.le_of_ble_eq_true rfl)⟩ rfl) rfl (Nat.le_of_ble_eq_true rfl) rfl rfl (hY_no fun E => rfl) w (fun v14 τ12 F13 w => ?_)
    exact ab_fin.lv ⟨(List.forall_mem_cons.mpr ⟨(List.Mem.tail _ (List.Mem.head _)), (List.forall_mem_cons.mpr ⟨(List.Mem.tail _ (List.Mem.tail _ (List.Mem.head _))), (List.forall_mem_cons.mpr ⟨(List.Mem.tail _ (List.Mem.tail _ (List.Mem.tail _ (List.Mem.head _)))), (List.forall_mem_cons.mpr ⟨(List.Mem.tail _ (List.Mem.tail _ (List.Mem.tail _ (List.Mem.tail _ (List.Mem.head _))))), (List.forall_mem_cons.mpr ⟨(List.Mem.tail _ (List.Mem.tail _ (List.Mem.tail _ (List.Mem.tail _ (List.Mem.tail _ (List.Mem.head _)))))), (List.forall_mem_cons.mpr ⟨(List.Mem.head _), (fun _ h => absurd h List.not_mem_nil)⟩)⟩)⟩)⟩)⟩)⟩), (show ([5, 0, 1, 2, 3, 4] : List Nat).Nodup from by decide)⟩ w
  · replace w := w.2 q
    refine ab_fin.s2 (i := .aload_n 0) (k := 1) (pc' := 123) (lv' := [(5, .ref b7), (0, .ref 0), (1, .int l1), (2, rv l2), (3, rv l3), (4, rv l4)]) (st' := [.ref 0, .ref b7]) (by decide +kernel) rfl rfl ?_
    refine ab_fin.s1i (i := .iconst 0) (k := 1) (pc' := 124) (n := 0) (by decide +kernel) rfl (by decide +kernel) rfl ?_
    refine ab_fin.q_yW (i := .invokevirtual 469) (k := 3) (y := 5933) (As := [.ref 0, .int 0]) (rest := [.ref b7]) (M' := (mX23_chain, [])) (lv2 := [(0, .ref 0), (1, .int 0)]) (pc' := 127) (X := K) (by decide +kernel) (ab_cv rfl rfl (conc_get (σ := τ10) (F11.s s0_0)) ⟨(Nat.le_of_ble_eq_true rfl), (Nat.le_of_ble_eq_true rfl)⟩ rfl) rfl (Nat.le_of_ble_eq_true rfl) rfl rfl (hY_no fun E => rfl) w (fun v17 τ15 F16 w => ?_)
    refine ab_fin.s3 (i := .goto 7) (k := 3) (t := 134) (st' := [rv v17, .ref b7]) (by decide +kernel) (ab_gto (by decide +kernel)) ?_
    exact ab_fin.lv ⟨(List.forall_mem_cons.mpr ⟨(List.Mem.tail _ (List.Mem.head _)), (List.forall_mem_cons.mpr ⟨(List.Mem.tail _ (List.Mem.tail _ (List.Mem.head _))), (List.forall_mem_cons.mpr ⟨(List.Mem.tail _ (List.Mem.tail _ (List.Mem.tail _ (List.Mem.head _)))), (List.forall_mem_cons.mpr ⟨(List.Mem.tail _ (List.Mem.tail _ (List.Mem.tail _ (List.Mem.tail _ (List.Mem.head _))))), (List.forall_mem_cons.mpr ⟨(List.Mem.tail _ (List.Mem.tail _ (List.Mem.tail _ (List.Mem.tail _ (List.Mem.tail _ (List.Mem.head _)))))), (List.forall_mem_cons.mpr ⟨(List.Mem.head _), (fun _ h => absurd h List.not_mem_nil)⟩)⟩)⟩)⟩)⟩)⟩), (show ([5, 0, 1, 2, 3, 4] : List Nat).Nodup from by decide)⟩ w
theorem S_X23_chain_134 {Z : zT} {d : Nat} {σ : Sg} {l1 : Int32} {l2 : Rf} {l3 : Rf} {l4 : Rf} {l5 : Nat} {s0 : Nat} {s1 : Rf} {K : kS} (F : FX ΦR σ.sh σ.r) (w : σ.sh[s0]? = some (Sh.obj 21) ∧ ((¬ l4 = Rf.nul → ∃ b3, l4 = Rf.ptr b3 ∧ (σ.sh[b3]? = some (Sh.obj 21) ∧ (∃ b7, l3 = Rf.ptr b7 ∧ (σ.sh[b7]? = some (Sh.obj 21) ∧ (B_X23_chain_22 Z (d + 1) (((σ.wr s0 5 s1).wr b3 8 (Rf.ptr l5)).wi b7 4 ((σ.i b7 4) + (1 : Int32))) l1 l2 (Rf.ptr b7) (Rf.ptr l5) K))))) ∧ (l4 = Rf.nul → ∃ b10, l3 = Rf.ptr b10 ∧ (σ.sh[b10]? = some (Sh.obj 21) ∧ (B_X23_chain_22 Z (d + 1) (((σ.wr s0 5 s1).wr b10 8 (Rf.ptr l5)).wi b10 4 ((σ.i b10 4) + (1 : Int32))) l1 l2 (Rf.ptr b10) (Rf.ptr l5) K))))) : B_X23_chain_134 Z (d + 1) σ l1 l2 l3 l4 l5 s0 s1 K := by
  unfold B_X23_chain_134
  obtain ⟨e1, w⟩ := w
  have F2 := FX.w (Φ := ΦR) (a := s0) (k := 5) (v := s1) F (cD F e1 rfl)
  refine ab_fin.q_pF (ix := 409) (ci := 21) (k := 5) (h1 := conc (σ.wr s0 5 s1)) (pc' := 137) (by decide +kernel) rfl (c_pR (v := s1) e1 rfl) nRv_n nRv_f rfl ?_
  refine ab_fin.ald (i := .aload 4) (n := 4) (k := 2) (pc' := 139) (Or.inr ⟨rfl, rfl⟩) (by decide +kernel) rfl (oR_rv _) rfl ?_
  refine ab_fin.q_nnl (off := 12) (t := 151) (pc' := 142) (by decide +kernel) (oR_rv _) (by decide +kernel) rfl (fun q => ?_) (fun q => ?_)
  · replace w := w.1 (fun z => q (rv_null.mpr z))
    refine ab_fin.ald (i := .aload 4) (n := 4) (k := 2) (pc' := 153) (Or.inr ⟨rfl, rfl⟩) (by decide +kernel) rfl (oR_rv _) rfl ?_
    refine ab_fin.s2 (i := .aload 5) (k := 2) (pc' := 155) (lv' := [(0, .ref 0), (1, .int l1), (2, rv l2), (3, rv l3), (4, rv l4), (5, .ref l5)]) (st' := [.ref l5, rv l4]) (by decide +kernel) rfl rfl ?_
    obtain ⟨b3, e4, w⟩ := w
    rw [show rv l4 = .ref b3 from by rw [e4]; rfl]
    obtain ⟨e5, w⟩ := w
    have F6 := FX.w (Φ := ΦR) (a := b3) (k := 8) (v := (Rf.ptr l5)) F2 (cD F2 e5 rfl)
    refine ab_fin.q_pF (ix := 476) (ci := 21) (k := 8) (h1 := conc ((σ.wr s0 5 s1).wr b3 8 (Rf.ptr l5))) (pc' := 158) (by decide +kernel) rfl (c_pR (v := (Rf.ptr l5)) e5 rfl) rfl rfl rfl ?_
    refine ab_fin.s2 (i := .aload 5) (k := 2) (pc' := 160) (lv' := [(0, .ref 0), (1, .int l1), (2, rv l2), (3, rv l3), (4, .ref b3), (5, .ref l5)]) (st' := [.ref l5]) (by decide +kernel) rfl rfl ?_
    refine ab_fin.q_stA (i := .astore 4) (n := 4) (k := 2) (pc' := 162) (lv' := [(4, .ref l5), (0, .ref 0), (1, .int l1), (2, rv l2), (3, rv l3), (5, .ref l5)]) (Or.inr ⟨rfl, rfl⟩) (by decide +kernel) (by decide) rfl (by simp only [ab_st1, List.filter_cons, List.filter_nil, cA (oR_rv _)]; rfl) rfl ?_
    refine ab_fin.ald (i := .aload_n 3) (n := 3) (k := 1) (pc' := 163) (Or.inl ⟨_, rfl, rfl, rfl⟩) (by decide +kernel) rfl (oR_rv _) rfl ?_
    refine ab_fin.s1 (i := .dup) (k := 1) (pc' := 164) (st' := [rv l3, rv l3]) (by decide +kernel) (by simp only [ab_s1, cA (oR_rv _), cI, cR1, and_self, if_pos]) rfl ?_
    obtain ⟨b7, e8, w⟩ := w
    rw [show rv l3 = .ref b7 from by rw [e8]; rfl]
    obtain ⟨e9, w⟩ := w
    refine ab_fin.q_rI (x := (σ.i b7 4)) (ix := 479) (ci := 21) (k := 4) (pc' := 167) (by decide +kernel) rfl (c_rI e9 rfl) rfl ?_
    refine ab_fin.s1i (i := .iconst 1) (k := 1) (pc' := 168) (n := 1) (by decide +kernel) rfl (by decide +kernel) rfl ?_
    refine ab_fin.s1 (i := .iadd) (k := 1) (pc' := 169) (st' := [.int ((σ.i b7 4) + (1 : Int32)), .ref b7]) (by decide +kernel) rfl rfl ?_
    refine ab_fin.q_pF (ix := 479) (ci := 21) (k := 4) (h1 := conc (((σ.wr s0 5 s1).wr b3 8 (Rf.ptr l5)).wi b7 4 ((σ.i b7 4) + (1 : Int32)))) (pc' := 172) (by decide +kernel) rfl (c_pI (v := ((σ.i b7 4) + (1 : Int32))) e9 rfl) rfl rfl rfl ?_
    refine ab_fin.s3 (i := .goto (-150)) (k := 3) (t := 22) (st' := []) (by decide +kernel) (ab_gto (by decide +kernel)) ?_
    exact ab_fin.lv ⟨(List.forall_mem_cons.mpr ⟨(List.Mem.tail _ (List.Mem.head _)), (List.forall_mem_cons.mpr ⟨(List.Mem.tail _ (List.Mem.tail _ (List.Mem.head _))), (List.forall_mem_cons.mpr ⟨(List.Mem.tail _ (List.Mem.tail _ (List.Mem.tail _ (List.Mem.head _)))), (List.forall_mem_cons.mpr ⟨(List.Mem.tail _ (List.Mem.tail _ (List.Mem.tail _ (List.Mem.tail _ (List.Mem.head _))))), (List.forall_mem_cons.mpr ⟨(List.Mem.head _), (fun _ h => absurd h List.not_mem_nil)⟩)⟩)⟩)⟩)⟩), (show ([4, 0, 1, 2, 3, 5] : List Nat).Nodup from by decide)⟩ w
  · replace w := w.2 (rv_null.mp q)
    refine ab_fin.ald (i := .aload_n 3) (n := 3) (k := 1) (pc' := 143) (Or.inl ⟨_, rfl, rfl, rfl⟩) (by decide +kernel) rfl (oR_rv _) rfl ?_
    refine ab_fin.s2 (i := .aload 5) (k := 2) (pc' := 145) (lv' := [(0, .ref 0), (1, .int l1), (2, rv l2), (3, rv l3), (4, rv l4), (5, .ref l5)]) (st' := [.ref l5, rv l3]) (by decide +kernel) rfl rfl ?_
    obtain ⟨b10, e11, w⟩ := w
    rw [show rv l3 = .ref b10 from by rw [e11]; rfl]
    obtain ⟨e12, w⟩ := w
    have F13 := FX.w (Φ := ΦR) (a := b10) (k := 8) (v := (Rf.ptr l5)) F2 (cD F2 e12 rfl)
    refine ab_fin.q_pF (ix := 476) (ci := 21) (k := 8) (h1 := conc ((σ.wr s0 5 s1).wr b10 8 (Rf.ptr l5))) (pc' := 148) (by decide +kernel) rfl (c_pR (v := (Rf.ptr l5)) e12 rfl) rfl rfl rfl ?_
    refine ab_fin.s3 (i := .goto 10) (k := 3) (t := 158) (st' := []) (by decide +kernel) (ab_gto (by decide +kernel)) ?_
    refine ab_fin.s2 (i := .aload 5) (k := 2) (pc' := 160) (lv' := [(0, .ref 0), (1, .int l1), (2, rv l2), (3, .ref b10), (4, rv l4), (5, .ref l5)]) (st' := [.ref l5]) (by decide +kernel) rfl rfl ?_
    refine ab_fin.s2 (i := .astore 4) (k := 2) (pc' := 162) (lv' := [(4, .ref l5), (0, .ref 0), (1, .int l1), (2, rv l2), (3, .ref b10), (5, .ref l5)]) (st' := []) (by decide +kernel) rfl rfl ?_
    refine ab_fin.s2 (i := .aload_n 3) (k := 1) (pc' := 163) (lv' := [(4, .ref l5), (0, .ref 0), (1, .int l1), (2, rv l2), (3, .ref b10), (5, .ref l5)]) (st' := [.ref b10]) (by decide +kernel) rfl rfl ?_
    refine ab_fin.s1 (i := .dup) (k := 1) (pc' := 164) (st' := [.ref b10, .ref b10]) (by decide +kernel) rfl rfl ?_
    refine ab_fin.q_rI (x := (σ.i b10 4)) (ix := 479) (ci := 21) (k := 4) (pc' := 167) (by decide +kernel) rfl (c_rI e12 rfl) rfl ?_
    refine ab_fin.s1i (i := .iconst 1) (k := 1) (pc' := 168) (n := 1) (by decide +kernel) rfl (by decide +kernel) rfl ?_
    refine ab_fin.s1 (i := .iadd) (k := 1) (pc' := 169) (st' := [.int ((σ.i b10 4) + (1 : Int32)), .ref b10]) (by decide +kernel) rfl rfl ?_
    refine ab_fin.q_pF (ix := 479) (ci := 21) (k := 4) (h1 := conc (((σ.wr s0 5 s1).wr b10 8 (Rf.ptr l5)).wi b10 4 ((σ.i b10 4) + (1 : Int32)))) (pc' := 172) (by decide +kernel) rfl (c_pI (v := ((σ.i b10 4) + (1 : Int32))) e12 rfl) rfl rfl rfl ?_
    refine ab_fin.s3 (i := .goto (-150)) (k := 3) (t := 22) (st' := []) (by decide +kernel) (ab_gto (by decide +kernel)) ?_
    exact ab_fin.lv ⟨(List.forall_mem_cons.mpr ⟨(List.Mem.tail _ (List.Mem.head _)), (List.forall_mem_cons.mpr ⟨(List.Mem.tail _ (List.Mem.tail _ (List.Mem.head _))), (List.forall_mem_cons.mpr ⟨(List.Mem.tail _ (List.Mem.tail _ (List.Mem.tail _ (List.Mem.head _)))), (List.forall_mem_cons.mpr ⟨(List.Mem.tail _ (List.Mem.tail _ (List.Mem.tail _ (List.Mem.tail _ (List.Mem.head _))))), (List.forall_mem_cons.mpr ⟨(List.Mem.head _), (fun _ h => absurd h List.not_mem_nil)⟩)⟩)⟩)⟩)⟩), (show ([4, 0, 1, 2, 3, 5] : List Nat).Nodup from by decide)⟩ w
theorem S_X23_p_0 {Z : zT} {d : Nat} {σ : Sg}  {K : kS} (F : FX ΦR σ.sh σ.r) (w : B_X23_into_0 Z d σ  (yN K fun τ1 => ((τ1.i 0 17) = 3 → B_X23_p_26 Z (d + 1) τ1 (τ1.i 0 18) K) ∧ (¬ (τ1.i 0 17) = 3 → B_X23_is_0 Z d τ1 45 (yI K fun v5 τ3 => (v5 = 0 → (¬ (τ3.i 0 17) = 2 → B_X23_skip_0 Z d τ3 (Rf.old 166) (yI K fun v8 τ6 => (v8 = 0 → B_X23_is_0 Z d τ6 35 (yI K fun v11 τ9 => (v11 = 0 → B_X23_want_0 Z d τ9 40 (yN K fun τ12 => B_X23_e_0 Z d τ12  (yW K fun v16 τ14 => B_X23_want_0 Z d τ14 41 (yN K fun τ17 => K (.inl (some (rv v16))) (τ17.wi 0 20 ((τ17.i 0 20) - (1 : Int32))))))) ∧ (¬ v11 = 0 → B_X23_counted_0 Z d τ9 (τ1.i 0 18) (yN K fun τ19 => B_X23_next_0 Z d τ19  (yN K fun τ21 => ∃ b23, (τ21.r 0 34) = Rf.ptr b23 ∧ (sh0R[b23]? = some (Sh.obj 22) ∧ (B_X21_get_0 Z d τ21 b23 16 (yW K fun v28 τ26 => B_X23_p_0 Z d τ26  (yW K fun v31 τ29 => ∃ b32, v28 = Rf.ptr b32 ∧ (τ29.sh[b32]? = some (Sh.obj 21) ∧ (K (.inl (some (.ref b32))) ((τ29.wr b32 5 v31).wi 0 20 ((τ29.i 0 20) - (1 : Int32)))))))))))))) ∧ (¬ v8 = 0 → B_X23_counted_0 Z d τ6 (τ1.i 0 18) (yN K fun τ36 => ∃ b38, (τ36.r 0 34) = Rf.ptr b38 ∧ (sh0R[b38]? = some (Sh.obj 22) ∧ (B_X21_get_0 Z d τ36 b38 15 (yW K fun v43 τ41 => (¬ (τ41.i 0 33) = (-1) → B_X23_p_112 Z (d + 1) τ41 v43 K) ∧ ((τ41.i 0 33) = (-1) → B_X23_breaks_0 Z d τ41 3 (τ1.i 0 18) (yN K fun τ44 => B_X23_p_112 Z (d + 1) τ44 v43 K))))))))) ∧ ((τ3.i 0 17) = 2 → B_X23_counted_0 Z d τ3 (τ1.i 0 18) (yN K fun τ46 => B_X23_named_0 Z d τ46 (τ1.i 0 18) (yW K fun v50 τ48 => K (.inl (some (rv v50))) (τ48.wi 0 20 ((τ48.i 0 20) - (1 : Int32))))))) ∧ (¬ v5 = 0 → B_X23_p_26 Z (d + 1) τ3 (τ1.i 0 18) K))))) : B_X23_p_0 Z (d + 1) σ  K := by
  unfold B_X23_p_0
  refine ab_fin.s2 (i := .aload_n 0) (k := 1) (pc' := 1) (lv' := [(0, .ref 0)]) (st' := [.ref 0]) (by decide +kernel) rfl rfl ?_
  refine ab_fin.q_yN (i := .invokevirtual 420) (k := 3) (y := 5911) (As := [.ref 0]) (rest := []) (M' := (mX23_into, [])) (lv2 := [(0, .ref 0)]) (pc' := 4) (X := K) (by decide +kernel) (ab_cv rfl rfl (conc_get (σ := σ) (F.s s0_0)) ⟨(Nat.le_of_ble_eq_true rfl), (Nat.le_of_ble_eq_true rfl)⟩ rfl) rfl (Nat.le_of_ble_eq_true rfl) rfl rfl (hY_no fun E => rfl) w (fun τ1 F2 w => ?_)
  refine ab_fin.s2 (i := .aload_n 0) (k := 1) (pc' := 5) (lv' := [(0, .ref 0)]) (st' := [.ref 0]) (by decide +kernel) rfl rfl ?_
  refine ab_fin.q_rI (x := (τ1.i 0 18)) (ix := 106) (ci := 24) (k := 18) (pc' := 8) (by decide +kernel) rfl (c_rI (F2.s s0_0) rfl) rfl ?_
  refine ab_fin.s2 (i := .istore_n 1) (k := 1) (pc' := 9) (lv' := [(1, .int (τ1.i 0 18)), (0, .ref 0)]) (st' := []) (by decide +kernel) rfl rfl ?_
  refine ab_fin.s2 (i := .aload_n 0) (k := 1) (pc' := 10) (lv' := [(1, .int (τ1.i 0 18)), (0, .ref 0)]) (st' := [.ref 0]) (by decide +kernel) rfl rfl ?_
  refine ab_fin.q_rI (x := (τ1.i 0 17)) (ix := 183) (ci := 24) (k := 17) (pc' := 13) (by decide +kernel) rfl (c_rI (F2.s s0_0) rfl) rfl ?_
  refine ab_fin.s1i (i := .iconst 3) (k := 1) (pc' := 14) (n := 3) (by decide +kernel) rfl (by decide +kernel) rfl ?_
  refine ab_fin.br (c := (τ1.i 0 17) = 3) (i := .if_icmp .eq 12) (off := 12) (t := 26) (pc' := 17) (r := []) (by decide +kernel) rfl (by decide +kernel) rfl (fun q => ?_) (fun q => ?_)
  · replace w := w.1 q
    exact ab_fin.lv ⟨(List.forall_mem_cons.mpr ⟨(List.Mem.tail _ (List.Mem.head _)), (List.forall_mem_cons.mpr ⟨(List.Mem.head _), (fun _ h => absurd h List.not_mem_nil)⟩)⟩), (show ([1, 0] : List Nat).Nodup from by decide)⟩ w
  · replace w := w.2 q
    refine ab_fin.s2 (i := .aload_n 0) (k := 1) (pc' := 18) (lv' := [(1, .int (τ1.i 0 18)), (0, .ref 0)]) (st' := [.ref 0]) (by decide +kernel) rfl rfl ?_
    refine ab_fin.s1i (i := .bipush 45) (k := 2) (pc' := 20) (n := 45) (by decide +kernel) rfl (by decide +kernel) rfl ?_
    refine ab_fin.q_yI (i := .invokevirtual 233) (k := 3) (y := 5904) (As := [.ref 0, .int 45]) (rest := []) (M' := (mX23_is, [])) (lv2 := [(0, .ref 0), (1, .int 45)]) (pc' := 23) (X := K) (by decide +kernel) (ab_cv rfl rfl (conc_get (σ := τ1) (F2.s s0_0)) ⟨(Nat.le_of_ble_eq_true rfl), (Nat.le_of_ble_eq_true rfl)⟩ rfl) rfl (Nat.le_of_ble_eq_true rfl) rfl rfl (hY_no fun E => rfl) w (fun v5 τ3 F4 w => ?_)
    refine ab_fin.br (c := v5 = 0) (i := .ifCond .eq 29) (off := 29) (t := 52) (pc' := 26) (r := []) (by decide +kernel) rfl (by decide +kernel) rfl (fun q => ?_) (fun q => ?_)
    · replace w := w.1 q
      refine ab_fin.s2 (i := .aload_n 0) (k := 1) (pc' := 53) (lv' := [(1, .int (τ1.i 0 18)), (0, .ref 0)]) (st' := [.ref 0]) (by decide +kernel) rfl rfl ?_
      refine ab_fin.q_rI (x := (τ3.i 0 17)) (ix := 183) (ci := 24) (k := 17) (pc' := 56) (by decide +kernel) rfl (c_rI (F4.s s0_0) rfl) rfl ?_
      refine ab_fin.s1i (i := .iconst 2) (k := 1) (pc' := 57) (n := 2) (by decide +kernel) rfl (by decide +kernel) rfl ?_
      refine ab_fin.br (c := ¬ (τ3.i 0 17) = 2) (i := .if_icmp .ne 17) (off := 17) (t := 74) (pc' := 60) (r := []) (by decide +kernel) rfl (by decide +kernel) rfl (fun q => ?_) (fun q => ?_)
      · replace w := w.1 q
        refine ab_fin.s2 (i := .aload_n 0) (k := 1) (pc' := 75) (lv' := [(1, .int (τ1.i 0 18)), (0, .ref 0)]) (st' := [.ref 0]) (by decide +kernel) rfl rfl ?_
        refine ab_fin.s8 (i := .ldc 159) (k := 2) (pc' := 77) (st' := [.retAddr 166, .ref 0]) (by decide +kernel) rfl rfl rfl rfl ?_
        refine ab_fin.q_yI (i := .invokevirtual 266) (k := 3) (y := 5908) (As := [.ref 0, .retAddr 166]) (rest := []) (M' := (mX23_skip, [])) (lv2 := [(0, .ref 0), (1, .retAddr 166)]) (pc' := 80) (X := K) (by decide +kernel) (ab_cv rfl rfl (conc_get (σ := τ3) (F4.s s0_0)) ⟨(Nat.le_of_ble_eq_true rfl), (Nat.le_of_ble_eq_true rfl)⟩ rfl) rfl (Nat.le_of_ble_eq_true rfl) rfl rfl (hY_no fun E => rfl) w (fun v8 τ6 F7 w => ?_)
        refine ab_fin.br (c := v8 = 0) (i := .ifCond .eq 72) (off := 72) (t := 152) (pc' := 83) (r := []) (by decide +kernel) rfl (by decide +kernel) rfl (fun q => ?_) (fun q => ?_)
        · replace w := w.1 q
          refine ab_fin.s2 (i := .aload_n 0) (k := 1) (pc' := 153) (lv' := [(1, .int (τ1.i 0 18)), (0, .ref 0)]) (st' := [.ref 0]) (by decide +kernel) rfl rfl ?_
          refine ab_fin.s1i (i := .bipush 35) (k := 2) (pc' := 155) (n := 35) (by decide +kernel) rfl (by decide +kernel) rfl ?_
          refine ab_fin.q_yI (i := .invokevirtual 233) (k := 3) (y := 5904) (As := [.ref 0, .int 35]) (rest := []) (M' := (mX23_is, [])) (lv2 := [(0, .ref 0), (1, .int 35)]) (pc' := 158) (X := K) (by decide +kernel) (ab_cv rfl rfl (conc_get (σ := τ6) (F7.s s0_0)) ⟨(Nat.le_of_ble_eq_true rfl), (Nat.le_of_ble_eq_true rfl)⟩ rfl) rfl (Nat.le_of_ble_eq_true rfl) rfl rfl (hY_no fun E => rfl) w (fun v11 τ9 F10 w => ?_)
          refine ab_fin.br (c := v11 = 0) (i := .ifCond .eq 33) (off := 33) (t := 191) (pc' := 161) (r := []) (by decide +kernel) rfl (by decide +kernel) rfl (fun q => ?_) (fun q => ?_)
          · replace w := w.1 q
            refine ab_fin.s2 (i := .aload_n 0) (k := 1) (pc' := 192) (lv' := [(1, .int (τ1.i 0 18)), (0, .ref 0)]) (st' := [.ref 0]) (by decide +kernel) rfl rfl ?_
            refine ab_fin.s1i (i := .bipush 40) (k := 2) (pc' := 194) (n := 40) (by decide +kernel) rfl (by decide +kernel) rfl ?_
            refine ab_fin.q_yN (i := .invokevirtual 293) (k := 3) (y := 5906) (As := [.ref 0, .int 40]) (rest := []) (M' := (mX23_want, [])) (lv2 := [(0, .ref 0), (1, .int 40)]) (pc' := 197) (X := K) (by decide +kernel) (ab_cv rfl rfl (conc_get (σ := τ9) (F10.s s0_0)) ⟨(Nat.le_of_ble_eq_true rfl), (Nat.le_of_ble_eq_true rfl)⟩ rfl) rfl (Nat.le_of_ble_eq_true rfl) rfl rfl (hY_no fun E => rfl) w (fun τ12 F13 w => ?_)
            refine ab_fin.s2 (i := .aload_n 0) (k := 1) (pc' := 198) (lv' := [(1, .int (τ1.i 0 18)), (0, .ref 0)]) (st' := [.ref 0]) (by decide +kernel) rfl rfl ?_
            refine ab_fin.q_yW (i := .invokevirtual 372) (k := 3) (y := 5930) (As := [.ref 0]) (rest := []) (M' := (mX23_e, [])) (lv2 := [(0, .ref 0)]) (pc' := 201) (X := K) (by decide +kernel) (ab_cv rfl rfl (conc_get (σ := τ12) (F13.s s0_0)) ⟨(Nat.le_of_ble_eq_true rfl), (Nat.le_of_ble_eq_true rfl)⟩ rfl) rfl (Nat.le_of_ble_eq_true rfl) rfl rfl (hY_no fun E => rfl) w (fun v16 τ14 F15 w => ?_)
            refine ab_fin.q_stA (i := .astore_n 2) (n := 2) (k := 1) (pc' := 202) (lv' := [(2, rv v16), (1, .int (τ1.i 0 18)), (0, .ref 0)]) (Or.inl ⟨_, rfl, rfl, rfl⟩) (by decide +kernel) (by decide) (oR_rv _) rfl rfl ?_
            refine ab_fin.s2 (i := .aload_n 0) (k := 1) (pc' := 203) (lv' := [(2, rv v16), (1, .int (τ1.i 0 18)), (0, .ref 0)]) (st' := [.ref 0]) (by decide +kernel) rfl rfl ?_
            refine ab_fin.s1i (i := .bipush 41) (k := 2) (pc' := 205) (n := 41) (by decide +kernel) rfl (by decide +kernel) rfl ?_
            refine ab_fin.q_yN (i := .invokevirtual 293) (k := 3) (y := 5906) (As := [.ref 0, .int 41]) (rest := []) (M' := (mX23_want, [])) (lv2 := [(0, .ref 0), (1, .int 41)]) (pc' := 208) (X := K) (by decide +kernel) (ab_cv rfl rfl (conc_get (σ := τ14) (F15.s s0_0)) ⟨(Nat.le_of_ble_eq_true rfl), (Nat.le_of_ble_eq_true rfl)⟩ rfl) rfl (Nat.le_of_ble_eq_true rfl) rfl rfl (hY_no fun E => rfl) w (fun τ17 F18 w => ?_)
            refine ab_fin.s2 (i := .aload_n 0) (k := 1) (pc' := 209) (lv' := [(2, rv v16), (1, .int (τ1.i 0 18)), (0, .ref 0)]) (st' := [.ref 0]) (by decide +kernel) rfl rfl ?_
            refine ab_fin.s1 (i := .dup) (k := 1) (pc' := 210) (st' := [.ref 0, .ref 0]) (by decide +kernel) rfl rfl ?_
            refine ab_fin.q_rI (x := (τ17.i 0 20)) (ix := 253) (ci := 24) (k := 20) (pc' := 213) (by decide +kernel) rfl (c_rI (F18.s s0_0) rfl) rfl ?_
            refine ab_fin.s1i (i := .iconst 1) (k := 1) (pc' := 214) (n := 1) (by decide +kernel) rfl (by decide +kernel) rfl ?_
            refine ab_fin.s1 (i := .isub) (k := 1) (pc' := 215) (st' := [.int ((τ17.i 0 20) - (1 : Int32)), .ref 0]) (by decide +kernel) rfl rfl ?_
            refine ab_fin.q_pF (ix := 253) (ci := 24) (k := 20) (h1 := conc (τ17.wi 0 20 ((τ17.i 0 20) - (1 : Int32)))) (pc' := 218) (by decide +kernel) rfl (c_pI (v := ((τ17.i 0 20) - (1 : Int32))) (F18.s s0_0) rfl) rfl rfl rfl ?_
            refine ab_fin.ald (i := .aload_n 2) (n := 2) (k := 1) (pc' := 219) (Or.inl ⟨_, rfl, rfl, rfl⟩) (by decide +kernel) rfl (oR_rv _) rfl ?_
            exact ab_fin.q_ret (i := .areturn) (k := 1) (v := some (rv v16)) (by decide +kernel) (ret_A (oR_rv _)) F18 w
          · replace w := w.2 q
            refine ab_fin.s2 (i := .aload_n 0) (k := 1) (pc' := 162) (lv' := [(1, .int (τ1.i 0 18)), (0, .ref 0)]) (st' := [.ref 0]) (by decide +kernel) rfl rfl ?_
            refine ab_fin.s2 (i := .iload_n 1) (k := 1) (pc' := 163) (lv' := [(1, .int (τ1.i 0 18)), (0, .ref 0)]) (st' := [.int (τ1.i 0 18), .ref 0]) (by decide +kernel) rfl rfl ?_
            refine ab_fin.q_yN (i := .invokevirtual 453) (k := 3) (y := 5912) (As := [.ref 0, .int (τ1.i 0 18)]) (rest := []) (M' := (mX23_counted, [])) (lv2 := [(0, .ref 0), (1, .int (τ1.i 0 18))]) (pc' := 166) (X := K) (by decide +kernel) (ab_cv rfl rfl (conc_get (σ := τ9) (F10.s s0_0)) ⟨(Nat.le_of_ble_eq_true rfl), (Nat.le_of_ble_eq_true rfl)⟩ rfl) rfl (Nat.le_of_ble_eq_true rfl) rfl rfl (hY_no fun E => rfl) w (fun τ19 F20 w => ?_)
            refine ab_fin.s2 (i := .aload_n 0) (k := 1) (pc' := 167) (lv' := [(1, .int (τ1.i 0 18)), (0, .ref 0)]) (st' := [.ref 0]) (by decide +kernel) rfl rfl ?_
            refine ab_fin.q_yN (i := .invokevirtual 239) (k := 3) (y := 5902) (As := [.ref 0]) (rest := []) (M' := (mX23_next, [])) (lv2 := [(0, .ref 0)]) (pc' := 170) (X := K) (by decide +kernel) (ab_cv rfl rfl (conc_get (σ := τ19) (F20.s s0_0)) ⟨(Nat.le_of_ble_eq_true rfl), (Nat.le_of_ble_eq_true rfl)⟩ rfl) rfl (Nat.le_of_ble_eq_true rfl) rfl rfl (hY_no fun E => rfl) w (fun τ21 F22 w => ?_)
            refine ab_fin.s2 (i := .aload_n 0) (k := 1) (pc' := 171) (lv' := [(1, .int (τ1.i 0 18)), (0, .ref 0)]) (st' := [.ref 0]) (by decide +kernel) rfl rfl ?_
            obtain ⟨b23, e24, w⟩ := w
            refine ab_fin.q_rA (b := b23) (ix := 353) (ci := 24) (k := 34) (pc' := 174) (by decide +kernel) rfl (c_rA (F22.s s0_0) rfl e24) rfl ?_
            refine ab_fin.s1i (i := .bipush 16) (k := 2) (pc' := 176) (n := 16) (by decide +kernel) rfl (by decide +kernel) rfl ?_
            obtain ⟨e25, w⟩ := w
            refine ab_fin.q_yW (i := .invokevirtual 403) (k := 3) (y := 5377) (As := [.ref b23, .int 16]) (rest := []) (M' := (mX21_get, [])) (lv2 := [(0, .ref b23), (1, .int 16)]) (pc' := 179) (X := K) (by decide +kernel) (ab_cv rfl rfl (conc_get (σ := τ21) (F22.s e25)) ⟨(Nat.le_of_ble_eq_true rfl), (Nat.le_of_ble_eq_true rfl)⟩ rfl) rfl (Nat.le_of_ble_eq_true rfl) rfl rfl (hY_no fun E => rfl) w (fun v28 τ26 F27 w => ?_)
            refine ab_fin.q_stA (i := .astore_n 2) (n := 2) (k := 1) (pc' := 180) (lv' := [(2, rv v28), (1, .int (τ1.i 0 18)), (0, .ref 0)]) (Or.inl ⟨_, rfl, rfl, rfl⟩) (by decide +kernel) (by decide) (oR_rv _) rfl rfl ?_
            refine ab_fin.ald (i := .aload_n 2) (n := 2) (k := 1) (pc' := 181) (Or.inl ⟨_, rfl, rfl, rfl⟩) (by decide +kernel) rfl (oR_rv _) rfl ?_
            refine ab_fin.s2 (i := .aload_n 0) (k := 1) (pc' := 182) (lv' := [(2, rv v28), (1, .int (τ1.i 0 18)), (0, .ref 0)]) (st' := [.ref 0, rv v28]) (by decide +kernel) rfl rfl ?_
            refine ab_fin.q_yW (i := .invokevirtual 473) (k := 3) (y := 5934) (As := [.ref 0]) (rest := [rv v28]) (M' := (mX23_p, [])) (lv2 := [(0, .ref 0)]) (pc' := 185) (X := K) (by decide +kernel) (ab_cv rfl rfl (conc_get (σ := τ26) (F27.s s0_0)) ⟨(Nat.le_of_ble_eq_true rfl), (by simp only [ab_cat, List.map_cons, List.map_nil, cI, cL, cR1, cN1, cX1, cA (oR_rv _)]; exact Nat.le_of_ble_eq_true rfl)⟩ rfl) rfl (Nat.le_of_ble_eq_true rfl) rfl rfl (hY_no fun E => rfl) w (fun v31 τ29 F30 w => ?_)
            obtain ⟨b32, e33, w⟩ := w
            rw [show rv v28 = .ref b32 from by rw [e33]; rfl]
            obtain ⟨e34, w⟩ := w
            have F35 := FX.w (Φ := ΦR) (a := b32) (k := 5) (v := v31) F30 (cD F30 e34 rfl)
            refine ab_fin.q_pF (ix := 409) (ci := 21) (k := 5) (h1 := conc (τ29.wr b32 5 v31)) (pc' := 188) (by decide +kernel) rfl (c_pR (v := v31) e34 rfl) nRv_n nRv_f rfl ?_
            refine ab_fin.s3 (i := .goto 20) (k := 3) (t := 208) (st' := []) (by decide +kernel) (ab_gto (by decide +kernel)) ?_
            refine ab_fin.s2 (i := .aload_n 0) (k := 1) (pc' := 209) (lv' := [(2, .ref b32), (1, .int (τ1.i 0 18)), (0, .ref 0)]) (st' := [.ref 0]) (by decide +kernel) rfl rfl ?_
            refine ab_fin.s1 (i := .dup) (k := 1) (pc' := 210) (st' := [.ref 0, .ref 0]) (by decide +kernel) rfl rfl ?_
            refine ab_fin.q_rI (x := (τ29.i 0 20)) (ix := 253) (ci := 24) (k := 20) (pc' := 213) (by decide +kernel) rfl (c_rI (F35.s s0_0) rfl) rfl ?_
            refine ab_fin.s1i (i := .iconst 1) (k := 1) (pc' := 214) (n := 1) (by decide +kernel) rfl (by decide +kernel) rfl ?_
            refine ab_fin.s1 (i := .isub) (k := 1) (pc' := 215) (st' := [.int ((τ29.i 0 20) - (1 : Int32)), .ref 0]) (by decide +kernel) rfl rfl ?_
            refine ab_fin.q_pF (ix := 253) (ci := 24) (k := 20) (h1 := conc ((τ29.wr b32 5 v31).wi 0 20 ((τ29.i 0 20) - (1 : Int32)))) (pc' := 218) (by decide +kernel) rfl (c_pI (v := ((τ29.i 0 20) - (1 : Int32))) (F35.s s0_0) rfl) rfl rfl rfl ?_
            refine ab_fin.s2 (i := .aload_n 2) (k := 1) (pc' := 219) (lv' := [(2, .ref b32), (1, .int (τ1.i 0 18)), (0, .ref 0)]) (st' := [.ref b32]) (by decide +kernel) rfl rfl ?_
            exact ab_fin.q_ret (i := .areturn) (k := 1) (v := some (.ref b32)) (by decide +kernel) rfl F35 w
        · replace w := w.2 q
          refine ab_fin.s2 (i := .aload_n 0) (k := 1) (pc' := 84) (lv' := [(1, .int (τ1.i 0 18)), (0, .ref 0)]) (st' := [.ref 0]) (by decide +kernel) rfl rfl ?_
          refine ab_fin.s2 (i := .iload_n 1) (k := 1) (pc' := 85) (lv' := [(1, .int (τ1.i 0 18)), (0, .ref 0)]) (st' := [.int (τ1.i 0 18), .ref 0]) (by decide +kernel) rfl rfl ?_
          refine ab_fin.q_yN (i := .invokevirtual 453) (k := 3) (y := 5912) (As := [.ref 0, .int (τ1.i 0 18)]) (rest := []) (M' := (mX23_counted, [])) (lv2 := [(0, .ref 0), (1, .int (τ1.i 0 18))]) (pc' := 88) (X := K) (by decide +kernel) (ab_cv rfl rfl (conc_get (σ := τ6) (F7.s s0_0)) ⟨(Nat.le_of_ble_eq_true rfl), (Nat.le_of_ble_eq_true rfl)⟩ rfl) rfl (Nat.le_of_ble_eq_true rfl) rfl rfl (hY_no fun E => rfl) w (fun τ36 F37 w => ?_)
          refine ab_fin.s2 (i := .aload_n 0) (k := 1) (pc' := 89) (lv' := [(1, .int (τ1.i 0 18)), (0, .ref 0)]) (st' := [.ref 0]) (by decide +kernel) rfl rfl ?_
          obtain ⟨b38, e39, w⟩ := w
          refine ab_fin.q_rA (b := b38) (ix := 353) (ci := 24) (k := 34) (pc' := 92) (by decide +kernel) rfl (c_rA (F37.s s0_0) rfl e39) rfl ?_
          refine ab_fin.s1i (i := .bipush 15) (k := 2) (pc' := 94) (n := 15) (by decide +kernel) rfl (by decide +kernel) rfl ?_
          obtain ⟨e40, w⟩ := w
          refine ab_fin.q_yW (i := .invokevirtual 403) (k := 3) (y := 5377) (As := [.ref b38, .int 15]) (rest := []) (M' := (mX21_get, [])) (lv2 := [(0, .ref b38), (1, .int 15)]) (pc' := 97) (X := K) (by decide +kernel) (ab_cv rfl rfl (conc_get (σ := τ36) (F37.s e40)) ⟨(Nat.le_of_ble_eq_true rfl), (Nat.le_of_ble_eq_true rfl)⟩ rfl) rfl (Nat.le_of_ble_eq_true rfl) rfl rfl (hY_no fun E => rfl) w (fun v43 τ41 F42 w => ?_)
          refine ab_fin.q_stA (i := .astore_n 2) (n := 2) (k := 1) (pc' := 98) (lv' := [(2, rv v43), (1, .int (τ1.i 0 18)), (0, .ref 0)]) (Or.inl ⟨_, rfl, rfl, rfl⟩) (by decide +kernel) (by decide) (oR_rv _) rfl rfl ?_
          refine ab_fin.s2 (i := .aload_n 0) (k := 1) (pc' := 99) (lv' := [(2, rv v43), (1, .int (τ1.i 0 18)), (0, .ref 0)]) (st' := [.ref 0]) (by decide +kernel) rfl rfl ?_
          refine ab_fin.q_rI (x := (τ41.i 0 33)) (ix := 369) (ci := 24) (k := 33) (pc' := 102) (by decide +kernel) rfl (c_rI (F42.s s0_0) rfl) rfl ?_
          refine ab_fin.s1i (i := .iconst (-1)) (k := 1) (pc' := 103) (n := (-1)) (by decide +kernel) rfl (by decide +kernel) rfl ?_
          refine ab_fin.br (c := ¬ (τ41.i 0 33) = (-1)) (i := .if_icmp .ne 9) (off := 9) (t := 112) (pc' := 106) (r := []) (by decide +kernel) rfl (by decide +kernel) rfl (fun q => ?_) (fun q => ?_)
          · replace w := w.1 q
            exact ab_fin.lv ⟨(List.forall_mem_cons.mpr ⟨(List.Mem.tail _ (List.Mem.tail _ (List.Mem.head _))), (List.forall_mem_cons.mpr ⟨(List.Mem.head _), (fun _ h => absurd h List.not_mem_nil)⟩)⟩), (show ([2, 1, 0] : List Nat).Nodup from by decide)⟩ w
          · replace w := w.2 (Decidable.of_not_not q)
            refine ab_fin.s2 (i := .aload_n 0) (k := 1) (pc' := 107) (lv' := [(2, rv v43), (1, .int (τ1.i 0 18)), (0, .ref 0)]) (st' := [.ref 0]) (by decide +kernel) rfl rfl ?_
            refine ab_fin.s1i (i := .iconst 3) (k := 1) (pc' := 108) (n := 3) (by decide +kernel) rfl (by decide +kernel) rfl ?_
            refine ab_fin.s2 (i := .iload_n 1) (k := 1) (pc' := 109) (lv' := [(2, rv v43), (1, .int (τ1.i 0 18)), (0, .ref 0)]) (st' := [.int (τ1.i 0 18), .int 3, .ref 0]) (by decide +kernel) rfl rfl ?_
            refine ab_fin.q_yN (i := .invokevirtual 259) (k := 3) (y := 5910) (As := [.ref 0, .int 3, .int (τ1.i 0 18)]) (rest := []) (M' := (mX23_breaks, [])) (lv2 := [(0, .ref 0), (1, .int 3), (2, .int (τ1.i 0 18))]) (pc' := 112) (X := K) (by decide +kernel) (ab_cv rfl rfl (conc_get (σ := τ41) (F42.s s0_0)) ⟨(Nat.le_of_ble_eq_true rfl), (Nat.le_of_ble_eq_true rfl)⟩ rfl) rfl (Nat.le_of_ble_eq_true rfl) rfl rfl (hY_no fun E => rfl) w (fun τ44 F45 w => ?_)
            exact ab_fin.lv ⟨(List.forall_mem_cons.mpr ⟨(List.Mem.tail _ (List.Mem.tail _ (List.Mem.head _))), (List.forall_mem_cons.mpr ⟨(List.Mem.head _), (fun _ h => absurd h List.not_mem_nil)⟩)⟩), (show ([2, 1, 0] : List Nat).Nodup from by decide)⟩ w
      · replace w := w.2 (Decidable.of_not_not q)
        refine ab_fin.s2 (i := .aload_n 0) (k := 1) (pc' := 61) (lv' := [(1, .int (τ1.i 0 18)), (0, .ref 0)]) (st' := [.ref 0]) (by decide +kernel) rfl rfl ?_
        refine ab_fin.s2 (i := .iload_n 1) (k := 1) (pc' := 62) (lv' := [(1, .int (τ1.i 0 18)), (0, .ref 0)]) (st' := [.int (τ1.i 0 18), .ref 0]) (by decide +kernel) rfl rfl ?_
        refine ab_fin.q_yN (i := .invokevirtual 453) (k := 3) (y := 5912) (As := [.ref 0, .int (τ1.i 0 18)]) (rest := []) (M' := (mX23_counted, [])) (lv2 := [(0, .ref 0), (1, .int (τ1.i 0 18))]) (pc' := 65) (X := K) (by decide +kernel) (ab_cv rfl rfl (conc_get (σ := τ3) (F4.s s0_0)) ⟨(Nat.le_of_ble_eq_true rfl), (Nat.le_of_ble_eq_true rfl)⟩ rfl) rfl (Nat.le_of_ble_eq_true rfl) rfl rfl (hY_no fun E => rfl) w (fun τ46 F47 w => ?_)
        refine ab_fin.s2 (i := .aload_n 0) (k := 1) (pc' := 66) (lv' := [(1, .int (τ1.i 0 18)), (0, .ref 0)]) (st' := [.ref 0]) (by decide +kernel) rfl rfl ?_
        refine ab_fin.s2 (i := .iload_n 1) (k := 1) (pc' := 67) (lv' := [(1, .int (τ1.i 0 18)), (0, .ref 0)]) (st' := [.int (τ1.i 0 18), .ref 0]) (by decide +kernel) rfl rfl ?_
        refine ab_fin.q_yW (i := .invokevirtual 480) (k := 3) (y := 5935) (As := [.ref 0, .int (τ1.i 0 18)]) (rest := []) (M' := (mX23_named, [])) (lv2 := [(0, .ref 0), (1, .int (τ1.i 0 18))]) (pc' := 70) (X := K) (by decide +kernel) (ab_cv rfl rfl (conc_get (σ := τ46) (F47.s s0_0)) ⟨(Nat.le_of_ble_eq_true rfl), (Nat.le_of_ble_eq_true rfl)⟩ rfl) rfl (Nat.le_of_ble_eq_true rfl) rfl rfl (hY_no fun E => rfl) w (fun v50 τ48 F49 w => ?_)
        refine ab_fin.q_stA (i := .astore_n 2) (n := 2) (k := 1) (pc' := 71) (lv' := [(2, rv v50), (1, .int (τ1.i 0 18)), (0, .ref 0)]) (Or.inl ⟨_, rfl, rfl, rfl⟩) (by decide +kernel) (by decide) (oR_rv _) rfl rfl ?_
        refine ab_fin.s3 (i := .goto 137) (k := 3) (t := 208) (st' := []) (by decide +kernel) (ab_gto (by decide +kernel)) ?_
        refine ab_fin.s2 (i := .aload_n 0) (k := 1) (pc' := 209) (lv' := [(2, rv v50), (1, .int (τ1.i 0 18)), (0, .ref 0)]) (st' := [.ref 0]) (by decide +kernel) rfl rfl ?_
        refine ab_fin.s1 (i := .dup) (k := 1) (pc' := 210) (st' := [.ref 0, .ref 0]) (by decide +kernel) rfl rfl ?_
        refine ab_fin.q_rI (x := (τ48.i 0 20)) (ix := 253) (ci := 24) (k := 20) (pc' := 213) (by decide +kernel) rfl (c_rI (F49.s s0_0) rfl) rfl ?_
        refine ab_fin.s1i (i := .iconst 1) (k := 1) (pc' := 214) (n := 1) (by decide +kernel) rfl (by decide +kernel) rfl ?_
        refine ab_fin.s1 (i := .isub) (k := 1) (pc' := 215) (st' := [.int ((τ48.i 0 20) - (1 : Int32)), .ref 0]) (by decide +kernel) rfl rfl ?_
        refine ab_fin.q_pF (ix := 253) (ci := 24) (k := 20) (h1 := conc (τ48.wi 0 20 ((τ48.i 0 20) - (1 : Int32)))) (pc' := 218) (by decide +kernel) rfl (c_pI (v := ((τ48.i 0 20) - (1 : Int32))) (F49.s s0_0) rfl) rfl rfl rfl ?_
        refine ab_fin.ald (i := .aload_n 2) (n := 2) (k := 1) (pc' := 219) (Or.inl ⟨_, rfl, rfl, rfl⟩) (by decide +kernel) rfl (oR_rv _) rfl ?_
        exact ab_fin.q_ret (i := .areturn) (k := 1) (v := some (rv v50)) (by decide +kernel) (ret_A (oR_rv _)) F49 w
    · replace w := w.2 q
      exact ab_fin.lv ⟨(List.forall_mem_cons.mpr ⟨(List.Mem.tail _ (List.Mem.head _)), (List.forall_mem_cons.mpr ⟨(List.Mem.head _), (fun _ h => absurd h List.not_mem_nil)⟩)⟩), (show ([1, 0] : List Nat).Nodup from by decide)⟩ w
theorem S_X23_p_26 {Z : zT} {d : Nat} {σ : Sg} {l1 : Int32} {K : kS} (F : FX ΦR σ.sh σ.r) (w : B_X23_counted_0 Z d σ l1 (yN K fun τ1 => ∃ b3, (τ1.r 0 34) = Rf.ptr b3 ∧ (sh0R[b3]? = some (Sh.obj 22) ∧ (B_X21_get_0 Z d τ1 b3 11 (yW K fun v8 τ6 => B_X23_signed_0 Z d τ6  (yI K fun v11 τ9 => ∃ b12, v8 = Rf.ptr b12 ∧ (τ9.sh[b12]? = some (Sh.obj 21) ∧ (K (.inl (some (.ref b12))) ((τ9.wi b12 1 v11).wi 0 20 (((τ9.wi b12 1 v11).i 0 20) - (1 : Int32))))))))))) : B_X23_p_26 Z (d + 1) σ l1 K := by
  unfold B_X23_p_26
  refine ab_fin.s2 (i := .aload_n 0) (k := 1) (pc' := 27) (lv' := [(0, .ref 0), (1, .int l1)]) (st' := [.ref 0]) (by decide +kernel) rfl rfl ?_
  refine ab_fin.s2 (i := .iload_n 1) (k := 1) (pc' := 28) (lv' := [(0, .ref 0), (1, .int l1)]) (st' := [.int l1, .ref 0]) (by decide +kernel) rfl rfl ?_
  refine ab_fin.q_yN (i := .invokevirtual 453) (k := 3) (y := 5912) (As := [.ref 0, .int l1]) (rest := []) (M' := (mX23_counted, [])) (lv2 := [(0, .ref 0), (1, .int l1)]) (pc' := 31) (X := K) (by decide +kernel) (ab_cv rfl rfl (conc_get (σ := σ) (F.s s0_0)) ⟨(Nat.le_of_ble_eq_true rfl), (Nat.le_of_ble_eq_true rfl)⟩ rfl) rfl (Nat.le_of_ble_eq_true rfl) rfl rfl (hY_no fun E => rfl) w (fun τ1 F2 w => ?_)
  refine ab_fin.s2 (i := .aload_n 0) (k := 1) (pc' := 32) (lv' := [(0, .ref 0), (1, .int l1)]) (st' := [.ref 0]) (by decide +kernel) rfl rfl ?_
  obtain ⟨b3, e4, w⟩ := w
  refine ab_fin.q_rA (b := b3) (ix := 353) (ci := 24) (k := 34) (pc' := 35) (by decide +kernel) rfl (c_rA (F2.s s0_0) rfl e4) rfl ?_
  refine ab_fin.s1i (i := .bipush 11) (k := 2) (pc' := 37) (n := 11) (by decide +kernel) rfl (by decide +kernel) rfl ?_
  obtain ⟨e5, w⟩ := w
  refine ab_fin.q_yW (i := .invokevirtual 403) (k := 3) (y := 5377) (As := [.ref b3, .int 11]) (rest := []) (M' := (mX21_get, [])) (lv2 := [(0, .ref b3), (1, .int 11)]) (pc' := 40) (X := K) (by decide +kernel) (ab_cv rfl rfl (conc_get (σ := τ1) (F2.s e5)) ⟨(Nat.le_of_ble_eq_true rfl), (Nat.le_of_ble_eq_true rfl)⟩ rfl) rfl (Nat.le_of_ble_eq_true rfl) rfl rfl (hY_no fun E => rfl) w (fun v8 τ6 F7 w => ?_)
  refine ab_fin.q_stA (i := .astore_n 2) (n := 2) (k := 1) (pc' := 41) (lv' := [(2, rv v8), (0, .ref 0), (1, .int l1)]) (Or.inl ⟨_, rfl, rfl, rfl⟩) (by decide +kernel) (by decide) (oR_rv _) rfl rfl ?_
  refine ab_fin.ald (i := .aload_n 2) (n := 2) (k := 1) (pc' := 42) (Or.inl ⟨_, rfl, rfl, rfl⟩) (by decide +kernel) rfl (oR_rv _) rfl ?_
  refine ab_fin.s2 (i := .aload_n 0) (k := 1) (pc' := 43) (lv' := [(2, rv v8), (0, .ref 0), (1, .int l1)]) (st' := [.ref 0, rv v8]) (by decide +kernel) rfl rfl ?_
  refine ab_fin.q_yI (i := .invokevirtual 388) (k := 3) (y := 5920) (As := [.ref 0]) (rest := [rv v8]) (M' := (mX23_signed, [])) (lv2 := [(0, .ref 0)]) (pc' := 46) (X := K) (by decide +kernel) (ab_cv rfl rfl (conc_get (σ := τ6) (F7.s s0_0)) ⟨(Nat.le_of_ble_eq_true rfl), (by simp only [ab_cat, List.map_cons, List.map_nil, cI, cL, cR1, cN1, cX1, cA (oR_rv _)]; exact Nat.le_of_ble_eq_true rfl)⟩ rfl) rfl (Nat.le_of_ble_eq_true rfl) rfl rfl (hY_no fun E => rfl) w (fun v11 τ9 F10 w => ?_)
  obtain ⟨b12, e13, w⟩ := w
  rw [show rv v8 = .ref b12 from by rw [e13]; rfl]
  obtain ⟨e14, w⟩ := w
  refine ab_fin.q_pF (ix := 438) (ci := 21) (k := 1) (h1 := conc (τ9.wi b12 1 v11)) (pc' := 49) (by decide +kernel) rfl (c_pI (v := v11) e14 rfl) rfl rfl rfl ?_
  refine ab_fin.s3 (i := .goto 159) (k := 3) (t := 208) (st' := []) (by decide +kernel) (ab_gto (by decide +kernel)) ?_
  refine ab_fin.s2 (i := .aload_n 0) (k := 1) (pc' := 209) (lv' := [(2, .ref b12), (0, .ref 0), (1, .int l1)]) (st' := [.ref 0]) (by decide +kernel) rfl rfl ?_
  refine ab_fin.s1 (i := .dup) (k := 1) (pc' := 210) (st' := [.ref 0, .ref 0]) (by decide +kernel) rfl rfl ?_
  refine ab_fin.q_rI (x := ((τ9.wi b12 1 v11).i 0 20)) (ix := 253) (ci := 24) (k := 20) (pc' := 213) (by decide +kernel) rfl (c_rI (F10.s s0_0) rfl) rfl ?_
  refine ab_fin.s1i (i := .iconst 1) (k := 1) (pc' := 214) (n := 1) (by decide +kernel) rfl (by decide +kernel) rfl ?_
  refine ab_fin.s1 (i := .isub) (k := 1) (pc' := 215) (st' := [.int (((τ9.wi b12 1 v11).i 0 20) - (1 : Int32)), .ref 0]) (by decide +kernel) rfl rfl ?_
  refine ab_fin.q_pF (ix := 253) (ci := 24) (k := 20) (h1 := conc ((τ9.wi b12 1 v11).wi 0 20 (((τ9.wi b12 1 v11).i 0 20) - (1 : Int32)))) (pc' := 218) (by decide +kernel) rfl (c_pI (v := (((τ9.wi b12 1 v11).i 0 20) - (1 : Int32))) (F10.s s0_0) rfl) rfl rfl rfl ?_
  refine ab_fin.s2 (i := .aload_n 2) (k := 1) (pc' := 219) (lv' := [(2, .ref b12), (0, .ref 0), (1, .int l1)]) (st' := [.ref b12]) (by decide +kernel) rfl rfl ?_
  exact ab_fin.q_ret (i := .areturn) (k := 1) (v := some (.ref b12)) (by decide +kernel) rfl F10 w
theorem S_X23_p_112 {Z : zT} {d : Nat} {σ : Sg} {l2 : Rf} {K : kS} (F : FX ΦR σ.sh σ.r) (w : B_X23_is_0 Z d σ 40 (yI K fun v3 τ1 => (v3 = 0 → K (.inl (some (rv l2))) (τ1.wi 0 20 ((τ1.i 0 20) - (1 : Int32)))) ∧ (¬ v3 = 0 → ((τ1.i 0 33) < 0 → B_X23_arguments_0 Z d τ1 l2 0 (yN K fun τ4 => K (.inl (some (rv l2))) (τ4.wi 0 20 ((τ4.i 0 20) - (1 : Int32))))) ∧ (¬ (τ1.i 0 33) < 0 → ib (τ1.i 0 33) 24 ∧ (B_X23_arguments_0 Z d τ1 l2 (τ1.i (2409 + 3 * ((τ1.i 0 33).toNatClampNeg)) 1) (yN K fun τ7 => K (.inl (some (rv l2))) (τ7.wi 0 20 ((τ7.i 0 20) - (1 : Int32))))))))) : B_X23_p_112 Z (d + 1) σ l2 K := by
  unfold B_X23_p_112
  refine ab_fin.s2 (i := .aload_n 0) (k := 1) (pc' := 113) (lv' := [(0, .ref 0), (2, rv l2)]) (st' := [.ref 0]) (by decide +kernel) rfl rfl ?_
  refine ab_fin.s1i (i := .bipush 40) (k := 2) (pc' := 115) (n := 40) (by decide +kernel) rfl (by decide +kernel) rfl ?_
  refine ab_fin.q_yI (i := .invokevirtual 233) (k := 3) (y := 5904) (As := [.ref 0, .int 40]) (rest := []) (M' := (mX23_is, [])) (lv2 := [(0, .ref 0), (1, .int 40)]) (pc' := 118) (X := K) (by decide +kernel) (ab_cv rfl rfl (conc_get (σ := σ) (F.s s0_0)) ⟨(Nat.le_of_ble_eq_true rfl), (Nat.le_of_ble_eq_true rfl)⟩ rfl) rfl (Nat.le_of_ble_eq_true rfl) rfl rfl (hY_no fun E => rfl) w (fun v3 τ1 F2 w => ?_)
  refine ab_fin.br (c := v3 = 0) (i := .ifCond .eq 90) (off := 90) (t := 208) (pc' := 121) (r := []) (by decide +kernel) rfl (by decide +kernel) rfl (fun q => ?_) (fun q => ?_)
  · replace w := w.1 q
    refine ab_fin.s2 (i := .aload_n 0) (k := 1) (pc' := 209) (lv' := [(0, .ref 0), (2, rv l2)]) (st' := [.ref 0]) (by decide +kernel) rfl rfl ?_
    refine ab_fin.s1 (i := .dup) (k := 1) (pc' := 210) (st' := [.ref 0, .ref 0]) (by decide +kernel) rfl rfl ?_
    refine ab_fin.q_rI (x := (τ1.i 0 20)) (ix := 253) (ci := 24) (k := 20) (pc' := 213) (by decide +kernel) rfl (c_rI (F2.s s0_0) rfl) rfl ?_
    refine ab_fin.s1i (i := .iconst 1) (k := 1) (pc' := 214) (n := 1) (by decide +kernel) rfl (by decide +kernel) rfl ?_
    refine ab_fin.s1 (i := .isub) (k := 1) (pc' := 215) (st' := [.int ((τ1.i 0 20) - (1 : Int32)), .ref 0]) (by decide +kernel) rfl rfl ?_
    refine ab_fin.q_pF (ix := 253) (ci := 24) (k := 20) (h1 := conc (τ1.wi 0 20 ((τ1.i 0 20) - (1 : Int32)))) (pc' := 218) (by decide +kernel) rfl (c_pI (v := ((τ1.i 0 20) - (1 : Int32))) (F2.s s0_0) rfl) rfl rfl rfl ?_
    refine ab_fin.ald (i := .aload_n 2) (n := 2) (k := 1) (pc' := 219) (Or.inl ⟨_, rfl, rfl, rfl⟩) (by decide +kernel) rfl (oR_rv _) rfl ?_
    exact ab_fin.q_ret (i := .areturn) (k := 1) (v := some (rv l2)) (by decide +kernel) (ret_A (oR_rv _)) F2 w
  · replace w := w.2 q
    refine ab_fin.s2 (i := .aload_n 0) (k := 1) (pc' := 122) (lv' := [(0, .ref 0), (2, rv l2)]) (st' := [.ref 0]) (by decide +kernel) rfl rfl ?_
    refine ab_fin.ald (i := .aload_n 2) (n := 2) (k := 1) (pc' := 123) (Or.inl ⟨_, rfl, rfl, rfl⟩) (by decide +kernel) rfl (oR_rv _) rfl ?_
    refine ab_fin.s2 (i := .aload_n 0) (k := 1) (pc' := 124) (lv' := [(0, .ref 0), (2, rv l2)]) (st' := [.ref 0, rv l2, .ref 0]) (by decide +kernel) rfl rfl ?_
    refine ab_fin.q_rI (x := (τ1.i 0 33)) (ix := 369) (ci := 24) (k := 33) (pc' := 127) (by decide +kernel) rfl (c_rI (F2.s s0_0) rfl) rfl ?_
    refine ab_fin.br (c := (τ1.i 0 33) < 0) (i := .ifCond .lt 18) (off := 18) (t := 145) (pc' := 130) (r := [rv l2, .ref 0]) (by decide +kernel) rfl (by decide +kernel) rfl (fun q => ?_) (fun q => ?_)
    · replace w := w.1 q
      refine ab_fin.s1i (i := .iconst 0) (k := 1) (pc' := 146) (n := 0) (by decide +kernel) rfl (by decide +kernel) rfl ?_
      refine ab_fin.q_yN (i := .invokevirtual 483) (k := 3) (y := 5936) (As := [.ref 0, rv l2, .int 0]) (rest := []) (M' := (mX23_arguments, [])) (lv2 := [(0, .ref 0), (1, rv l2), (2, .int 0)]) (pc' := 149) (X := K) (by decide +kernel) (ab_cv rfl rfl (conc_get (σ := τ1) (F2.s s0_0)) ⟨(Nat.le_of_ble_eq_true rfl), (Nat.le_of_ble_eq_true rfl)⟩ rfl) rfl (by rw [lg_cnt]; simp only [List.map_cons, List.map_nil, cI, cL, cR1, cN1, cX1, cA (oR_rv _)]; exact Nat.le_of_ble_eq_true rfl) (by rw [lvA (v := .ref 0) rfl, lvA (oR_rv _), lvI, lvN]) rfl (hY_no fun E => rfl) w (fun τ4 F5 w => ?_)
      refine ab_fin.s3 (i := .goto 59) (k := 3) (t := 208) (st' := []) (by decide +kernel) (ab_gto (by decide +kernel)) ?_
      refine ab_fin.s2 (i := .aload_n 0) (k := 1) (pc' := 209) (lv' := [(0, .ref 0), (2, rv l2)]) (st' := [.ref 0]) (by decide +kernel) rfl rfl ?_
      refine ab_fin.s1 (i := .dup) (k := 1) (pc' := 210) (st' := [.ref 0, .ref 0]) (by decide +kernel) rfl rfl ?_
      refine ab_fin.q_rI (x := (τ4.i 0 20)) (ix := 253) (ci := 24) (k := 20) (pc' := 213) (by decide +kernel) rfl (c_rI (F5.s s0_0) rfl) rfl ?_
      refine ab_fin.s1i (i := .iconst 1) (k := 1) (pc' := 214) (n := 1) (by decide +kernel) rfl (by decide +kernel) rfl ?_
      refine ab_fin.s1 (i := .isub) (k := 1) (pc' := 215) (st' := [.int ((τ4.i 0 20) - (1 : Int32)), .ref 0]) (by decide +kernel) rfl rfl ?_
      refine ab_fin.q_pF (ix := 253) (ci := 24) (k := 20) (h1 := conc (τ4.wi 0 20 ((τ4.i 0 20) - (1 : Int32)))) (pc' := 218) (by decide +kernel) rfl (c_pI (v := ((τ4.i 0 20) - (1 : Int32))) (F5.s s0_0) rfl) rfl rfl rfl ?_
      refine ab_fin.ald (i := .aload_n 2) (n := 2) (k := 1) (pc' := 219) (Or.inl ⟨_, rfl, rfl, rfl⟩) (by decide +kernel) rfl (oR_rv _) rfl ?_
      exact ab_fin.q_ret (i := .areturn) (k := 1) (v := some (rv l2)) (by decide +kernel) (ret_A (oR_rv _)) F5 w
    · replace w := w.2 q
      refine ab_fin.s2 (i := .aload_n 0) (k := 1) (pc' := 131) (lv' := [(0, .ref 0), (2, rv l2)]) (st' := [.ref 0, rv l2, .ref 0]) (by decide +kernel) rfl rfl ?_
      refine ab_fin.q_rA (b := 2) (ix := 34) (ci := 24) (k := 1) (pc' := 134) (by decide +kernel) rfl (c_rA (F2.s s0_0) rfl (rM_1 F2)) rfl ?_
      refine ab_fin.s2 (i := .aload_n 0) (k := 1) (pc' := 135) (lv' := [(0, .ref 0), (2, rv l2)]) (st' := [.ref 0, .ref 2, rv l2, .ref 0]) (by decide +kernel) rfl rfl ?_
      refine ab_fin.q_rI (x := (τ1.i 0 33)) (ix := 369) (ci := 24) (k := 33) (pc' := 138) (by decide +kernel) rfl (c_rI (F2.s s0_0) rfl) rfl ?_
      obtain ⟨e6, w⟩ := w
      refine ab_fin.q_eA (b := (2409 + 3 * ((τ1.i 0 33).toNatClampNeg))) (pc' := 139) (by decide +kernel) (c_eA' (F2.s s0_2) (by decide) rfl e6 rfl (rE_5 F2 s0_2)) rfl ?_
      refine ab_fin.q_rI (x := (τ1.i (2409 + 3 * ((τ1.i 0 33).toNatClampNeg)) 1)) (ix := 303) (ci := 14) (k := 1) (pc' := 142) (by decide +kernel) rfl (c_rI (F2.s (kE_2 e6.2)) rfl) rfl ?_
      refine ab_fin.s3 (i := .goto 4) (k := 3) (t := 146) (st' := [.int (τ1.i (2409 + 3 * ((τ1.i 0 33).toNatClampNeg)) 1), rv l2, .ref 0]) (by decide +kernel) (ab_gto (by decide +kernel)) ?_
      refine ab_fin.q_yN (i := .invokevirtual 483) (k := 3) (y := 5936) (As := [.ref 0, rv l2, .int (τ1.i (2409 + 3 * ((τ1.i 0 33).toNatClampNeg)) 1)]) (rest := []) (M' := (mX23_arguments, [])) (lv2 := [(0, .ref 0), (1, rv l2), (2, .int (τ1.i (2409 + 3 * ((τ1.i 0 33).toNatClampNeg)) 1))]) (pc' := 149) (X := K) (by decide +kernel) (ab_cv rfl rfl (conc_get (σ := τ1) (F2.s s0_0)) ⟨(Nat.le_of_ble_eq_true rfl), (Nat.le_of_ble_eq_true rfl)⟩ rfl) rfl (by rw [lg_cnt]; simp only [List.map_cons, List.map_nil, cI, cL, cR1, cN1, cX1, cA (oR_rv _)]; exact Nat.le_of_ble_eq_true rfl) (by rw [lvA (v := .ref 0) rfl, lvA (oR_rv _), lvI, lvN]) rfl (hY_no fun E => rfl) w (fun τ7 F8 w => ?_)
      refine ab_fin.s3 (i := .goto 59) (k := 3) (t := 208) (st' := []) (by decide +kernel) (ab_gto (by decide +kernel)) ?_
      refine ab_fin.s2 (i := .aload_n 0) (k := 1) (pc' := 209) (lv' := [(0, .ref 0), (2, rv l2)]) (st' := [.ref 0]) (by decide +kernel) rfl rfl ?_
      refine ab_fin.s1 (i := .dup) (k := 1) (pc' := 210) (st' := [.ref 0, .ref 0]) (by decide +kernel) rfl rfl ?_
      refine ab_fin.q_rI (x := (τ7.i 0 20)) (ix := 253) (ci := 24) (k := 20) (pc' := 213) (by decide +kernel) rfl (c_rI (F8.s s0_0) rfl) rfl ?_
      refine ab_fin.s1i (i := .iconst 1) (k := 1) (pc' := 214) (n := 1) (by decide +kernel) rfl (by decide +kernel) rfl ?_
      refine ab_fin.s1 (i := .isub) (k := 1) (pc' := 215) (st' := [.int ((τ7.i 0 20) - (1 : Int32)), .ref 0]) (by decide +kernel) rfl rfl ?_
      refine ab_fin.q_pF (ix := 253) (ci := 24) (k := 20) (h1 := conc (τ7.wi 0 20 ((τ7.i 0 20) - (1 : Int32)))) (pc' := 218) (by decide +kernel) rfl (c_pI (v := ((τ7.i 0 20) - (1 : Int32))) (F8.s s0_0) rfl) rfl rfl rfl ?_
      refine ab_fin.ald (i := .aload_n 2) (n := 2) (k := 1) (pc' := 219) (Or.inl ⟨_, rfl, rfl, rfl⟩) (by decide +kernel) rfl (oR_rv _) rfl ?_
      exact ab_fin.q_ret (i := .areturn) (k := 1) (v := some (rv l2)) (by decide +kernel) (ret_A (oR_rv _)) F8 w
theorem S_X23_named_0 {Z : zT} {d : Nat} {σ : Sg} {l1 : Int32} {K : kS} (F : FX ΦR σ.sh σ.r) (w : B_X23_name_0 Z d σ  (yI K fun v3 τ1 => B_X23_is_0 Z d τ1 40 (yI K fun v6 τ4 => (¬ v6 = 0 → B_X23_kindNamed_0 Z d τ4 v3 (yI K fun v9 τ7 => B_X23_callNamed_0 Z d τ7 v3 (yI K fun v12 τ10 => (0 ≤ v9 → B_X23_named_113 Z (d + 1) τ10 l1 v9 v12 K) ∧ (¬ 0 ≤ v9 → (0 ≤ v12 → B_X23_named_113 Z (d + 1) τ10 l1 v9 v12 K) ∧ (¬ 0 ≤ v12 → B_X23_breaks_0 Z d τ10 3 l1 (yN K fun τ13 => B_X23_named_113 Z (d + 1) τ13 l1 v9 v12 K)))))) ∧ (v6 = 0 → ∃ b15, (τ4.r 0 34) = Rf.ptr b15 ∧ (sh0R[b15]? = some (Sh.obj 22) ∧ (B_X21_get_0 Z d τ4 b15 12 (yW K fun v20 τ18 => ∃ b21, v20 = Rf.ptr b21 ∧ (τ18.sh[b21]? = some (Sh.obj 21) ∧ (B_X23_named_32 Z (d + 1) (τ18.wi b21 2 (-1 : Int32)) l1 v3 b21 0 K))))))))) : B_X23_named_0 Z (d + 1) σ l1 K := by
  unfold B_X23_named_0
  refine ab_fin.s2 (i := .aload_n 0) (k := 1) (pc' := 1) (lv' := [(0, .ref 0), (1, .int l1)]) (st' := [.ref 0]) (by decide +kernel) rfl rfl ?_
  refine ab_fin.q_yI (i := .invokevirtual 277) (k := 3) (y := 5909) (As := [.ref 0]) (rest := []) (M' := (mX23_name, [])) (lv2 := [(0, .ref 0)]) (pc' := 4) (X := K) (by decide +kernel) (ab_cv rfl rfl (conc_get (σ := σ) (F.s s0_0)) ⟨(Nat.le_of_ble_eq_true rfl), (Nat.le_of_ble_eq_true rfl)⟩ rfl) rfl (Nat.le_of_ble_eq_true rfl) rfl rfl (hY_no fun E => rfl) w (fun v3 τ1 F2 w => ?_)
  refine ab_fin.s2 (i := .istore_n 2) (k := 1) (pc' := 5) (lv' := [(2, .int v3), (0, .ref 0), (1, .int l1)]) (st' := []) (by decide +kernel) rfl rfl ?_
  refine ab_fin.s2 (i := .aload_n 0) (k := 1) (pc' := 6) (lv' := [(2, .int v3), (0, .ref 0), (1, .int l1)]) (st' := [.ref 0]) (by decide +kernel) rfl rfl ?_
  refine ab_fin.s1i (i := .bipush 40) (k := 2) (pc' := 8) (n := 40) (by decide +kernel) rfl (by decide +kernel) rfl ?_
  refine ab_fin.q_yI (i := .invokevirtual 233) (k := 3) (y := 5904) (As := [.ref 0, .int 40]) (rest := []) (M' := (mX23_is, [])) (lv2 := [(0, .ref 0), (1, .int 40)]) (pc' := 11) (X := K) (by decide +kernel) (ab_cv rfl rfl (conc_get (σ := τ1) (F2.s s0_0)) ⟨(Nat.le_of_ble_eq_true rfl), (Nat.le_of_ble_eq_true rfl)⟩ rfl) rfl (Nat.le_of_ble_eq_true rfl) rfl rfl (hY_no fun E => rfl) w (fun v6 τ4 F5 w => ?_)
  refine ab_fin.br (c := ¬ v6 = 0) (i := .ifCond .ne 72) (off := 72) (t := 83) (pc' := 14) (r := []) (by decide +kernel) rfl (by decide +kernel) rfl (fun q => ?_) (fun q => ?_)
  · replace w := w.1 q
    refine ab_fin.s2 (i := .aload_n 0) (k := 1) (pc' := 84) (lv' := [(2, .int v3), (0, .ref 0), (1, .int l1)]) (st' := [.ref 0]) (by decide +kernel) rfl rfl ?_
    refine ab_fin.s2 (i := .iload_n 2) (k := 1) (pc' := 85) (lv' := [(2, .int v3), (0, .ref 0), (1, .int l1)]) (st' := [.int v3, .ref 0]) (by decide +kernel) rfl rfl ?_
    refine ab_fin.q_yI (i := .invokevirtual 48) (k := 3) (y := 5890) (As := [.ref 0, .int v3]) (rest := []) (M' := (mX23_kindNamed, [])) (lv2 := [(0, .ref 0), (1, .int v3)]) (pc' := 88) (X := K) (by decide +kernel) (ab_cv rfl rfl (conc_get (σ := τ4) (F5.s s0_0)) ⟨(Nat.le_of_ble_eq_true rfl), (Nat.le_of_ble_eq_true rfl)⟩ rfl) rfl (Nat.le_of_ble_eq_true rfl) rfl rfl (hY_no fun E => rfl) w (fun v9 τ7 F8 w => ?_)
    refine ab_fin.s2 (i := .istore 4) (k := 2) (pc' := 90) (lv' := [(4, .int v9), (2, .int v3), (0, .ref 0), (1, .int l1)]) (st' := []) (by decide +kernel) rfl rfl ?_
    refine ab_fin.s2 (i := .aload_n 0) (k := 1) (pc' := 91) (lv' := [(4, .int v9), (2, .int v3), (0, .ref 0), (1, .int l1)]) (st' := [.ref 0]) (by decide +kernel) rfl rfl ?_
    refine ab_fin.s2 (i := .iload_n 2) (k := 1) (pc' := 92) (lv' := [(4, .int v9), (2, .int v3), (0, .ref 0), (1, .int l1)]) (st' := [.int v3, .ref 0]) (by decide +kernel) rfl rfl ?_
    refine ab_fin.q_yI (i := .invokevirtual 52) (k := 3) (y := 5891) (As := [.ref 0, .int v3]) (rest := []) (M' := (mX23_callNamed, [])) (lv2 := [(0, .ref 0), (1, .int v3)]) (pc' := 95) (X := K) (by decide +kernel) (ab_cv rfl rfl (conc_get (σ := τ7) (F8.s s0_0)) ⟨(Nat.le_of_ble_eq_true rfl), (Nat.le_of_ble_eq_true rfl)⟩ rfl) rfl (Nat.le_of_ble_eq_true rfl) rfl rfl (hY_no fun E => rfl) w (fun v12 τ10 F11 w => ?_)
    refine ab_fin.s2 (i := .istore 5) (k := 2) (pc' := 97) (lv' := [(5, .int v12), (4, .int v9), (2, .int v3), (0, .ref 0), (1, .int l1)]) (st' := []) (by decide +kernel) rfl rfl ?_
    refine ab_fin.s2 (i := .iload 4) (k := 2) (pc' := 99) (lv' := [(5, .int v12), (4, .int v9), (2, .int v3), (0, .ref 0), (1, .int l1)]) (st' := [.int v9]) (by decide +kernel) rfl rfl ?_
    refine ab_fin.br (c := 0 ≤ v9) (i := .ifCond .ge 14) (off := 14) (t := 113) (pc' := 102) (r := []) (by decide +kernel) rfl (by decide +kernel) rfl (fun q => ?_) (fun q => ?_)
    · replace w := w.1 q
      exact ab_fin.lv ⟨(List.forall_mem_cons.mpr ⟨(List.Mem.tail _ (List.Mem.tail _ (List.Mem.tail _ (List.Mem.head _)))), (List.forall_mem_cons.mpr ⟨(List.Mem.tail _ (List.Mem.tail _ (List.Mem.tail _ (List.Mem.tail _ (List.Mem.head _))))), (List.forall_mem_cons.mpr ⟨(List.Mem.tail _ (List.Mem.head _)), (List.forall_mem_cons.mpr ⟨(List.Mem.head _), (fun _ h => absurd h List.not_mem_nil)⟩)⟩)⟩)⟩), (show ([5, 4, 2, 0, 1] : List Nat).Nodup from by decide)⟩ w
    · replace w := w.2 q
      refine ab_fin.s2 (i := .iload 5) (k := 2) (pc' := 104) (lv' := [(5, .int v12), (4, .int v9), (2, .int v3), (0, .ref 0), (1, .int l1)]) (st' := [.int v12]) (by decide +kernel) rfl rfl ?_
      refine ab_fin.br (c := 0 ≤ v12) (i := .ifCond .ge 9) (off := 9) (t := 113) (pc' := 107) (r := []) (by decide +kernel) rfl (by decide +kernel) rfl (fun q => ?_) (fun q => ?_)
      · replace w := w.1 q
        exact ab_fin.lv ⟨(List.forall_mem_cons.mpr ⟨(List.Mem.tail _ (List.Mem.tail _ (List.Mem.tail _ (List.Mem.head _)))), (List.forall_mem_cons.mpr ⟨(List.Mem.tail _ (List.Mem.tail _ (List.Mem.tail _ (List.Mem.tail _ (List.Mem.head _))))), (List.forall_mem_cons.mpr ⟨(List.Mem.tail _ (List.Mem.head _)), (List.forall_mem_cons.mpr ⟨(List.Mem.head _), (fun _ h => absurd h List.not_mem_nil)⟩)⟩)⟩)⟩), (show ([5, 4, 2, 0, 1] : List Nat).Nodup from by decide)⟩ w
      · replace w := w.2 q
        refine ab_fin.s2 (i := .aload_n 0) (k := 1) (pc' := 108) (lv' := [(5, .int v12), (4, .int v9), (2, .int v3), (0, .ref 0), (1, .int l1)]) (st' := [.ref 0]) (by decide +kernel) rfl rfl ?_
        refine ab_fin.s1i (i := .iconst 3) (k := 1) (pc' := 109) (n := 3) (by decide +kernel) rfl (by decide +kernel) rfl ?_
        refine ab_fin.s2 (i := .iload_n 1) (k := 1) (pc' := 110) (lv' := [(5, .int v12), (4, .int v9), (2, .int v3), (0, .ref 0), (1, .int l1)]) (st' := [.int l1, .int 3, .ref 0]) (by decide +kernel) rfl rfl ?_
        refine ab_fin.q_yN (i := .invokevirtual 259) (k := 3) (y := 5910) (As := [.ref 0, .int 3, .int l1]) (rest := []) (M' := (mX23_breaks, [])) (lv2 := [(0, .ref 0), (1, .int 3), (2, .int l1)]) (pc' := 113) (X := K) (by decide +kernel) (ab_cv rfl rfl (conc_get (σ := τ10) (F11.s s0_0)) ⟨(Nat.le_of_ble_eq_true rfl), (Nat.le_of_ble_eq_true rfl)⟩ rfl) rfl (Nat.le_of_ble_eq_true rfl) rfl rfl (hY_no fun E => rfl) w (fun τ13 F14 w => ?_)
        exact ab_fin.lv ⟨(List.forall_mem_cons.mpr ⟨(List.Mem.tail _ (List.Mem.tail _ (List.Mem.tail _ (List.Mem.head _)))), (List.forall_mem_cons.mpr ⟨(List.Mem.tail _ (List.Mem.tail _ (List.Mem.tail _ (List.Mem.tail _ (List.Mem.head _))))), (List.forall_mem_cons.mpr ⟨(List.Mem.tail _ (List.Mem.head _)), (List.forall_mem_cons.mpr ⟨(List.Mem.head _), (fun _ h => absurd h List.not_mem_nil)⟩)⟩)⟩)⟩), (show ([5, 4, 2, 0, 1] : List Nat).Nodup from by decide)⟩ w
  · replace w := w.2 (Decidable.of_not_not q)
    refine ab_fin.s2 (i := .aload_n 0) (k := 1) (pc' := 15) (lv' := [(2, .int v3), (0, .ref 0), (1, .int l1)]) (st' := [.ref 0]) (by decide +kernel) rfl rfl ?_
    obtain ⟨b15, e16, w⟩ := w
    refine ab_fin.q_rA (b := b15) (ix := 353) (ci := 24) (k := 34) (pc' := 18) (by decide +kernel) rfl (c_rA (F5.s s0_0) rfl e16) rfl ?_
    refine ab_fin.s1i (i := .bipush 12) (k := 2) (pc' := 20) (n := 12) (by decide +kernel) rfl (by decide +kernel) rfl ?_
    obtain ⟨e17, w⟩ := w
    refine ab_fin.q_yW (i := .invokevirtual 403) (k := 3) (y := 5377) (As := [.ref b15, .int 12]) (rest := []) (M' := (mX21_get, [])) (lv2 := [(0, .ref b15), (1, .int 12)]) (pc' := 23) (X := K) (by decide +kernel) (ab_cv rfl rfl (conc_get (σ := τ4) (F5.s e17)) ⟨(Nat.le_of_ble_eq_true rfl), (Nat.le_of_ble_eq_true rfl)⟩ rfl) rfl (Nat.le_of_ble_eq_true rfl) rfl rfl (hY_no fun E => rfl) w (fun v20 τ18 F19 w => ?_)
    refine ab_fin.q_stA (i := .astore_n 3) (n := 3) (k := 1) (pc' := 24) (lv' := [(3, rv v20), (2, .int v3), (0, .ref 0), (1, .int l1)]) (Or.inl ⟨_, rfl, rfl, rfl⟩) (by decide +kernel) (by decide) (oR_rv _) rfl rfl ?_
    refine ab_fin.ald (i := .aload_n 3) (n := 3) (k := 1) (pc' := 25) (Or.inl ⟨_, rfl, rfl, rfl⟩) (by decide +kernel) rfl (oR_rv _) rfl ?_
    refine ab_fin.s1i (i := .iconst (-1)) (k := 1) (pc' := 26) (n := (-1)) (by decide +kernel) rfl (by decide +kernel) rfl ?_
    obtain ⟨b21, e22, w⟩ := w
    rw [show rv v20 = .ref b21 from by rw [e22]; rfl]
    obtain ⟨e23, w⟩ := w
    refine ab_fin.q_pF (ix := 435) (ci := 21) (k := 2) (h1 := conc (τ18.wi b21 2 (-1 : Int32))) (pc' := 29) (by decide +kernel) rfl (c_pI (v := (-1)) e23 rfl) rfl rfl rfl ?_
    refine ab_fin.s1i (i := .iconst 0) (k := 1) (pc' := 30) (n := 0) (by decide +kernel) rfl (by decide +kernel) rfl ?_
    refine ab_fin.s2 (i := .istore 4) (k := 2) (pc' := 32) (lv' := [(4, .int 0), (3, .ref b21), (2, .int v3), (0, .ref 0), (1, .int l1)]) (st' := []) (by decide +kernel) rfl rfl ?_
    exact ab_fin.lv ⟨(List.forall_mem_cons.mpr ⟨(List.Mem.tail _ (List.Mem.tail _ (List.Mem.tail _ (List.Mem.head _)))), (List.forall_mem_cons.mpr ⟨(List.Mem.tail _ (List.Mem.tail _ (List.Mem.tail _ (List.Mem.tail _ (List.Mem.head _))))), (List.forall_mem_cons.mpr ⟨(List.Mem.tail _ (List.Mem.tail _ (List.Mem.head _))), (List.forall_mem_cons.mpr ⟨(List.Mem.tail _ (List.Mem.head _)), (List.forall_mem_cons.mpr ⟨(List.Mem.head _), (fun _ h => absurd h List.not_mem_nil)⟩)⟩)⟩)⟩)⟩), (show ([4, 3, 2, 0, 1] : List Nat).Nodup from by decide)⟩ w
theorem S_X23_named_32 {Z : zT} {d : Nat} {σ : Sg} {l1 : Int32} {l2 : Int32} {l3 : Nat} {l4 : Int32} {K : kS} (F : FX ΦR σ.sh σ.r) (w : ((σ.i 0 32) ≤ l4 → σ.sh[l3]? = some (Sh.obj 21) ∧ ((0 ≤ (σ.i l3 2) → K (.inl (some (.ref l3))) σ) ∧ (¬ 0 ≤ (σ.i l3 2) → B_X23_breaks_0 Z d σ 3 l1 (yN K fun τ2 => K (.inl (some (.ref l3))) τ2)))) ∧ (¬ (σ.i 0 32) ≤ l4 → ib l4 64 ∧ (B_X23_isSame_0 Z d σ (σ.i 54 l4.toNatClampNeg) l2 (yI K fun v7 τ5 => (v7 = 0 → B_X23_named_32 Z (d + 1) τ5 l1 l2 l3 (l4 + 1) K) ∧ (¬ v7 = 0 → τ5.sh[l3]? = some (Sh.obj 21) ∧ (B_X23_named_32 Z (d + 1) (τ5.wi l3 2 l4) l1 l2 l3 (l4 + 1) K)))))) : B_X23_named_32 Z (d + 1) σ l1 l2 l3 l4 K := by
  unfold B_X23_named_32
  refine ab_fin.s2 (i := .iload 4) (k := 2) (pc' := 34) (lv' := [(0, .ref 0), (1, .int l1), (2, .int l2), (3, .ref l3), (4, .int l4)]) (st' := [.int l4]) (by decide +kernel) rfl rfl ?_
  refine ab_fin.s2 (i := .aload_n 0) (k := 1) (pc' := 35) (lv' := [(0, .ref 0), (1, .int l1), (2, .int l2), (3, .ref l3), (4, .int l4)]) (st' := [.ref 0, .int l4]) (by decide +kernel) rfl rfl ?_
  refine ab_fin.q_rI (x := (σ.i 0 32)) (ix := 339) (ci := 24) (k := 32) (pc' := 38) (by decide +kernel) rfl (c_rI (F.s s0_0) rfl) rfl ?_
  refine ab_fin.br (c := (σ.i 0 32) ≤ l4) (i := .if_icmp .ge 30) (off := 30) (t := 68) (pc' := 41) (r := []) (by decide +kernel) rfl (by decide +kernel) rfl (fun q => ?_) (fun q => ?_)
  · replace w := w.1 q
    refine ab_fin.s2 (i := .aload_n 3) (k := 1) (pc' := 69) (lv' := [(0, .ref 0), (1, .int l1), (2, .int l2), (3, .ref l3), (4, .int l4)]) (st' := [.ref l3]) (by decide +kernel) rfl rfl ?_
    obtain ⟨e1, w⟩ := w
    refine ab_fin.q_rI (x := (σ.i l3 2)) (ix := 435) (ci := 21) (k := 2) (pc' := 72) (by decide +kernel) rfl (c_rI e1 rfl) rfl ?_
    refine ab_fin.br (c := 0 ≤ (σ.i l3 2)) (i := .ifCond .ge 9) (off := 9) (t := 81) (pc' := 75) (r := []) (by decide +kernel) rfl (by decide +kernel) rfl (fun q => ?_) (fun q => ?_)
    · replace w := w.1 q
      refine ab_fin.s2 (i := .aload_n 3) (k := 1) (pc' := 82) (lv' := [(0, .ref 0), (1, .int l1), (2, .int l2), (3, .ref l3), (4, .int l4)]) (st' := [.ref l3]) (by decide +kernel) rfl rfl ?_
      exact ab_fin.q_ret (i := .areturn) (k := 1) (v := some (.ref l3)) (by decide +kernel) rfl F w
    · replace w := w.2 q
      refine ab_fin.s2 (i := .aload_n 0) (k := 1) (pc' := 76) (lv' := [(0, .ref 0), (1, .int l1), (2, .int l2), (3, .ref l3), (4, .int l4)]) (st' := [.ref 0]) (by decide +kernel) rfl rfl ?_
      refine ab_fin.s1i (i := .iconst 3) (k := 1) (pc' := 77) (n := 3) (by decide +kernel) rfl (by decide +kernel) rfl ?_
      refine ab_fin.s2 (i := .iload_n 1) (k := 1) (pc' := 78) (lv' := [(0, .ref 0), (1, .int l1), (2, .int l2), (3, .ref l3), (4, .int l4)]) (st' := [.int l1, .int 3, .ref 0]) (by decide +kernel) rfl rfl ?_
      refine ab_fin.q_yN (i := .invokevirtual 259) (k := 3) (y := 5910) (As := [.ref 0, .int 3, .int l1]) (rest := []) (M' := (mX23_breaks, [])) (lv2 := [(0, .ref 0), (1, .int 3), (2, .int l1)]) (pc' := 81) (X := K) (by decide +kernel) (ab_cv rfl rfl (conc_get (σ := σ) (F.s s0_0)) ⟨(Nat.le_of_ble_eq_true rfl), (Nat.le_of_ble_eq_true rfl)⟩ rfl) rfl (Nat.le_of_ble_eq_true rfl) rfl rfl (hY_no fun E => rfl) w (fun τ2 F3 w => ?_)
      refine ab_fin.s2 (i := .aload_n 3) (k := 1) (pc' := 82) (lv' := [(0, .ref 0), (1, .int l1), (2, .int l2), (3, .ref l3), (4, .int l4)]) (st' := [.ref l3]) (by decide +kernel) rfl rfl ?_
      exact ab_fin.q_ret (i := .areturn) (k := 1) (v := some (.ref l3)) (by decide +kernel) rfl F3 w
  · replace w := w.2 q
    refine ab_fin.s2 (i := .aload_n 0) (k := 1) (pc' := 42) (lv' := [(0, .ref 0), (1, .int l1), (2, .int l2), (3, .ref l3), (4, .int l4)]) (st' := [.ref 0]) (by decide +kernel) rfl rfl ?_
    refine ab_fin.s2 (i := .aload_n 0) (k := 1) (pc' := 43) (lv' := [(0, .ref 0), (1, .int l1), (2, .int l2), (3, .ref l3), (4, .int l4)]) (st' := [.ref 0, .ref 0]) (by decide +kernel) rfl rfl ?_
    refine ab_fin.q_rA (b := 54) (ix := 382) (ci := 24) (k := 31) (pc' := 46) (by decide +kernel) rfl (c_rA (F.s s0_0) rfl (rM_31 F)) rfl ?_
    refine ab_fin.s2 (i := .iload 4) (k := 2) (pc' := 48) (lv' := [(0, .ref 0), (1, .int l1), (2, .int l2), (3, .ref l3), (4, .int l4)]) (st' := [.int l4, .ref 54, .ref 0]) (by decide +kernel) rfl rfl ?_
    obtain ⟨e4, w⟩ := w
    refine ab_fin.q_eI (x := (σ.i 54 l4.toNatClampNeg)) (pc' := 49) (by decide +kernel) (c_eI' (F.s s0_54) e4 rfl) rfl ?_
    refine ab_fin.s2 (i := .iload_n 2) (k := 1) (pc' := 50) (lv' := [(0, .ref 0), (1, .int l1), (2, .int l2), (3, .ref l3), (4, .int l4)]) (st' := [.int l2, .int (σ.i 54 l4.toNatClampNeg), .ref 0]) (by decide +kernel) rfl rfl ?_
    refine ab_fin.q_yI (i := .invokevirtual 385) (k := 3) (y := 5889) (As := [.ref 0, .int (σ.i 54 l4.toNatClampNeg), .int l2]) (rest := []) (M' := (mX23_isSame, [])) (lv2 := [(0, .ref 0), (1, .int (σ.i 54 l4.toNatClampNeg)), (2, .int l2)]) (pc' := 53) (X := K) (by decide +kernel) (ab_cv rfl rfl (conc_get (σ := σ) (F.s s0_0)) ⟨(Nat.le_of_ble_eq_true rfl), (Nat.le_of_ble_eq_true rfl)⟩ rfl) rfl (Nat.le_of_ble_eq_true rfl) rfl rfl (hY_no fun E => rfl) w (fun v7 τ5 F6 w => ?_)
    refine ab_fin.br (c := v7 = 0) (i := .ifCond .eq 9) (off := 9) (t := 62) (pc' := 56) (r := []) (by decide +kernel) rfl (by decide +kernel) rfl (fun q => ?_) (fun q => ?_)
    · replace w := w.1 q
      refine ab_fin.q_inc (n := 4) (c := 1) (pc' := 65) (lv' := [(4, .int (l4 + 1)), (0, .ref 0), (1, .int l1), (2, .int l2), (3, .ref l3)]) (by decide +kernel) (by decide) rfl rfl rfl rfl ?_
      refine ab_fin.s3 (i := .goto (-33)) (k := 3) (t := 32) (st' := []) (by decide +kernel) (ab_gto (by decide +kernel)) ?_
      exact ab_fin.lv ⟨(List.forall_mem_cons.mpr ⟨(List.Mem.tail _ (List.Mem.head _)), (List.forall_mem_cons.mpr ⟨(List.Mem.tail _ (List.Mem.tail _ (List.Mem.head _))), (List.forall_mem_cons.mpr ⟨(List.Mem.tail _ (List.Mem.tail _ (List.Mem.tail _ (List.Mem.head _)))), (List.forall_mem_cons.mpr ⟨(List.Mem.tail _ (List.Mem.tail _ (List.Mem.tail _ (List.Mem.tail _ (List.Mem.head _))))), (List.forall_mem_cons.mpr ⟨(List.Mem.head _), (fun _ h => absurd h List.not_mem_nil)⟩)⟩)⟩)⟩)⟩), (show ([4, 0, 1, 2, 3] : List Nat).Nodup from by decide)⟩ w
    · replace w := w.2 q
      refine ab_fin.s2 (i := .aload_n 3) (k := 1) (pc' := 57) (lv' := [(0, .ref 0), (1, .int l1), (2, .int l2), (3, .ref l3), (4, .int l4)]) (st' := [.ref l3]) (by decide +kernel) rfl rfl ?_
      refine ab_fin.s2 (i := .iload 4) (k := 2) (pc' := 59) (lv' := [(0, .ref 0), (1, .int l1), (2, .int l2), (3, .ref l3), (4, .int l4)]) (st' := [.int l4, .ref l3]) (by decide +kernel) rfl rfl ?_
      obtain ⟨e8, w⟩ := w
      refine ab_fin.q_pF (ix := 435) (ci := 21) (k := 2) (h1 := conc (τ5.wi l3 2 l4)) (pc' := 62) (by decide +kernel) rfl (c_pI (v := l4) e8 rfl) rfl rfl rfl ?_
      refine ab_fin.q_inc (n := 4) (c := 1) (pc' := 65) (lv' := [(4, .int (l4 + 1)), (0, .ref 0), (1, .int l1), (2, .int l2), (3, .ref l3)]) (by decide +kernel) (by decide) rfl rfl rfl rfl ?_
      refine ab_fin.s3 (i := .goto (-33)) (k := 3) (t := 32) (st' := []) (by decide +kernel) (ab_gto (by decide +kernel)) ?_
      exact ab_fin.lv ⟨(List.forall_mem_cons.mpr ⟨(List.Mem.tail _ (List.Mem.head _)), (List.forall_mem_cons.mpr ⟨(List.Mem.tail _ (List.Mem.tail _ (List.Mem.head _))), (List.forall_mem_cons.mpr ⟨(List.Mem.tail _ (List.Mem.tail _ (List.Mem.tail _ (List.Mem.head _)))), (List.forall_mem_cons.mpr ⟨(List.Mem.tail _ (List.Mem.tail _ (List.Mem.tail _ (List.Mem.tail _ (List.Mem.head _))))), (List.forall_mem_cons.mpr ⟨(List.Mem.head _), (fun _ h => absurd h List.not_mem_nil)⟩)⟩)⟩)⟩)⟩), (show ([4, 0, 1, 2, 3] : List Nat).Nodup from by decide)⟩ w
theorem S_X23_named_113 {Z : zT} {d : Nat} {σ : Sg} {l1 : Int32} {l4 : Int32} {l5 : Int32} {K : kS} (F : FX ΦR σ.sh σ.r) (w : (l4 < 0 → B_X23_named_138 Z (d + 1) σ l4 l5 K) ∧ (¬ l4 < 0 → ib l4 24 ∧ (((σ.i (2193 + 9 * l4.toNatClampNeg) 1) = 0 → B_X23_named_138 Z (d + 1) σ l4 l5 K) ∧ (¬ (σ.i (2193 + 9 * l4.toNatClampNeg) 1) = 0 → B_X23_breaks_0 Z d σ 6 l1 (yN K fun τ2 => B_X23_named_138 Z (d + 1) τ2 l4 l5 K))))) : B_X23_named_113 Z (d + 1) σ l1 l4 l5 K := by
  unfold B_X23_named_113
  refine ab_fin.s2 (i := .iload 4) (k := 2) (pc' := 115) (lv' := [(0, .ref 0), (1, .int l1), (4, .int l4), (5, .int l5)]) (st' := [.int l4]) (by decide +kernel) rfl rfl ?_
  refine ab_fin.br (c := l4 < 0) (i := .ifCond .lt 23) (off := 23) (t := 138) (pc' := 118) (r := []) (by decide +kernel) rfl (by decide +kernel) rfl (fun q => ?_) (fun q => ?_)
  · replace w := w.1 q
    exact ab_fin.lv ⟨(List.forall_mem_cons.mpr ⟨(List.Mem.head _), (List.forall_mem_cons.mpr ⟨(List.Mem.tail _ (List.Mem.tail _ (List.Mem.head _))), (List.forall_mem_cons.mpr ⟨(List.Mem.tail _ (List.Mem.tail _ (List.Mem.tail _ (List.Mem.head _)))), (fun _ h => absurd h List.not_mem_nil)⟩)⟩)⟩), (show ([0, 1, 4, 5] : List Nat).Nodup from by decide)⟩ w
  · replace w := w.2 q
    refine ab_fin.s2 (i := .aload_n 0) (k := 1) (pc' := 119) (lv' := [(0, .ref 0), (1, .int l1), (4, .int l4), (5, .int l5)]) (st' := [.ref 0]) (by decide +kernel) rfl rfl ?_
    refine ab_fin.q_rA (b := 1) (ix := 17) (ci := 24) (k := 0) (pc' := 122) (by decide +kernel) rfl (c_rA (F.s s0_0) rfl (rM_0 F)) rfl ?_
    refine ab_fin.s2 (i := .iload 4) (k := 2) (pc' := 124) (lv' := [(0, .ref 0), (1, .int l1), (4, .int l4), (5, .int l5)]) (st' := [.int l4, .ref 1]) (by decide +kernel) rfl rfl ?_
    obtain ⟨e1, w⟩ := w
    refine ab_fin.q_eA (b := (2193 + 9 * l4.toNatClampNeg)) (pc' := 125) (by decide +kernel) (c_eA' (F.s s0_1) (by decide) rfl e1 rfl (rE_4 F s0_1)) rfl ?_
    refine ab_fin.q_rI (x := (σ.i (2193 + 9 * l4.toNatClampNeg) 1)) (ix := 290) (ci := 18) (k := 1) (pc' := 128) (by decide +kernel) rfl (c_rI (F.s (kE_1 e1.2)) rfl) rfl ?_
    refine ab_fin.br (c := (σ.i (2193 + 9 * l4.toNatClampNeg) 1) = 0) (i := .ifCond .eq 10) (off := 10) (t := 138) (pc' := 131) (r := []) (by decide +kernel) rfl (by decide +kernel) rfl (fun q => ?_) (fun q => ?_)
    · replace w := w.1 q
      exact ab_fin.lv ⟨(List.forall_mem_cons.mpr ⟨(List.Mem.head _), (List.forall_mem_cons.mpr ⟨(List.Mem.tail _ (List.Mem.tail _ (List.Mem.head _))), (List.forall_mem_cons.mpr ⟨(List.Mem.tail _ (List.Mem.tail _ (List.Mem.tail _ (List.Mem.head _)))), (fun _ h => absurd h List.not_mem_nil)⟩)⟩)⟩), (show ([0, 1, 4, 5] : List Nat).Nodup from by decide)⟩ w
    · replace w := w.2 q
      refine ab_fin.s2 (i := .aload_n 0) (k := 1) (pc' := 132) (lv' := [(0, .ref 0), (1, .int l1), (4, .int l4), (5, .int l5)]) (st' := [.ref 0]) (by decide +kernel) rfl rfl ?_
      refine ab_fin.s1i (i := .bipush 6) (k := 2) (pc' := 134) (n := 6) (by decide +kernel) rfl (by decide +kernel) rfl ?_
      refine ab_fin.s2 (i := .iload_n 1) (k := 1) (pc' := 135) (lv' := [(0, .ref 0), (1, .int l1), (4, .int l4), (5, .int l5)]) (st' := [.int l1, .int 6, .ref 0]) (by decide +kernel) rfl rfl ?_
      refine ab_fin.q_yN (i := .invokevirtual 259) (k := 3) (y := 5910) (As := [.ref 0, .int 6, .int l1]) (rest := []) (M' := (mX23_breaks, [])) (lv2 := [(0, .ref 0), (1, .int 6), (2, .int l1)]) (pc' := 138) (X := K) (by decide +kernel) (ab_cv rfl rfl (conc_get (σ := σ) (F.s s0_0)) ⟨(Nat.le_of_ble_eq_true rfl), (Nat.le_of_ble_eq_true rfl)⟩ rfl) rfl (Nat.le_of_ble_eq_true rfl) rfl rfl (hY_no fun E => rfl) w (fun τ2 F3 w => ?_)
      exact ab_fin.lv ⟨(List.forall_mem_cons.mpr ⟨(List.Mem.head _), (List.forall_mem_cons.mpr ⟨(List.Mem.tail _ (List.Mem.tail _ (List.Mem.head _))), (List.forall_mem_cons.mpr ⟨(List.Mem.tail _ (List.Mem.tail _ (List.Mem.tail _ (List.Mem.head _)))), (fun _ h => absurd h List.not_mem_nil)⟩)⟩)⟩), (show ([0, 1, 4, 5] : List Nat).Nodup from by decide)⟩ w
theorem S_X23_named_138 {Z : zT} {d : Nat} {σ : Sg} {l4 : Int32} {l5 : Int32} {K : kS} (F : FX ΦR σ.sh σ.r) (w : ∃ b1, (σ.r 0 34) = Rf.ptr b1 ∧ ((l4 < 0 → B_X23_named_154 Z (d + 1) σ l4 l5 b1 14 K) ∧ (¬ l4 < 0 → B_X23_named_154 Z (d + 1) σ l4 l5 b1 13 K))) : B_X23_named_138 Z (d + 1) σ l4 l5 K := by
  unfold B_X23_named_138
  refine ab_fin.s2 (i := .aload_n 0) (k := 1) (pc' := 139) (lv' := [(0, .ref 0), (4, .int l4), (5, .int l5)]) (st' := [.ref 0]) (by decide +kernel) rfl rfl ?_
  obtain ⟨b1, e2, w⟩ := w
  refine ab_fin.q_rA (b := b1) (ix := 353) (ci := 24) (k := 34) (pc' := 142) (by decide +kernel) rfl (c_rA (F.s s0_0) rfl e2) rfl ?_
  refine ab_fin.s2 (i := .iload 4) (k := 2) (pc' := 144) (lv' := [(0, .ref 0), (4, .int l4), (5, .int l5)]) (st' := [.int l4, .ref b1]) (by decide +kernel) rfl rfl ?_
  refine ab_fin.br (c := l4 < 0) (i := .ifCond .lt 8) (off := 8) (t := 152) (pc' := 147) (r := [.ref b1]) (by decide +kernel) rfl (by decide +kernel) rfl (fun q => ?_) (fun q => ?_)
  · replace w := w.1 q
    refine ab_fin.s1i (i := .bipush 14) (k := 2) (pc' := 154) (n := 14) (by decide +kernel) rfl (by decide +kernel) rfl ?_
    exact ab_fin.lv ⟨(List.forall_mem_cons.mpr ⟨(List.Mem.head _), (List.forall_mem_cons.mpr ⟨(List.Mem.tail _ (List.Mem.head _)), (List.forall_mem_cons.mpr ⟨(List.Mem.tail _ (List.Mem.tail _ (List.Mem.head _))), (fun _ h => absurd h List.not_mem_nil)⟩)⟩)⟩), (show ([0, 4, 5] : List Nat).Nodup from by decide)⟩ w
  · replace w := w.2 q
    refine ab_fin.s1i (i := .bipush 13) (k := 2) (pc' := 149) (n := 13) (by decide +kernel) rfl (by decide +kernel) rfl ?_
    refine ab_fin.s3 (i := .goto 5) (k := 3) (t := 154) (st' := [.int 13, .ref b1]) (by decide +kernel) (ab_gto (by decide +kernel)) ?_
    exact ab_fin.lv ⟨(List.forall_mem_cons.mpr ⟨(List.Mem.head _), (List.forall_mem_cons.mpr ⟨(List.Mem.tail _ (List.Mem.head _)), (List.forall_mem_cons.mpr ⟨(List.Mem.tail _ (List.Mem.tail _ (List.Mem.head _))), (fun _ h => absurd h List.not_mem_nil)⟩)⟩)⟩), (show ([0, 4, 5] : List Nat).Nodup from by decide)⟩ w
theorem S_X23_named_154 {Z : zT} {d : Nat} {σ : Sg} {l4 : Int32} {l5 : Int32} {s0 : Nat} {s1 : Int32} {K : kS} (F : FX ΦR σ.sh σ.r) (w : sh0R[s0]? = some (Sh.obj 22) ∧ (B_X21_get_0 Z d σ s0 s1 (yW K fun v4 τ2 => (l4 < 0 → B_X23_named_171 Z (d + 1) τ2 v4 l4 l5 v4 l5 K) ∧ (¬ l4 < 0 → B_X23_named_171 Z (d + 1) τ2 v4 l4 l5 v4 l4 K)))) : B_X23_named_154 Z (d + 1) σ l4 l5 s0 s1 K := by
  unfold B_X23_named_154
  obtain ⟨e1, w⟩ := w
  refine ab_fin.q_yW (i := .invokevirtual 403) (k := 3) (y := 5377) (As := [.ref s0, .int s1]) (rest := []) (M' := (mX21_get, [])) (lv2 := [(0, .ref s0), (1, .int s1)]) (pc' := 157) (X := K) (by decide +kernel) (ab_cv rfl rfl (conc_get (σ := σ) (F.s e1)) ⟨(Nat.le_of_ble_eq_true rfl), (Nat.le_of_ble_eq_true rfl)⟩ rfl) rfl (Nat.le_of_ble_eq_true rfl) rfl rfl (hY_no fun E => rfl) w (fun v4 τ2 F3 w => ?_)
  refine ab_fin.q_stA (i := .astore_n 3) (n := 3) (k := 1) (pc' := 158) (lv' := [(3, rv v4), (0, .ref 0), (4, .int l4), (5, .int l5)]) (Or.inl ⟨_, rfl, rfl, rfl⟩) (by decide +kernel) (by decide) (oR_rv _) rfl rfl ?_
  refine ab_fin.ald (i := .aload_n 3) (n := 3) (k := 1) (pc' := 159) (Or.inl ⟨_, rfl, rfl, rfl⟩) (by decide +kernel) rfl (oR_rv _) rfl ?_
  refine ab_fin.s2 (i := .iload 4) (k := 2) (pc' := 161) (lv' := [(3, rv v4), (0, .ref 0), (4, .int l4), (5, .int l5)]) (st' := [.int l4, rv v4]) (by decide +kernel) rfl rfl ?_
  refine ab_fin.br (c := l4 < 0) (i := .ifCond .lt 8) (off := 8) (t := 169) (pc' := 164) (r := [rv v4]) (by decide +kernel) rfl (by decide +kernel) rfl (fun q => ?_) (fun q => ?_)
  · replace w := w.1 q
    refine ab_fin.s2 (i := .iload 5) (k := 2) (pc' := 171) (lv' := [(3, rv v4), (0, .ref 0), (4, .int l4), (5, .int l5)]) (st' := [.int l5, rv v4]) (by decide +kernel) rfl rfl ?_
    exact ab_fin.lv ⟨(List.forall_mem_cons.mpr ⟨(List.Mem.tail _ (List.Mem.head _)), (List.forall_mem_cons.mpr ⟨(List.Mem.head _), (List.forall_mem_cons.mpr ⟨(List.Mem.tail _ (List.Mem.tail _ (List.Mem.head _))), (List.forall_mem_cons.mpr ⟨(List.Mem.tail _ (List.Mem.tail _ (List.Mem.tail _ (List.Mem.head _)))), (fun _ h => absurd h List.not_mem_nil)⟩)⟩)⟩)⟩), (show ([3, 0, 4, 5] : List Nat).Nodup from by decide)⟩ w
  · replace w := w.2 q
    refine ab_fin.s2 (i := .iload 4) (k := 2) (pc' := 166) (lv' := [(3, rv v4), (0, .ref 0), (4, .int l4), (5, .int l5)]) (st' := [.int l4, rv v4]) (by decide +kernel) rfl rfl ?_
    refine ab_fin.s3 (i := .goto 5) (k := 3) (t := 171) (st' := [.int l4, rv v4]) (by decide +kernel) (ab_gto (by decide +kernel)) ?_
    exact ab_fin.lv ⟨(List.forall_mem_cons.mpr ⟨(List.Mem.tail _ (List.Mem.head _)), (List.forall_mem_cons.mpr ⟨(List.Mem.head _), (List.forall_mem_cons.mpr ⟨(List.Mem.tail _ (List.Mem.tail _ (List.Mem.head _))), (List.forall_mem_cons.mpr ⟨(List.Mem.tail _ (List.Mem.tail _ (List.Mem.tail _ (List.Mem.head _)))), (fun _ h => absurd h List.not_mem_nil)⟩)⟩)⟩)⟩), (show ([3, 0, 4, 5] : List Nat).Nodup from by decide)⟩ w
theorem S_X23_named_171 {Z : zT} {d : Nat} {σ : Sg} {l3 : Rf} {l4 : Int32} {l5 : Int32} {s0 : Rf} {s1 : Int32} {K : kS} (F : FX ΦR σ.sh σ.r) (w : ∃ b1, s0 = Rf.ptr b1 ∧ (σ.sh[b1]? = some (Sh.obj 21) ∧ ((l4 < 0 → (l5 < 0 → B_X23_arguments_0 Z d (σ.wi b1 1 s1) l3 0 (yN K fun τ4 => K (.inl (some (rv l3))) τ4)) ∧ (¬ l5 < 0 → ib l5 24 ∧ (B_X23_arguments_0 Z d (σ.wi b1 1 s1) l3 ((σ.wi b1 1 s1).i (2409 + 3 * l5.toNatClampNeg) 1) (yN K fun τ7 => K (.inl (some (rv l3))) τ7)))) ∧ (¬ l4 < 0 → B_X23_arguments_0 Z d (σ.wi b1 1 s1) l3 1 (yN K fun τ9 => K (.inl (some (rv l3))) τ9))))) : B_X23_named_171 Z (d + 1) σ l3 l4 l5 s0 s1 K := by
  unfold B_X23_named_171
  obtain ⟨b1, e2, w⟩ := w
  rw [show rv s0 = .ref b1 from by rw [e2]; rfl]
  obtain ⟨e3, w⟩ := w
  refine ab_fin.q_pF (ix := 438) (ci := 21) (k := 1) (h1 := conc (σ.wi b1 1 s1)) (pc' := 174) (by decide +kernel) rfl (c_pI (v := s1) e3 rfl) rfl rfl rfl ?_
  refine ab_fin.s2 (i := .aload_n 0) (k := 1) (pc' := 175) (lv' := [(0, .ref 0), (3, rv l3), (4, .int l4), (5, .int l5)]) (st' := [.ref 0]) (by decide +kernel) rfl rfl ?_
  refine ab_fin.ald (i := .aload_n 3) (n := 3) (k := 1) (pc' := 176) (Or.inl ⟨_, rfl, rfl, rfl⟩) (by decide +kernel) rfl (oR_rv _) rfl ?_
  refine ab_fin.s2 (i := .iload 4) (k := 2) (pc' := 178) (lv' := [(0, .ref 0), (3, rv l3), (4, .int l4), (5, .int l5)]) (st' := [.int l4, rv l3, .ref 0]) (by decide +kernel) rfl rfl ?_
  refine ab_fin.br (c := l4 < 0) (i := .ifCond .lt 7) (off := 7) (t := 185) (pc' := 181) (r := [rv l3, .ref 0]) (by decide +kernel) rfl (by decide +kernel) rfl (fun q => ?_) (fun q => ?_)
  · replace w := w.1 q
    refine ab_fin.s2 (i := .iload 5) (k := 2) (pc' := 187) (lv' := [(0, .ref 0), (3, rv l3), (4, .int l4), (5, .int l5)]) (st' := [.int l5, rv l3, .ref 0]) (by decide +kernel) rfl rfl ?_
    refine ab_fin.br (c := l5 < 0) (i := .ifCond .lt 16) (off := 16) (t := 203) (pc' := 190) (r := [rv l3, .ref 0]) (by decide +kernel) rfl (by decide +kernel) rfl (fun q => ?_) (fun q => ?_)
    · replace w := w.1 q
      refine ab_fin.s1i (i := .iconst 0) (k := 1) (pc' := 204) (n := 0) (by decide +kernel) rfl (by decide +kernel) rfl ?_
      refine ab_fin.q_yN (i := .invokevirtual 483) (k := 3) (y := 5936) (As := [.ref 0, rv l3, .int 0]) (rest := []) (M' := (mX23_arguments, [])) (lv2 := [(0, .ref 0), (1, rv l3), (2, .int 0)]) (pc' := 207) (X := K) (by decide +kernel) (ab_cv rfl rfl (conc_get (σ := (σ.wi b1 1 s1)) (F.s s0_0)) ⟨(Nat.le_of_ble_eq_true rfl), (Nat.le_of_ble_eq_true rfl)⟩ rfl) rfl (by rw [lg_cnt]; simp only [List.map_cons, List.map_nil, cI, cL, cR1, cN1, cX1, cA (oR_rv _)]; exact Nat.le_of_ble_eq_true rfl) (by rw [lvA (v := .ref 0) rfl, lvA (oR_rv _), lvI, lvN]) rfl (hY_no fun E => rfl) w (fun τ4 F5 w => ?_)
      refine ab_fin.ald (i := .aload_n 3) (n := 3) (k := 1) (pc' := 208) (Or.inl ⟨_, rfl, rfl, rfl⟩) (by decide +kernel) rfl (oR_rv _) rfl ?_
      exact ab_fin.q_ret (i := .areturn) (k := 1) (v := some (rv l3)) (by decide +kernel) (ret_A (oR_rv _)) F5 w
    · replace w := w.2 q
      refine ab_fin.s2 (i := .aload_n 0) (k := 1) (pc' := 191) (lv' := [(0, .ref 0), (3, rv l3), (4, .int l4), (5, .int l5)]) (st' := [.ref 0, rv l3, .ref 0]) (by decide +kernel) rfl rfl ?_
      refine ab_fin.q_rA (b := 2) (ix := 34) (ci := 24) (k := 1) (pc' := 194) (by decide +kernel) rfl (c_rA (F.s s0_0) rfl (rM_1 F)) rfl ?_
      refine ab_fin.s2 (i := .iload 5) (k := 2) (pc' := 196) (lv' := [(0, .ref 0), (3, rv l3), (4, .int l4), (5, .int l5)]) (st' := [.int l5, .ref 2, rv l3, .ref 0]) (by decide +kernel) rfl rfl ?_
      obtain ⟨e6, w⟩ := w
      refine ab_fin.q_eA (b := (2409 + 3 * l5.toNatClampNeg)) (pc' := 197) (by decide +kernel) (c_eA' (F.s s0_2) (by decide) rfl e6 rfl (rE_5 F s0_2)) rfl ?_
      refine ab_fin.q_rI (x := ((σ.wi b1 1 s1).i (2409 + 3 * l5.toNatClampNeg) 1)) (ix := 303) (ci := 14) (k := 1) (pc' := 200) (by decide +kernel) rfl (c_rI (F.s (kE_2 e6.2)) rfl) rfl ?_
      refine ab_fin.s3 (i := .goto 4) (k := 3) (t := 204) (st' := [.int ((σ.wi b1 1 s1).i (2409 + 3 * l5.toNatClampNeg) 1), rv l3, .ref 0]) (by decide +kernel) (ab_gto (by decide +kernel)) ?_
      refine ab_fin.q_yN (i := .invokevirtual 483) (k := 3) (y := 5936) (As := [.ref 0, rv l3, .int ((σ.wi b1 1 s1).i (2409 + 3 * l5.toNatClampNeg) 1)]) (rest := []) (M' := (mX23_arguments, [])) (lv2 := [(0, .ref 0), (1, rv l3), (2, .int ((σ.wi b1 1 s1).i (2409 + 3 * l5.toNatClampNeg) 1))]) (pc' := 207) (X := K) (by decide +kernel) (ab_cv rfl rfl (conc_get (σ := (σ.wi b1 1 s1)) (F.s s0_0)) ⟨(Nat.le_of_ble_eq_true rfl), (Nat.le_of_ble_eq_true rfl)⟩ rfl) rfl (by rw [lg_cnt]; simp only [List.map_cons, List.map_nil, cI, cL, cR1, cN1, cX1, cA (oR_rv _)]; exact Nat.le_of_ble_eq_true rfl) (by rw [lvA (v := .ref 0) rfl, lvA (oR_rv _), lvI, lvN]) rfl (hY_no fun E => rfl) w (fun τ7 F8 w => ?_)
      refine ab_fin.ald (i := .aload_n 3) (n := 3) (k := 1) (pc' := 208) (Or.inl ⟨_, rfl, rfl, rfl⟩) (by decide +kernel) rfl (oR_rv _) rfl ?_
      exact ab_fin.q_ret (i := .areturn) (k := 1) (v := some (rv l3)) (by decide +kernel) (ret_A (oR_rv _)) F8 w
  · replace w := w.2 q
    refine ab_fin.s1i (i := .iconst 1) (k := 1) (pc' := 182) (n := 1) (by decide +kernel) rfl (by decide +kernel) rfl ?_
    refine ab_fin.s3 (i := .goto 22) (k := 3) (t := 204) (st' := [.int 1, rv l3, .ref 0]) (by decide +kernel) (ab_gto (by decide +kernel)) ?_
    refine ab_fin.q_yN (i := .invokevirtual 483) (k := 3) (y := 5936) (As := [.ref 0, rv l3, .int 1]) (rest := []) (M' := (mX23_arguments, [])) (lv2 := [(0, .ref 0), (1, rv l3), (2, .int 1)]) (pc' := 207) (X := K) (by decide +kernel) (ab_cv rfl rfl (conc_get (σ := (σ.wi b1 1 s1)) (F.s s0_0)) ⟨(Nat.le_of_ble_eq_true rfl), (Nat.le_of_ble_eq_true rfl)⟩ rfl) rfl (by rw [lg_cnt]; simp only [List.map_cons, List.map_nil, cI, cL, cR1, cN1, cX1, cA (oR_rv _)]; exact Nat.le_of_ble_eq_true rfl) (by rw [lvA (v := .ref 0) rfl, lvA (oR_rv _), lvI, lvN]) rfl (hY_no fun E => rfl) w (fun τ9 F10 w => ?_)
    refine ab_fin.ald (i := .aload_n 3) (n := 3) (k := 1) (pc' := 208) (Or.inl ⟨_, rfl, rfl, rfl⟩) (by decide +kernel) rfl (oR_rv _) rfl ?_
    exact ab_fin.q_ret (i := .areturn) (k := 1) (v := some (rv l3)) (by decide +kernel) (ret_A (oR_rv _)) F10 w
theorem S_X23_arguments_0 {Z : zT} {d : Nat} {σ : Sg} {l1 : Rf} {l2 : Int32} {K : kS} (F : FX ΦR σ.sh σ.r) (w : B_X23_next_0 Z d σ  (yN K fun τ1 => (l2 ≤ 0 → B_X23_arguments_25 Z (d + 1) τ1 l1 l2 K) ∧ (¬ l2 ≤ 0 → ∃ b3, l1 = Rf.ptr b3 ∧ (τ1.sh[b3]? = some (Sh.obj 21) ∧ ((¬ (τ1.i b3 4) = l2 → B_X23_arguments_25 Z (d + 1) τ1 (Rf.ptr b3) l2 K) ∧ ((τ1.i b3 4) = l2 → B_X23_breaks_0 Z d τ1 4 (τ1.i 0 18) (yN K fun τ6 => B_X23_arguments_25 Z (d + 1) τ6 (Rf.ptr b3) l2 K))))))) : B_X23_arguments_0 Z (d + 1) σ l1 l2 K := by
  unfold B_X23_arguments_0
  refine ab_fin.s2 (i := .aload_n 0) (k := 1) (pc' := 1) (lv' := [(0, .ref 0), (1, rv l1), (2, .int l2)]) (st' := [.ref 0]) (by decide +kernel) rfl rfl ?_
  refine ab_fin.q_yN (i := .invokevirtual 239) (k := 3) (y := 5902) (As := [.ref 0]) (rest := []) (M' := (mX23_next, [])) (lv2 := [(0, .ref 0)]) (pc' := 4) (X := K) (by decide +kernel) (ab_cv rfl rfl (conc_get (σ := σ) (F.s s0_0)) ⟨(Nat.le_of_ble_eq_true rfl), (Nat.le_of_ble_eq_true rfl)⟩ rfl) rfl (Nat.le_of_ble_eq_true rfl) rfl rfl (hY_no fun E => rfl) w (fun τ1 F2 w => ?_)
  refine ab_fin.s2 (i := .iload_n 2) (k := 1) (pc' := 5) (lv' := [(0, .ref 0), (1, rv l1), (2, .int l2)]) (st' := [.int l2]) (by decide +kernel) rfl rfl ?_
  refine ab_fin.br (c := l2 ≤ 0) (i := .ifCond .le 20) (off := 20) (t := 25) (pc' := 8) (r := []) (by decide +kernel) rfl (by decide +kernel) rfl (fun q => ?_) (fun q => ?_)
  · replace w := w.1 q
    exact ab_fin.lv ⟨(List.forall_mem_cons.mpr ⟨(List.Mem.head _), (List.forall_mem_cons.mpr ⟨(List.Mem.tail _ (List.Mem.head _)), (List.forall_mem_cons.mpr ⟨(List.Mem.tail _ (List.Mem.tail _ (List.Mem.head _))), (fun _ h => absurd h List.not_mem_nil)⟩)⟩)⟩), (show ([0, 1, 2] : List Nat).Nodup from by decide)⟩ w
  · replace w := w.2 q
    refine ab_fin.ald (i := .aload_n 1) (n := 1) (k := 1) (pc' := 9) (Or.inl ⟨_, rfl, rfl, rfl⟩) (by decide +kernel) rfl (oR_rv _) rfl ?_
    obtain ⟨b3, e4, w⟩ := w
    rw [show rv l1 = .ref b3 from by rw [e4]; rfl]
    obtain ⟨e5, w⟩ := w
    refine ab_fin.q_rI (x := (τ1.i b3 4)) (ix := 479) (ci := 21) (k := 4) (pc' := 12) (by decide +kernel) rfl (c_rI e5 rfl) rfl ?_
    refine ab_fin.s2 (i := .iload_n 2) (k := 1) (pc' := 13) (lv' := [(0, .ref 0), (1, .ref b3), (2, .int l2)]) (st' := [.int l2, .int (τ1.i b3 4)]) (by decide +kernel) rfl rfl ?_
    refine ab_fin.br (c := ¬ (τ1.i b3 4) = l2) (i := .if_icmp .ne 12) (off := 12) (t := 25) (pc' := 16) (r := []) (by decide +kernel) rfl (by decide +kernel) rfl (fun q => ?_) (fun q => ?_)
    · replace w := w.1 q
      exact ab_fin.lv ⟨(List.forall_mem_cons.mpr ⟨(List.Mem.head _), (List.forall_mem_cons.mpr ⟨(List.Mem.tail _ (List.Mem.head _)), (List.forall_mem_cons.mpr ⟨(List.Mem.tail _ (List.Mem.tail _ (List.Mem.head _))), (fun _ h => absurd h List.not_mem_nil)⟩)⟩)⟩), (show ([0, 1, 2] : List Nat).Nodup from by decide)⟩ w
    · replace w := w.2 (Decidable.of_not_not q)
      refine ab_fin.s2 (i := .aload_n 0) (k := 1) (pc' := 17) (lv' := [(0, .ref 0), (1, .ref b3), (2, .int l2)]) (st' := [.ref 0]) (by decide +kernel) rfl rfl ?_
      refine ab_fin.s1i (i := .iconst 4) (k := 1) (pc' := 18) (n := 4) (by decide +kernel) rfl (by decide +kernel) rfl ?_
      refine ab_fin.s2 (i := .aload_n 0) (k := 1) (pc' := 19) (lv' := [(0, .ref 0), (1, .ref b3), (2, .int l2)]) (st' := [.ref 0, .int 4, .ref 0]) (by decide +kernel) rfl rfl ?_
      refine ab_fin.q_rI (x := (τ1.i 0 18)) (ix := 106) (ci := 24) (k := 18) (pc' := 22) (by decide +kernel) rfl (c_rI (F2.s s0_0) rfl) rfl ?_
      refine ab_fin.q_yN (i := .invokevirtual 259) (k := 3) (y := 5910) (As := [.ref 0, .int 4, .int (τ1.i 0 18)]) (rest := []) (M' := (mX23_breaks, [])) (lv2 := [(0, .ref 0), (1, .int 4), (2, .int (τ1.i 0 18))]) (pc' := 25) (X := K) (by decide +kernel) (ab_cv rfl rfl (conc_get (σ := τ1) (F2.s s0_0)) ⟨(Nat.le_of_ble_eq_true rfl), (Nat.le_of_ble_eq_true rfl)⟩ rfl) rfl (Nat.le_of_ble_eq_true rfl) rfl rfl (hY_no fun E => rfl) w (fun τ6 F7 w => ?_)
      exact ab_fin.lv ⟨(List.forall_mem_cons.mpr ⟨(List.Mem.head _), (List.forall_mem_cons.mpr ⟨(List.Mem.tail _ (List.Mem.head _)), (List.forall_mem_cons.mpr ⟨(List.Mem.tail _ (List.Mem.tail _ (List.Mem.head _))), (fun _ h => absurd h List.not_mem_nil)⟩)⟩)⟩), (show ([0, 1, 2] : List Nat).Nodup from by decide)⟩ w
theorem S_X23_arguments_25 {Z : zT} {d : Nat} {σ : Sg} {l1 : Rf} {l2 : Int32} {K : kS} (F : FX ΦR σ.sh σ.r) (w : B_X23_e_0 Z d σ  (yW K fun v3 τ1 => ∃ b4, l1 = Rf.ptr b4 ∧ (τ1.sh[b4]? = some (Sh.obj 21) ∧ ((¬ (τ1.i b4 4) = 0 → (¬ (τ1.i b4 4) = 1 → (¬ (τ1.i b4 4) = 2 → B_X23_arguments_74 Z (d + 1) τ1 b4 l2 K) ∧ ((τ1.i b4 4) = 2 → B_X23_arguments_74 Z (d + 1) (τ1.wr b4 7 v3) b4 l2 K)) ∧ ((τ1.i b4 4) = 1 → B_X23_arguments_74 Z (d + 1) (τ1.wr b4 6 v3) b4 l2 K)) ∧ ((τ1.i b4 4) = 0 → B_X23_arguments_74 Z (d + 1) (τ1.wr b4 5 v3) b4 l2 K))))) : B_X23_arguments_25 Z (d + 1) σ l1 l2 K := by
  unfold B_X23_arguments_25
  refine ab_fin.s2 (i := .aload_n 0) (k := 1) (pc' := 26) (lv' := [(0, .ref 0), (1, rv l1), (2, .int l2)]) (st' := [.ref 0]) (by decide +kernel) rfl rfl ?_
  refine ab_fin.q_yW (i := .invokevirtual 372) (k := 3) (y := 5930) (As := [.ref 0]) (rest := []) (M' := (mX23_e, [])) (lv2 := [(0, .ref 0)]) (pc' := 29) (X := K) (by decide +kernel) (ab_cv rfl rfl (conc_get (σ := σ) (F.s s0_0)) ⟨(Nat.le_of_ble_eq_true rfl), (Nat.le_of_ble_eq_true rfl)⟩ rfl) rfl (Nat.le_of_ble_eq_true rfl) rfl rfl (hY_no fun E => rfl) w (fun v3 τ1 F2 w => ?_)
  refine ab_fin.q_stA (i := .astore_n 3) (n := 3) (k := 1) (pc' := 30) (lv' := [(3, rv v3), (0, .ref 0), (1, rv l1), (2, .int l2)]) (Or.inl ⟨_, rfl, rfl, rfl⟩) (by decide +kernel) (by decide) (oR_rv _) rfl rfl ?_
  refine ab_fin.ald (i := .aload_n 1) (n := 1) (k := 1) (pc' := 31) (Or.inl ⟨_, rfl, rfl, rfl⟩) (by decide +kernel) rfl (oR_rv _) rfl ?_
  obtain ⟨b4, e5, w⟩ := w
  rw [show rv l1 = .ref b4 from by rw [e5]; rfl]
  obtain ⟨e6, w⟩ := w
  refine ab_fin.q_rI (x := (τ1.i b4 4)) (ix := 479) (ci := 21) (k := 4) (pc' := 34) (by decide +kernel) rfl (c_rI e6 rfl) rfl ?_
  refine ab_fin.br (c := ¬ (τ1.i b4 4) = 0) (i := .ifCond .ne 11) (off := 11) (t := 45) (pc' := 37) (r := []) (by decide +kernel) rfl (by decide +kernel) rfl (fun q => ?_) (fun q => ?_)
  · replace w := w.1 q
    refine ab_fin.s2 (i := .aload_n 1) (k := 1) (pc' := 46) (lv' := [(3, rv v3), (0, .ref 0), (1, .ref b4), (2, .int l2)]) (st' := [.ref b4]) (by decide +kernel) rfl rfl ?_
    refine ab_fin.q_rI (x := (τ1.i b4 4)) (ix := 479) (ci := 21) (k := 4) (pc' := 49) (by decide +kernel) rfl (c_rI e6 rfl) rfl ?_
    refine ab_fin.s1i (i := .iconst 1) (k := 1) (pc' := 50) (n := 1) (by decide +kernel) rfl (by decide +kernel) rfl ?_
    refine ab_fin.br (c := ¬ (τ1.i b4 4) = 1) (i := .if_icmp .ne 11) (off := 11) (t := 61) (pc' := 53) (r := []) (by decide +kernel) rfl (by decide +kernel) rfl (fun q => ?_) (fun q => ?_)
    · replace w := w.1 q
      refine ab_fin.s2 (i := .aload_n 1) (k := 1) (pc' := 62) (lv' := [(3, rv v3), (0, .ref 0), (1, .ref b4), (2, .int l2)]) (st' := [.ref b4]) (by decide +kernel) rfl rfl ?_
      refine ab_fin.q_rI (x := (τ1.i b4 4)) (ix := 479) (ci := 21) (k := 4) (pc' := 65) (by decide +kernel) rfl (c_rI e6 rfl) rfl ?_
      refine ab_fin.s1i (i := .iconst 2) (k := 1) (pc' := 66) (n := 2) (by decide +kernel) rfl (by decide +kernel) rfl ?_
      refine ab_fin.br (c := ¬ (τ1.i b4 4) = 2) (i := .if_icmp .ne 8) (off := 8) (t := 74) (pc' := 69) (r := []) (by decide +kernel) rfl (by decide +kernel) rfl (fun q => ?_) (fun q => ?_)
      · replace w := w.1 q
        exact ab_fin.lv ⟨(List.forall_mem_cons.mpr ⟨(List.Mem.tail _ (List.Mem.head _)), (List.forall_mem_cons.mpr ⟨(List.Mem.tail _ (List.Mem.tail _ (List.Mem.head _))), (List.forall_mem_cons.mpr ⟨(List.Mem.tail _ (List.Mem.tail _ (List.Mem.tail _ (List.Mem.head _)))), (fun _ h => absurd h List.not_mem_nil)⟩)⟩)⟩), (show ([3, 0, 1, 2] : List Nat).Nodup from by decide)⟩ w
      · replace w := w.2 (Decidable.of_not_not q)
        refine ab_fin.s2 (i := .aload_n 1) (k := 1) (pc' := 70) (lv' := [(3, rv v3), (0, .ref 0), (1, .ref b4), (2, .int l2)]) (st' := [.ref b4]) (by decide +kernel) rfl rfl ?_
        refine ab_fin.ald (i := .aload_n 3) (n := 3) (k := 1) (pc' := 71) (Or.inl ⟨_, rfl, rfl, rfl⟩) (by decide +kernel) rfl (oR_rv _) rfl ?_
        have F7 := FX.w (Φ := ΦR) (a := b4) (k := 7) (v := v3) F2 (cD F2 e6 rfl)
        refine ab_fin.q_pF (ix := 463) (ci := 21) (k := 7) (h1 := conc (τ1.wr b4 7 v3)) (pc' := 74) (by decide +kernel) rfl (c_pR (v := v3) e6 rfl) nRv_n nRv_f rfl ?_
        exact ab_fin.lv ⟨(List.forall_mem_cons.mpr ⟨(List.Mem.tail _ (List.Mem.head _)), (List.forall_mem_cons.mpr ⟨(List.Mem.tail _ (List.Mem.tail _ (List.Mem.head _))), (List.forall_mem_cons.mpr ⟨(List.Mem.tail _ (List.Mem.tail _ (List.Mem.tail _ (List.Mem.head _)))), (fun _ h => absurd h List.not_mem_nil)⟩)⟩)⟩), (show ([3, 0, 1, 2] : List Nat).Nodup from by decide)⟩ w
    · replace w := w.2 (Decidable.of_not_not q)
      refine ab_fin.s2 (i := .aload_n 1) (k := 1) (pc' := 54) (lv' := [(3, rv v3), (0, .ref 0), (1, .ref b4), (2, .int l2)]) (st' := [.ref b4]) (by decide +kernel) rfl rfl ?_
      refine ab_fin.ald (i := .aload_n 3) (n := 3) (k := 1) (pc' := 55) (Or.inl ⟨_, rfl, rfl, rfl⟩) (by decide +kernel) rfl (oR_rv _) rfl ?_
      have F8 := FX.w (Φ := ΦR) (a := b4) (k := 6) (v := v3) F2 (cD F2 e6 rfl)
      refine ab_fin.q_pF (ix := 414) (ci := 21) (k := 6) (h1 := conc (τ1.wr b4 6 v3)) (pc' := 58) (by decide +kernel) rfl (c_pR (v := v3) e6 rfl) nRv_n nRv_f rfl ?_
      refine ab_fin.s3 (i := .goto 16) (k := 3) (t := 74) (st' := []) (by decide +kernel) (ab_gto (by decide +kernel)) ?_
      exact ab_fin.lv ⟨(List.forall_mem_cons.mpr ⟨(List.Mem.tail _ (List.Mem.head _)), (List.forall_mem_cons.mpr ⟨(List.Mem.tail _ (List.Mem.tail _ (List.Mem.head _))), (List.forall_mem_cons.mpr ⟨(List.Mem.tail _ (List.Mem.tail _ (List.Mem.tail _ (List.Mem.head _)))), (fun _ h => absurd h List.not_mem_nil)⟩)⟩)⟩), (show ([3, 0, 1, 2] : List Nat).Nodup from by decide)⟩ w
  · replace w := w.2 (Decidable.of_not_not q)
    refine ab_fin.s2 (i := .aload_n 1) (k := 1) (pc' := 38) (lv' := [(3, rv v3), (0, .ref 0), (1, .ref b4), (2, .int l2)]) (st' := [.ref b4]) (by decide +kernel) rfl rfl ?_
    refine ab_fin.ald (i := .aload_n 3) (n := 3) (k := 1) (pc' := 39) (Or.inl ⟨_, rfl, rfl, rfl⟩) (by decide +kernel) rfl (oR_rv _) rfl ?_
    have F9 := FX.w (Φ := ΦR) (a := b4) (k := 5) (v := v3) F2 (cD F2 e6 rfl)
    refine ab_fin.q_pF (ix := 409) (ci := 21) (k := 5) (h1 := conc (τ1.wr b4 5 v3)) (pc' := 42) (by decide +kernel) rfl (c_pR (v := v3) e6 rfl) nRv_n nRv_f rfl ?_
    refine ab_fin.s3 (i := .goto 32) (k := 3) (t := 74) (st' := []) (by decide +kernel) (ab_gto (by decide +kernel)) ?_
    exact ab_fin.lv ⟨(List.forall_mem_cons.mpr ⟨(List.Mem.tail _ (List.Mem.head _)), (List.forall_mem_cons.mpr ⟨(List.Mem.tail _ (List.Mem.tail _ (List.Mem.head _))), (List.forall_mem_cons.mpr ⟨(List.Mem.tail _ (List.Mem.tail _ (List.Mem.tail _ (List.Mem.head _)))), (fun _ h => absurd h List.not_mem_nil)⟩)⟩)⟩), (show ([3, 0, 1, 2] : List Nat).Nodup from by decide)⟩ w
theorem S_X23_arguments_74 {Z : zT} {d : Nat} {σ : Sg} {l1 : Nat} {l2 : Int32} {K : kS} (F : FX ΦR σ.sh σ.r) (w : σ.sh[l1]? = some (Sh.obj 21) ∧ (B_X23_is_0 Z d (σ.wi l1 4 ((σ.i l1 4) + (1 : Int32))) 44 (yI K fun v4 τ2 => (¬ v4 = 0 → B_X23_arguments_0 Z (d + 1) τ2 (Rf.ptr l1) l2 K) ∧ (v4 = 0 → (l2 ≤ 0 → B_X23_want_0 Z d τ2 41 (yN K fun τ5 => K (.inl none) τ5)) ∧ (¬ l2 ≤ 0 → τ2.sh[l1]? = some (Sh.obj 21) ∧ ((l2 ≤ (τ2.i l1 4) → B_X23_want_0 Z d τ2 41 (yN K fun τ8 => K (.inl none) τ8)) ∧ (¬ l2 ≤ (τ2.i l1 4) → B_X23_breaks_0 Z d τ2 4 (τ2.i 0 18) (yN K fun τ10 => B_X23_want_0 Z d τ10 41 (yN K fun τ12 => K (.inl none) τ12))))))))) : B_X23_arguments_74 Z (d + 1) σ l1 l2 K := by
  unfold B_X23_arguments_74
  refine ab_fin.s2 (i := .aload_n 1) (k := 1) (pc' := 75) (lv' := [(0, .ref 0), (1, .ref l1), (2, .int l2)]) (st' := [.ref l1]) (by decide +kernel) rfl rfl ?_
  refine ab_fin.s1 (i := .dup) (k := 1) (pc' := 76) (st' := [.ref l1, .ref l1]) (by decide +kernel) rfl rfl ?_
  obtain ⟨e1, w⟩ := w
  refine ab_fin.q_rI (x := (σ.i l1 4)) (ix := 479) (ci := 21) (k := 4) (pc' := 79) (by decide +kernel) rfl (c_rI e1 rfl) rfl ?_
  refine ab_fin.s1i (i := .iconst 1) (k := 1) (pc' := 80) (n := 1) (by decide +kernel) rfl (by decide +kernel) rfl ?_
  refine ab_fin.s1 (i := .iadd) (k := 1) (pc' := 81) (st' := [.int ((σ.i l1 4) + (1 : Int32)), .ref l1]) (by decide +kernel) rfl rfl ?_
  refine ab_fin.q_pF (ix := 479) (ci := 21) (k := 4) (h1 := conc (σ.wi l1 4 ((σ.i l1 4) + (1 : Int32)))) (pc' := 84) (by decide +kernel) rfl (c_pI (v := ((σ.i l1 4) + (1 : Int32))) e1 rfl) rfl rfl rfl ?_
  refine ab_fin.s2 (i := .aload_n 0) (k := 1) (pc' := 85) (lv' := [(0, .ref 0), (1, .ref l1), (2, .int l2)]) (st' := [.ref 0]) (by decide +kernel) rfl rfl ?_
  refine ab_fin.s1i (i := .bipush 44) (k := 2) (pc' := 87) (n := 44) (by decide +kernel) rfl (by decide +kernel) rfl ?_
  refine ab_fin.q_yI (i := .invokevirtual 233) (k := 3) (y := 5904) (As := [.ref 0, .int 44]) (rest := []) (M' := (mX23_is, [])) (lv2 := [(0, .ref 0), (1, .int 44)]) (pc' := 90) (X := K) (by decide +kernel) (ab_cv rfl rfl (conc_get (σ := (σ.wi l1 4 ((σ.i l1 4) + (1 : Int32)))) (F.s s0_0)) ⟨(Nat.le_of_ble_eq_true rfl), (Nat.le_of_ble_eq_true rfl)⟩ rfl) rfl (Nat.le_of_ble_eq_true rfl) rfl rfl (hY_no fun E => rfl) w (fun v4 τ2 F3 w => ?_)
  refine ab_fin.br (c := ¬ v4 = 0) (i := .ifCond .ne (-90)) (off := (-90)) (t := 0) (pc' := 93) (r := []) (by decide +kernel) rfl (by decide +kernel) rfl (fun q => ?_) (fun q => ?_)
  · replace w := w.1 q
    exact ab_fin.lv ⟨(List.forall_mem_cons.mpr ⟨(List.Mem.head _), (List.forall_mem_cons.mpr ⟨(List.Mem.tail _ (List.Mem.head _)), (List.forall_mem_cons.mpr ⟨(List.Mem.tail _ (List.Mem.tail _ (List.Mem.head _))), (fun _ h => absurd h List.not_mem_nil)⟩)⟩)⟩), (show ([0, 1, 2] : List Nat).Nodup from by decide)⟩ w
  · replace w := w.2 (Decidable.of_not_not q)
    refine ab_fin.s2 (i := .iload_n 2) (k := 1) (pc' := 94) (lv' := [(0, .ref 0), (1, .ref l1), (2, .int l2)]) (st' := [.int l2]) (by decide +kernel) rfl rfl ?_
    refine ab_fin.br (c := l2 ≤ 0) (i := .ifCond .le 20) (off := 20) (t := 114) (pc' := 97) (r := []) (by decide +kernel) rfl (by decide +kernel) rfl (fun q => ?_) (fun q => ?_)
    · replace w := w.1 q
      refine ab_fin.s2 (i := .aload_n 0) (k := 1) (pc' := 115) (lv' := [(0, .ref 0), (1, .ref l1), (2, .int l2)]) (st' := [.ref 0]) (by decide +kernel) rfl rfl ?_
      refine ab_fin.s1i (i := .bipush 41) (k := 2) (pc' := 117) (n := 41) (by decide +kernel) rfl (by decide +kernel) rfl ?_
      refine ab_fin.q_yN (i := .invokevirtual 293) (k := 3) (y := 5906) (As := [.ref 0, .int 41]) (rest := []) (M' := (mX23_want, [])) (lv2 := [(0, .ref 0), (1, .int 41)]) (pc' := 120) (X := K) (by decide +kernel) (ab_cv rfl rfl (conc_get (σ := τ2) (F3.s s0_0)) ⟨(Nat.le_of_ble_eq_true rfl), (Nat.le_of_ble_eq_true rfl)⟩ rfl) rfl (Nat.le_of_ble_eq_true rfl) rfl rfl (hY_no fun E => rfl) w (fun τ5 F6 w => ?_)
      exact ab_fin.q_ret (i := .return_) (k := 1) (v := none) (by decide +kernel) rfl F6 w
    · replace w := w.2 q
      refine ab_fin.s2 (i := .aload_n 1) (k := 1) (pc' := 98) (lv' := [(0, .ref 0), (1, .ref l1), (2, .int l2)]) (st' := [.ref l1]) (by decide +kernel) rfl rfl ?_
      obtain ⟨e7, w⟩ := w
      refine ab_fin.q_rI (x := (τ2.i l1 4)) (ix := 479) (ci := 21) (k := 4) (pc' := 101) (by decide +kernel) rfl (c_rI e7 rfl) rfl ?_
      refine ab_fin.s2 (i := .iload_n 2) (k := 1) (pc' := 102) (lv' := [(0, .ref 0), (1, .ref l1), (2, .int l2)]) (st' := [.int l2, .int (τ2.i l1 4)]) (by decide +kernel) rfl rfl ?_
      refine ab_fin.br (c := l2 ≤ (τ2.i l1 4)) (i := .if_icmp .ge 12) (off := 12) (t := 114) (pc' := 105) (r := []) (by decide +kernel) rfl (by decide +kernel) rfl (fun q => ?_) (fun q => ?_)
      · replace w := w.1 q
        refine ab_fin.s2 (i := .aload_n 0) (k := 1) (pc' := 115) (lv' := [(0, .ref 0), (1, .ref l1), (2, .int l2)]) (st' := [.ref 0]) (by decide +kernel) rfl rfl ?_
        refine ab_fin.s1i (i := .bipush 41) (k := 2) (pc' := 117) (n := 41) (by decide +kernel) rfl (by decide +kernel) rfl ?_
        refine ab_fin.q_yN (i := .invokevirtual 293) (k := 3) (y := 5906) (As := [.ref 0, .int 41]) (rest := []) (M' := (mX23_want, [])) (lv2 := [(0, .ref 0), (1, .int 41)]) (pc' := 120) (X := K) (by decide +kernel) (ab_cv rfl rfl (conc_get (σ := τ2) (F3.s s0_0)) ⟨(Nat.le_of_ble_eq_true rfl), (Nat.le_of_ble_eq_true rfl)⟩ rfl) rfl (Nat.le_of_ble_eq_true rfl) rfl rfl (hY_no fun E => rfl) w (fun τ8 F9 w => ?_)
        exact ab_fin.q_ret (i := .return_) (k := 1) (v := none) (by decide +kernel) rfl F9 w
      · replace w := w.2 q
        refine ab_fin.s2 (i := .aload_n 0) (k := 1) (pc' := 106) (lv' := [(0, .ref 0), (1, .ref l1), (2, .int l2)]) (st' := [.ref 0]) (by decide +kernel) rfl rfl ?_
        refine ab_fin.s1i (i := .iconst 4) (k := 1) (pc' := 107) (n := 4) (by decide +kernel) rfl (by decide +kernel) rfl ?_
        refine ab_fin.s2 (i := .aload_n 0) (k := 1) (pc' := 108) (lv' := [(0, .ref 0), (1, .ref l1), (2, .int l2)]) (st' := [.ref 0, .int 4, .ref 0]) (by decide +kernel) rfl rfl ?_
        refine ab_fin.q_rI (x := (τ2.i 0 18)) (ix := 106) (ci := 24) (k := 18) (pc' := 111) (by decide +kernel) rfl (c_rI (F3.s s0_0) rfl) rfl ?_
        refine ab_fin.q_yN (i := .invokevirtual 259) (k := 3) (y := 5910) (As := [.ref 0, .int 4, .int (τ2.i 0 18)]) (rest := []) (M' := (mX23_breaks, [])) (lv2 := [(0, .ref 0), (1, .int 4), (2, .int (τ2.i 0 18))]) (pc' := 114) (X := K) (by decide +kernel) (ab_cv rfl rfl (conc_get (σ := τ2) (F3.s s0_0)) ⟨(Nat.le_of_ble_eq_true rfl), (Nat.le_of_ble_eq_true rfl)⟩ rfl) rfl (Nat.le_of_ble_eq_true rfl) rfl rfl (hY_no fun E => rfl) w (fun τ10 F11 w => ?_)
        refine ab_fin.s2 (i := .aload_n 0) (k := 1) (pc' := 115) (lv' := [(0, .ref 0), (1, .ref l1), (2, .int l2)]) (st' := [.ref 0]) (by decide +kernel) rfl rfl ?_
        refine ab_fin.s1i (i := .bipush 41) (k := 2) (pc' := 117) (n := 41) (by decide +kernel) rfl (by decide +kernel) rfl ?_
        refine ab_fin.q_yN (i := .invokevirtual 293) (k := 3) (y := 5906) (As := [.ref 0, .int 41]) (rest := []) (M' := (mX23_want, [])) (lv2 := [(0, .ref 0), (1, .int 41)]) (pc' := 120) (X := K) (by decide +kernel) (ab_cv rfl rfl (conc_get (σ := τ10) (F11.s s0_0)) ⟨(Nat.le_of_ble_eq_true rfl), (Nat.le_of_ble_eq_true rfl)⟩ rfl) rfl (Nat.le_of_ble_eq_true rfl) rfl rfl (hY_no fun E => rfl) w (fun τ12 F13 w => ?_)
        exact ab_fin.q_ret (i := .return_) (k := 1) (v := none) (by decide +kernel) rfl F13 w
theorem S_X23_has_0 {Z : zT} {d : Nat} {σ : Sg} {l0 : Nat} {l1 : Int32} {K : kS} (F : FX ΦR σ.sh σ.r) (w : ∃ n2, σ.sh[l0]? = some (Sh.arr 1 n2) ∧ (ib ((l1 - (1 : Int32)) >>> ((6 : Int32) &&& 31)) n2 ∧ (((lg_cmp (((Int64.toUInt64 (σ.l l0 (((l1 - (1 : Int32)) >>> ((6 : Int32) &&& 31)).toNatClampNeg)) >>> ((Int32.toInt64 (l1 - (1 : Int32))).toUInt64 &&& Int64.toUInt64 63)).toInt64) &&& (1 : Int64)) (0 : Int64)) = 0 → K (.inl (some (.int 0))) σ) ∧ (¬ (lg_cmp (((Int64.toUInt64 (σ.l l0 (((l1 - (1 : Int32)) >>> ((6 : Int32) &&& 31)).toNatClampNeg)) >>> ((Int32.toInt64 (l1 - (1 : Int32))).toUInt64 &&& Int64.toUInt64 63)).toInt64) &&& (1 : Int64)) (0 : Int64)) = 0 → K (.inl (some (.int 1))) σ)))) : B_X23_has_0 Z (d + 1) σ l0 l1 K := by
  unfold B_X23_has_0
  refine ab_fin.s2 (i := .aload_n 0) (k := 1) (pc' := 1) (lv' := [(0, .ref l0), (1, .int l1)]) (st' := [.ref l0]) (by decide +kernel) rfl rfl ?_
  refine ab_fin.s2 (i := .iload_n 1) (k := 1) (pc' := 2) (lv' := [(0, .ref l0), (1, .int l1)]) (st' := [.int l1, .ref l0]) (by decide +kernel) rfl rfl ?_
  refine ab_fin.s1i (i := .iconst 1) (k := 1) (pc' := 3) (n := 1) (by decide +kernel) rfl (by decide +kernel) rfl ?_
  refine ab_fin.s1 (i := .isub) (k := 1) (pc' := 4) (st' := [.int (l1 - (1 : Int32)), .ref l0]) (by decide +kernel) rfl rfl ?_
  refine ab_fin.s1i (i := .bipush 6) (k := 2) (pc' := 6) (n := 6) (by decide +kernel) rfl (by decide +kernel) rfl ?_
  refine ab_fin.s1 (i := .ishr) (k := 1) (pc' := 7) (st' := [.int ((l1 - (1 : Int32)) >>> ((6 : Int32) &&& 31)), .ref l0]) (by decide +kernel) rfl rfl ?_
  obtain ⟨n2, e1, w⟩ := w
  obtain ⟨e3, w⟩ := w
  refine ab_fin.q_eL (x := (σ.l l0 (((l1 - (1 : Int32)) >>> ((6 : Int32) &&& 31)).toNatClampNeg))) (pc' := 8) (by decide +kernel) (c_eL' e1 e3 rfl) rfl ?_
  refine ab_fin.s2 (i := .iload_n 1) (k := 1) (pc' := 9) (lv' := [(0, .ref l0), (1, .int l1)]) (st' := [.int l1, .long (σ.l l0 (((l1 - (1 : Int32)) >>> ((6 : Int32) &&& 31)).toNatClampNeg))]) (by decide +kernel) rfl rfl ?_
  refine ab_fin.s1i (i := .iconst 1) (k := 1) (pc' := 10) (n := 1) (by decide +kernel) rfl (by decide +kernel) rfl ?_
  refine ab_fin.s1 (i := .isub) (k := 1) (pc' := 11) (st' := [.int (l1 - (1 : Int32)), .long (σ.l l0 (((l1 - (1 : Int32)) >>> ((6 : Int32) &&& 31)).toNatClampNeg))]) (by decide +kernel) rfl rfl ?_
  refine ab_fin.s1 (i := .lushr) (k := 1) (pc' := 12) (st' := [.long ((Int64.toUInt64 (σ.l l0 (((l1 - (1 : Int32)) >>> ((6 : Int32) &&& 31)).toNatClampNeg)) >>> ((Int32.toInt64 (l1 - (1 : Int32))).toUInt64 &&& Int64.toUInt64 63)).toInt64)]) (by decide +kernel) rfl rfl ?_
  refine ab_fin.s1l (i := .lconst 1) (k := 1) (pc' := 13) (n := 1) (by decide +kernel) rfl (by decide +kernel) rfl ?_
  refine ab_fin.s1 (i := .land) (k := 1) (pc' := 14) (st' := [.long (((Int64.toUInt64 (σ.l l0 (((l1 - (1 : Int32)) >>> ((6 : Int32) &&& 31)).toNatClampNeg)) >>> ((Int32.toInt64 (l1 - (1 : Int32))).toUInt64 &&& Int64.toUInt64 63)).toInt64) &&& (1 : Int64))]) (by decide +kernel) rfl rfl ?_
  refine ab_fin.s1l (i := .lconst 0) (k := 1) (pc' := 15) (n := 0) (by decide +kernel) rfl (by decide +kernel) rfl ?_
  refine ab_fin.s1 (i := .lcmp) (k := 1) (pc' := 16) (st' := [.int (lg_cmp (((Int64.toUInt64 (σ.l l0 (((l1 - (1 : Int32)) >>> ((6 : Int32) &&& 31)).toNatClampNeg)) >>> ((Int32.toInt64 (l1 - (1 : Int32))).toUInt64 &&& Int64.toUInt64 63)).toInt64) &&& (1 : Int64)) (0 : Int64))]) (by decide +kernel) rfl rfl ?_
  refine ab_fin.br (c := (lg_cmp (((Int64.toUInt64 (σ.l l0 (((l1 - (1 : Int32)) >>> ((6 : Int32) &&& 31)).toNatClampNeg)) >>> ((Int32.toInt64 (l1 - (1 : Int32))).toUInt64 &&& Int64.toUInt64 63)).toInt64) &&& (1 : Int64)) (0 : Int64)) = 0) (i := .ifCond .eq 7) (off := 7) (t := 23) (pc' := 19) (r := []) (by decide +kernel) rfl (by decide +kernel) rfl (fun q => ?_) (fun q => ?_)
  · replace w := w.1 q
    refine ab_fin.s1i (i := .iconst 0) (k := 1) (pc' := 24) (n := 0) (by decide +kernel) rfl (by decide +kernel) rfl ?_
    exact ab_fin.q_ret (i := .ireturn) (k := 1) (v := some (.int 0)) (by decide +kernel) rfl F w
  · replace w := w.2 q
    refine ab_fin.s1i (i := .iconst 1) (k := 1) (pc' := 20) (n := 1) (by decide +kernel) rfl (by decide +kernel) rfl ?_
    refine ab_fin.s3 (i := .goto 4) (k := 3) (t := 24) (st' := [.int 1]) (by decide +kernel) (ab_gto (by decide +kernel)) ?_
    exact ab_fin.q_ret (i := .ireturn) (k := 1) (v := some (.int 1)) (by decide +kernel) rfl F w
theorem S_X23_rebuild_0 {Z : zT} {d : Nat} {σ : Sg}  {K : kS} (F : FX ΦR σ.sh σ.r) (w : B_X23_rebuild_7 Z (d + 1) (σ.wi 0 41 (0 : Int32)) 0 K) : B_X23_rebuild_0 Z (d + 1) σ  K := by
  unfold B_X23_rebuild_0
  refine ab_fin.s2 (i := .aload_n 0) (k := 1) (pc' := 1) (lv' := [(0, .ref 0)]) (st' := [.ref 0]) (by decide +kernel) rfl rfl ?_
  refine ab_fin.s1i (i := .iconst 0) (k := 1) (pc' := 2) (n := 0) (by decide +kernel) rfl (by decide +kernel) rfl ?_
  refine ab_fin.q_pF (ix := 487) (ci := 24) (k := 41) (h1 := conc (σ.wi 0 41 (0 : Int32))) (pc' := 5) (by decide +kernel) rfl (c_pI (v := 0) (F.s s0_0) rfl) rfl rfl rfl ?_
  refine ab_fin.s1i (i := .iconst 0) (k := 1) (pc' := 6) (n := 0) (by decide +kernel) rfl (by decide +kernel) rfl ?_
  refine ab_fin.s2 (i := .istore_n 1) (k := 1) (pc' := 7) (lv' := [(1, .int 0), (0, .ref 0)]) (st' := []) (by decide +kernel) rfl rfl ?_
  exact ab_fin.lv ⟨(List.forall_mem_cons.mpr ⟨(List.Mem.tail _ (List.Mem.head _)), (List.forall_mem_cons.mpr ⟨(List.Mem.head _), (fun _ h => absurd h List.not_mem_nil)⟩)⟩), (show ([1, 0] : List Nat).Nodup from by decide)⟩ w
theorem S_X23_rebuild_7 {Z : zT} {d : Nat} {σ : Sg} {l1 : Int32} {K : kS} (F : FX ΦR σ.sh σ.r) (w : ((σ.i 0 4) ≤ l1 → B_X23_rebuild_88 Z (d + 1) σ 0 K) ∧ (¬ (σ.i 0 4) ≤ l1 → B_X23_rebuild_17 Z (d + 1) σ l1 0 K)) : B_X23_rebuild_7 Z (d + 1) σ l1 K := by
  unfold B_X23_rebuild_7
  refine ab_fin.s2 (i := .iload_n 1) (k := 1) (pc' := 8) (lv' := [(0, .ref 0), (1, .int l1)]) (st' := [.int l1]) (by decide +kernel) rfl rfl ?_
  refine ab_fin.s2 (i := .aload_n 0) (k := 1) (pc' := 9) (lv' := [(0, .ref 0), (1, .int l1)]) (st' := [.ref 0, .int l1]) (by decide +kernel) rfl rfl ?_
  refine ab_fin.q_rI (x := (σ.i 0 4)) (ix := 13) (ci := 24) (k := 4) (pc' := 12) (by decide +kernel) rfl (c_rI (F.s s0_0) rfl) rfl ?_
  refine ab_fin.br (c := (σ.i 0 4) ≤ l1) (i := .if_icmp .ge 74) (off := 74) (t := 86) (pc' := 15) (r := []) (by decide +kernel) rfl (by decide +kernel) rfl (fun q => ?_) (fun q => ?_)
  · replace w := w.1 q
    refine ab_fin.s1i (i := .iconst 0) (k := 1) (pc' := 87) (n := 0) (by decide +kernel) rfl (by decide +kernel) rfl ?_
    refine ab_fin.s2 (i := .istore_n 1) (k := 1) (pc' := 88) (lv' := [(1, .int 0), (0, .ref 0)]) (st' := []) (by decide +kernel) rfl rfl ?_
    exact ab_fin.lv ⟨(List.forall_mem_cons.mpr ⟨(List.Mem.tail _ (List.Mem.head _)), (List.forall_mem_cons.mpr ⟨(List.Mem.head _), (fun _ h => absurd h List.not_mem_nil)⟩)⟩), (show ([1, 0] : List Nat).Nodup from by decide)⟩ w
  · replace w := w.2 q
    refine ab_fin.s1i (i := .iconst 0) (k := 1) (pc' := 16) (n := 0) (by decide +kernel) rfl (by decide +kernel) rfl ?_
    refine ab_fin.s2 (i := .istore_n 2) (k := 1) (pc' := 17) (lv' := [(2, .int 0), (0, .ref 0), (1, .int l1)]) (st' := []) (by decide +kernel) rfl rfl ?_
    exact ab_fin.lv ⟨(List.forall_mem_cons.mpr ⟨(List.Mem.tail _ (List.Mem.head _)), (List.forall_mem_cons.mpr ⟨(List.Mem.tail _ (List.Mem.tail _ (List.Mem.head _))), (List.forall_mem_cons.mpr ⟨(List.Mem.head _), (fun _ h => absurd h List.not_mem_nil)⟩)⟩)⟩), (show ([2, 0, 1] : List Nat).Nodup from by decide)⟩ w
theorem S_X23_rebuild_17 {Z : zT} {d : Nat} {σ : Sg} {l1 : Int32} {l2 : Int32} {K : kS} (F : FX ΦR σ.sh σ.r) (w : ((σ.i 0 4) ≤ l2 → ib l1 24 ∧ (((σ.i (2193 + 9 * l1.toNatClampNeg) 1) = 0 → ib (σ.i 0 41) 24 ∧ (B_X23_rebuild_7 Z (d + 1) ((σ.wi 1932 ((σ.i 0 41).toNatClampNeg) l1).wi 0 41 ((σ.i 0 41) + (1 : Int32))) (l1 + 1) K)) ∧ (¬ (σ.i (2193 + 9 * l1.toNatClampNeg) 1) = 0 → B_X23_rebuild_7 Z (d + 1) σ (l1 + 1) K))) ∧ (¬ (σ.i 0 4) ≤ l2 → ib l1 24 ∧ (B_X23_isBelow_0 Z d σ l1 l2 (yI K fun v6 τ4 => ib l2 24 ∧ (B_X23_rebuild_17 Z (d + 1) (τ4.wi (1880 + 1 + l1.toNatClampNeg) l2.toNatClampNeg (vp_nar .boolean v6)) l1 (l2 + 1) K))))) : B_X23_rebuild_17 Z (d + 1) σ l1 l2 K := by
  unfold B_X23_rebuild_17
  refine ab_fin.s2 (i := .iload_n 2) (k := 1) (pc' := 18) (lv' := [(0, .ref 0), (1, .int l1), (2, .int l2)]) (st' := [.int l2]) (by decide +kernel) rfl rfl ?_
  refine ab_fin.s2 (i := .aload_n 0) (k := 1) (pc' := 19) (lv' := [(0, .ref 0), (1, .int l1), (2, .int l2)]) (st' := [.ref 0, .int l2]) (by decide +kernel) rfl rfl ?_
  refine ab_fin.q_rI (x := (σ.i 0 4)) (ix := 13) (ci := 24) (k := 4) (pc' := 22) (by decide +kernel) rfl (c_rI (F.s s0_0) rfl) rfl ?_
  refine ab_fin.br (c := (σ.i 0 4) ≤ l2) (i := .if_icmp .ge 23) (off := 23) (t := 45) (pc' := 25) (r := []) (by decide +kernel) rfl (by decide +kernel) rfl (fun q => ?_) (fun q => ?_)
  · replace w := w.1 q
    refine ab_fin.s2 (i := .aload_n 0) (k := 1) (pc' := 46) (lv' := [(0, .ref 0), (1, .int l1), (2, .int l2)]) (st' := [.ref 0]) (by decide +kernel) rfl rfl ?_
    refine ab_fin.q_rA (b := 1) (ix := 17) (ci := 24) (k := 0) (pc' := 49) (by decide +kernel) rfl (c_rA (F.s s0_0) rfl (rM_0 F)) rfl ?_
    refine ab_fin.s2 (i := .iload_n 1) (k := 1) (pc' := 50) (lv' := [(0, .ref 0), (1, .int l1), (2, .int l2)]) (st' := [.int l1, .ref 1]) (by decide +kernel) rfl rfl ?_
    obtain ⟨e1, w⟩ := w
    refine ab_fin.q_eA (b := (2193 + 9 * l1.toNatClampNeg)) (pc' := 51) (by decide +kernel) (c_eA' (F.s s0_1) (by decide) rfl e1 rfl (rE_4 F s0_1)) rfl ?_
    refine ab_fin.q_rI (x := (σ.i (2193 + 9 * l1.toNatClampNeg) 1)) (ix := 290) (ci := 18) (k := 1) (pc' := 54) (by decide +kernel) rfl (c_rI (F.s (kE_1 e1.2)) rfl) rfl ?_
    refine ab_fin.br (c := (σ.i (2193 + 9 * l1.toNatClampNeg) 1) = 0) (i := .ifCond .eq 6) (off := 6) (t := 60) (pc' := 57) (r := []) (by decide +kernel) rfl (by decide +kernel) rfl (fun q => ?_) (fun q => ?_)
    · replace w := w.1 q
      refine ab_fin.s2 (i := .aload_n 0) (k := 1) (pc' := 61) (lv' := [(0, .ref 0), (1, .int l1), (2, .int l2)]) (st' := [.ref 0]) (by decide +kernel) rfl rfl ?_
      refine ab_fin.q_rA (b := 1932) (ix := 497) (ci := 24) (k := 40) (pc' := 64) (by decide +kernel) rfl (c_rA (F.s s0_0) rfl (rM_40 F)) rfl ?_
      refine ab_fin.s2 (i := .aload_n 0) (k := 1) (pc' := 65) (lv' := [(0, .ref 0), (1, .int l1), (2, .int l2)]) (st' := [.ref 0, .ref 1932]) (by decide +kernel) rfl rfl ?_
      refine ab_fin.q_rI (x := (σ.i 0 41)) (ix := 487) (ci := 24) (k := 41) (pc' := 68) (by decide +kernel) rfl (c_rI (F.s s0_0) rfl) rfl ?_
      refine ab_fin.s2 (i := .iload_n 1) (k := 1) (pc' := 69) (lv' := [(0, .ref 0), (1, .int l1), (2, .int l2)]) (st' := [.int l1, .int (σ.i 0 41), .ref 1932]) (by decide +kernel) rfl rfl ?_
      obtain ⟨e2, w⟩ := w
      refine ab_fin.q_sI (h1 := conc (σ.wi 1932 ((σ.i 0 41).toNatClampNeg) l1)) (pc' := 70) (by decide +kernel) (c_sI' (F.s s0_1932) e2 rfl) rfl ?_
      refine ab_fin.s2 (i := .aload_n 0) (k := 1) (pc' := 71) (lv' := [(0, .ref 0), (1, .int l1), (2, .int l2)]) (st' := [.ref 0]) (by decide +kernel) rfl rfl ?_
      refine ab_fin.s1 (i := .dup) (k := 1) (pc' := 72) (st' := [.ref 0, .ref 0]) (by decide +kernel) rfl rfl ?_
      refine ab_fin.q_rI (x := (σ.i 0 41)) (ix := 487) (ci := 24) (k := 41) (pc' := 75) (by decide +kernel) rfl (c_rI (F.s s0_0) rfl) rfl ?_
      refine ab_fin.s1i (i := .iconst 1) (k := 1) (pc' := 76) (n := 1) (by decide +kernel) rfl (by decide +kernel) rfl ?_
      refine ab_fin.s1 (i := .iadd) (k := 1) (pc' := 77) (st' := [.int ((σ.i 0 41) + (1 : Int32)), .ref 0]) (by decide +kernel) rfl rfl ?_
      refine ab_fin.q_pF (ix := 487) (ci := 24) (k := 41) (h1 := conc ((σ.wi 1932 ((σ.i 0 41).toNatClampNeg) l1).wi 0 41 ((σ.i 0 41) + (1 : Int32)))) (pc' := 80) (by decide +kernel) rfl (c_pI (v := ((σ.i 0 41) + (1 : Int32))) (F.s s0_0) rfl) rfl rfl rfl ?_
      refine ab_fin.q_inc (n := 1) (c := 1) (pc' := 83) (lv' := [(1, .int (l1 + 1)), (0, .ref 0), (2, .int l2)]) (by decide +kernel) (by decide) rfl rfl rfl rfl ?_
      refine ab_fin.s3 (i := .goto (-76)) (k := 3) (t := 7) (st' := []) (by decide +kernel) (ab_gto (by decide +kernel)) ?_
      exact ab_fin.lv ⟨(List.forall_mem_cons.mpr ⟨(List.Mem.tail _ (List.Mem.head _)), (List.forall_mem_cons.mpr ⟨(List.Mem.head _), (fun _ h => absurd h List.not_mem_nil)⟩)⟩), (show ([1, 0, 2] : List Nat).Nodup from by decide)⟩ w
    · replace w := w.2 q
      refine ab_fin.s3 (i := .goto 23) (k := 3) (t := 80) (st' := []) (by decide +kernel) (ab_gto (by decide +kernel)) ?_
      refine ab_fin.q_inc (n := 1) (c := 1) (pc' := 83) (lv' := [(1, .int (l1 + 1)), (0, .ref 0), (2, .int l2)]) (by decide +kernel) (by decide) rfl rfl rfl rfl ?_
      refine ab_fin.s3 (i := .goto (-76)) (k := 3) (t := 7) (st' := []) (by decide +kernel) (ab_gto (by decide +kernel)) ?_
      exact ab_fin.lv ⟨(List.forall_mem_cons.mpr ⟨(List.Mem.tail _ (List.Mem.head _)), (List.forall_mem_cons.mpr ⟨(List.Mem.head _), (fun _ h => absurd h List.not_mem_nil)⟩)⟩), (show ([1, 0, 2] : List Nat).Nodup from by decide)⟩ w
  · replace w := w.2 q
    refine ab_fin.s2 (i := .aload_n 0) (k := 1) (pc' := 26) (lv' := [(0, .ref 0), (1, .int l1), (2, .int l2)]) (st' := [.ref 0]) (by decide +kernel) rfl rfl ?_
    refine ab_fin.q_rA (b := 1880) (ix := 490) (ci := 24) (k := 36) (pc' := 29) (by decide +kernel) rfl (c_rA (F.s s0_0) rfl (rM_36 F)) rfl ?_
    refine ab_fin.s2 (i := .iload_n 1) (k := 1) (pc' := 30) (lv' := [(0, .ref 0), (1, .int l1), (2, .int l2)]) (st' := [.int l1, .ref 1880]) (by decide +kernel) rfl rfl ?_
    obtain ⟨e3, w⟩ := w
    refine ab_fin.q_eA (b := (1880 + 1 + l1.toNatClampNeg)) (pc' := 31) (by decide +kernel) (c_eA' (F.s s0_1880) (by decide) rfl e3 rfl (rE_12 F s0_1880)) rfl ?_
    refine ab_fin.s2 (i := .iload_n 2) (k := 1) (pc' := 32) (lv' := [(0, .ref 0), (1, .int l1), (2, .int l2)]) (st' := [.int l2, .ref (1880 + 1 + l1.toNatClampNeg)]) (by decide +kernel) rfl rfl ?_
    refine ab_fin.s2 (i := .aload_n 0) (k := 1) (pc' := 33) (lv' := [(0, .ref 0), (1, .int l1), (2, .int l2)]) (st' := [.ref 0, .int l2, .ref (1880 + 1 + l1.toNatClampNeg)]) (by decide +kernel) rfl rfl ?_
    refine ab_fin.s2 (i := .iload_n 1) (k := 1) (pc' := 34) (lv' := [(0, .ref 0), (1, .int l1), (2, .int l2)]) (st' := [.int l1, .ref 0, .int l2, .ref (1880 + 1 + l1.toNatClampNeg)]) (by decide +kernel) rfl rfl ?_
    refine ab_fin.s2 (i := .iload_n 2) (k := 1) (pc' := 35) (lv' := [(0, .ref 0), (1, .int l1), (2, .int l2)]) (st' := [.int l2, .int l1, .ref 0, .int l2, .ref (1880 + 1 + l1.toNatClampNeg)]) (by decide +kernel) rfl rfl ?_
    refine ab_fin.q_yI (i := .invokevirtual 494) (k := 3) (y := 5894) (As := [.ref 0, .int l1, .int l2]) (rest := [.int l2, .ref (1880 + 1 + l1.toNatClampNeg)]) (M' := (mX23_isBelow, [])) (lv2 := [(0, .ref 0), (1, .int l1), (2, .int l2)]) (pc' := 38) (X := K) (by decide +kernel) (ab_cv rfl rfl (conc_get (σ := σ) (F.s s0_0)) ⟨(Nat.le_of_ble_eq_true rfl), (Nat.le_of_ble_eq_true rfl)⟩ rfl) rfl (Nat.le_of_ble_eq_true rfl) rfl rfl (hY_no fun E => rfl) w (fun v6 τ4 F5 w => ?_)
    obtain ⟨e7, w⟩ := w
    refine ab_fin.q_sB (h1 := conc (τ4.wi (1880 + 1 + l1.toNatClampNeg) l2.toNatClampNeg (vp_nar .boolean v6))) (pc' := 39) (by decide +kernel) (c_sB3' (F5.s (kE_1880 e3.2)) e7 rfl) rfl ?_
    refine ab_fin.q_inc (n := 2) (c := 1) (pc' := 42) (lv' := [(2, .int (l2 + 1)), (0, .ref 0), (1, .int l1)]) (by decide +kernel) (by decide) rfl rfl rfl rfl ?_
    refine ab_fin.s3 (i := .goto (-25)) (k := 3) (t := 17) (st' := []) (by decide +kernel) (ab_gto (by decide +kernel)) ?_
    exact ab_fin.lv ⟨(List.forall_mem_cons.mpr ⟨(List.Mem.tail _ (List.Mem.head _)), (List.forall_mem_cons.mpr ⟨(List.Mem.tail _ (List.Mem.tail _ (List.Mem.head _))), (List.forall_mem_cons.mpr ⟨(List.Mem.head _), (fun _ h => absurd h List.not_mem_nil)⟩)⟩)⟩), (show ([2, 0, 1] : List Nat).Nodup from by decide)⟩ w

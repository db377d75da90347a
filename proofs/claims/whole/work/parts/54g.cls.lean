/-! THE CLASS, PIECE BY PIECE (printed by sgen.py), 7 -/
theorem T_X7_readTerm_0 {Z : zT} {d : Nat} {σ : Sg}  {K : kS} (F : FX ΦC σ.sh σ.r) (w : C_X7_sign_0 Z d ((σ.wi 40 11 (0 : Int32)).wl 40 12 (0 : Int64))  (yI K fun v3 τ1 => (v3 = 2 → C_X7_takeKnownName_0 Z d τ1 3 (yI K fun v6 τ4 => C_X7_sign_0 Z d (τ4.wi 40 11 (v6 + (1 : Int32)))  (yI K fun v9 τ7 => (v9 = 9 → C_X7_readTerm_57 Z (d + 1) τ7  K) ∧ (¬ v9 = 9 → C_X7_sign_0 Z d τ7  (yI K fun v12 τ10 => (¬ v12 = 10 → K (.inl none) τ10) ∧ (v12 = 10 → C_X7_readTerm_57 Z (d + 1) τ10  K)))))) ∧ (¬ v3 = 2 → C_X7_takeNumber_0 Z d τ1  (yI K fun v15 τ13 => K (.inl none) (τ13.wl 40 12 ((Int32.toInt64 v15))))))) : C_X7_readTerm_0 Z (d + 1) σ  K := by
  unfold C_X7_readTerm_0
  refine ab_fin.s2 (i := .aload_n 0) (k := 1) (pc' := 1) (lv' := [(0, .ref 40)]) (st' := [.ref 40]) (by decide +kernel) rfl rfl ?_
  refine ab_fin.s1i (i := .iconst 0) (k := 1) (pc' := 2) (n := 0) (by decide +kernel) rfl (by decide +kernel) rfl ?_
  refine ab_fin.q_pF (ix := 256) (ci := 8) (k := 11) (h1 := conc (σ.wi 40 11 (0 : Int32))) (pc' := 5) (by decide +kernel) rfl (c_pI (v := 0) (F.s t0_40) rfl) rfl rfl rfl ?_
  refine ab_fin.s2 (i := .aload_n 0) (k := 1) (pc' := 6) (lv' := [(0, .ref 40)]) (st' := [.ref 40]) (by decide +kernel) rfl rfl ?_
  refine ab_fin.s1l (i := .lconst 0) (k := 1) (pc' := 7) (n := 0) (by decide +kernel) rfl (by decide +kernel) rfl ?_
  refine ab_fin.q_pF (ix := 259) (ci := 8) (k := 12) (h1 := conc ((σ.wi 40 11 (0 : Int32)).wl 40 12 (0 : Int64))) (pc' := 10) (by decide +kernel) rfl (c_pL (v := 0) (F.s t0_40) rfl) rfl rfl rfl ?_
  refine ab_fin.s2 (i := .aload_n 0) (k := 1) (pc' := 11) (lv' := [(0, .ref 40)]) (st' := [.ref 40]) (by decide +kernel) rfl rfl ?_
  refine ab_fin.q_yI (i := .invokevirtual 41) (k := 3) (y := 1798) (As := [.ref 40]) (rest := []) (M' := (mX7_sign, [])) (lv2 := [(0, .ref 40)]) (pc' := 14) (X := K) (by decide +kernel) (ab_cv rfl rfl (conc_get (σ := ((σ.wi 40 11 (0 : Int32)).wl 40 12 (0 : Int64))) (F.s t0_40)) ⟨(Nat.le_of_ble_eq_true rfl), (Nat.le_of_ble_eq_true rfl)⟩ rfl) rfl (Nat.le_of_ble_eq_true rfl) rfl rfl (hY_no fun E => rfl) w (fun v3 τ1 F2 w => ?_)
  refine ab_fin.s1i (i := .iconst 2) (k := 1) (pc' := 15) (n := 2) (by decide +kernel) rfl (by decide +kernel) rfl ?_
  refine ab_fin.br (c := v3 = 2) (i := .if_icmp .eq 13) (off := 13) (t := 28) (pc' := 18) (r := []) (by decide +kernel) rfl (by decide +kernel) rfl (fun q => ?_) (fun q => ?_)
  · replace w := w.1 q
    refine ab_fin.s2 (i := .aload_n 0) (k := 1) (pc' := 29) (lv' := [(0, .ref 40)]) (st' := [.ref 40]) (by decide +kernel) rfl rfl ?_
    refine ab_fin.s2 (i := .aload_n 0) (k := 1) (pc' := 30) (lv' := [(0, .ref 40)]) (st' := [.ref 40, .ref 40]) (by decide +kernel) rfl rfl ?_
    refine ab_fin.s1i (i := .iconst 3) (k := 1) (pc' := 31) (n := 3) (by decide +kernel) rfl (by decide +kernel) rfl ?_
    refine ab_fin.q_yI (i := .invokevirtual 151) (k := 3) (y := 1802) (As := [.ref 40, .int 3]) (rest := [.ref 40]) (M' := (mX7_takeKnownName, [])) (lv2 := [(0, .ref 40), (1, .int 3)]) (pc' := 34) (X := K) (by decide +kernel) (ab_cv rfl rfl (conc_get (σ := τ1) (F2.s t0_40)) ⟨(Nat.le_of_ble_eq_true rfl), (Nat.le_of_ble_eq_true rfl)⟩ rfl) rfl (Nat.le_of_ble_eq_true rfl) rfl rfl (hY_no fun E => rfl) w (fun v6 τ4 F5 w => ?_)
    refine ab_fin.s1i (i := .iconst 1) (k := 1) (pc' := 35) (n := 1) (by decide +kernel) rfl (by decide +kernel) rfl ?_
    refine ab_fin.s1 (i := .iadd) (k := 1) (pc' := 36) (st' := [.int (v6 + (1 : Int32)), .ref 40]) (by decide +kernel) rfl rfl ?_
    refine ab_fin.q_pF (ix := 256) (ci := 8) (k := 11) (h1 := conc (τ4.wi 40 11 (v6 + (1 : Int32)))) (pc' := 39) (by decide +kernel) rfl (c_pI (v := (v6 + (1 : Int32))) (F5.s t0_40) rfl) rfl rfl rfl ?_
    refine ab_fin.s2 (i := .aload_n 0) (k := 1) (pc' := 40) (lv' := [(0, .ref 40)]) (st' := [.ref 40]) (by decide +kernel) rfl rfl ?_
    refine ab_fin.q_yI (i := .invokevirtual 41) (k := 3) (y := 1798) (As := [.ref 40]) (rest := []) (M' := (mX7_sign, [])) (lv2 := [(0, .ref 40)]) (pc' := 43) (X := K) (by decide +kernel) (ab_cv rfl rfl (conc_get (σ := (τ4.wi 40 11 (v6 + (1 : Int32)))) (F5.s t0_40)) ⟨(Nat.le_of_ble_eq_true rfl), (Nat.le_of_ble_eq_true rfl)⟩ rfl) rfl (Nat.le_of_ble_eq_true rfl) rfl rfl (hY_no fun E => rfl) w (fun v9 τ7 F8 w => ?_)
    refine ab_fin.s1i (i := .bipush 9) (k := 2) (pc' := 45) (n := 9) (by decide +kernel) rfl (by decide +kernel) rfl ?_
    refine ab_fin.br (c := v9 = 9) (i := .if_icmp .eq 12) (off := 12) (t := 57) (pc' := 48) (r := []) (by decide +kernel) rfl (by decide +kernel) rfl (fun q => ?_) (fun q => ?_)
    · replace w := w.1 q
      exact ab_fin.lv ⟨(List.forall_mem_cons.mpr ⟨(List.Mem.head _), (fun _ h => absurd h List.not_mem_nil)⟩), (show ([0] : List Nat).Nodup from by decide)⟩ w
    · replace w := w.2 q
      refine ab_fin.s2 (i := .aload_n 0) (k := 1) (pc' := 49) (lv' := [(0, .ref 40)]) (st' := [.ref 40]) (by decide +kernel) rfl rfl ?_
      refine ab_fin.q_yI (i := .invokevirtual 41) (k := 3) (y := 1798) (As := [.ref 40]) (rest := []) (M' := (mX7_sign, [])) (lv2 := [(0, .ref 40)]) (pc' := 52) (X := K) (by decide +kernel) (ab_cv rfl rfl (conc_get (σ := τ7) (F8.s t0_40)) ⟨(Nat.le_of_ble_eq_true rfl), (Nat.le_of_ble_eq_true rfl)⟩ rfl) rfl (Nat.le_of_ble_eq_true rfl) rfl rfl (hY_no fun E => rfl) w (fun v12 τ10 F11 w => ?_)
      refine ab_fin.s1i (i := .bipush 10) (k := 2) (pc' := 54) (n := 10) (by decide +kernel) rfl (by decide +kernel) rfl ?_
      refine ab_fin.br (c := ¬ v12 = 10) (i := .if_icmp .ne 50) (off := 50) (t := 104) (pc' := 57) (r := []) (by decide +kernel) rfl (by decide +kernel) rfl (fun q => ?_) (fun q => ?_)
      · replace w := w.1 q
        exact ab_fin.q_ret (i := .return_) (k := 1) (v := none) (by decide +kernel) rfl F11 w
      · replace w := w.2 (Decidable.of_not_not q)
        exact ab_fin.lv ⟨(List.forall_mem_cons.mpr ⟨(List.Mem.head _), (fun _ h => absurd h List.not_mem_nil)⟩), (show ([0] : List Nat).Nodup from by decide)⟩ w
  · replace w := w.2 q
    refine ab_fin.s2 (i := .aload_n 0) (k := 1) (pc' := 19) (lv' := [(0, .ref 40)]) (st' := [.ref 40]) (by decide +kernel) rfl rfl ?_
    refine ab_fin.s2 (i := .aload_n 0) (k := 1) (pc' := 20) (lv' := [(0, .ref 40)]) (st' := [.ref 40, .ref 40]) (by decide +kernel) rfl rfl ?_
    refine ab_fin.q_yI (i := .invokevirtual 222) (k := 3) (y := 1809) (As := [.ref 40]) (rest := [.ref 40]) (M' := (mX7_takeNumber, [])) (lv2 := [(0, .ref 40)]) (pc' := 23) (X := K) (by decide +kernel) (ab_cv rfl rfl (conc_get (σ := τ1) (F2.s t0_40)) ⟨(Nat.le_of_ble_eq_true rfl), (Nat.le_of_ble_eq_true rfl)⟩ rfl) rfl (Nat.le_of_ble_eq_true rfl) rfl rfl (hY_no fun E => rfl) w (fun v15 τ13 F14 w => ?_)
    refine ab_fin.s1 (i := .i2l) (k := 1) (pc' := 24) (st' := [.long ((Int32.toInt64 v15)), .ref 40]) (by decide +kernel) rfl rfl ?_
    refine ab_fin.q_pF (ix := 259) (ci := 8) (k := 12) (h1 := conc (τ13.wl 40 12 ((Int32.toInt64 v15)))) (pc' := 27) (by decide +kernel) rfl (c_pL (v := ((Int32.toInt64 v15))) (F14.s t0_40) rfl) rfl rfl rfl ?_
    exact ab_fin.q_ret (i := .return_) (k := 1) (v := none) (by decide +kernel) rfl F14 w
theorem T_X7_readTerm_57 {Z : zT} {d : Nat} {σ : Sg}  {K : kS} (F : FX ΦC σ.sh σ.r) (w : C_X7_sign_0 Z d σ  (yI K fun v3 τ1 => (¬ v3 = 9 → C_X7_readTerm_71 Z (d + 1) τ1 (-1) K) ∧ (v3 = 9 → C_X7_readTerm_71 Z (d + 1) τ1 1 K))) : C_X7_readTerm_57 Z (d + 1) σ  K := by
  unfold C_X7_readTerm_57
  refine ab_fin.s2 (i := .aload_n 0) (k := 1) (pc' := 58) (lv' := [(0, .ref 40)]) (st' := [.ref 40]) (by decide +kernel) rfl rfl ?_
  refine ab_fin.q_yI (i := .invokevirtual 41) (k := 3) (y := 1798) (As := [.ref 40]) (rest := []) (M' := (mX7_sign, [])) (lv2 := [(0, .ref 40)]) (pc' := 61) (X := K) (by decide +kernel) (ab_cv rfl rfl (conc_get (σ := σ) (F.s t0_40)) ⟨(Nat.le_of_ble_eq_true rfl), (Nat.le_of_ble_eq_true rfl)⟩ rfl) rfl (Nat.le_of_ble_eq_true rfl) rfl rfl (hY_no fun E => rfl) w (fun v3 τ1 F2 w => ?_)
  refine ab_fin.s1i (i := .bipush 9) (k := 2) (pc' := 63) (n := 9) (by decide +kernel) rfl (by decide +kernel) rfl ?_
  refine ab_fin.br (c := ¬ v3 = 9) (i := .if_icmp .ne 7) (off := 7) (t := 70) (pc' := 66) (r := []) (by decide +kernel) rfl (by decide +kernel) rfl (fun q => ?_) (fun q => ?_)
  · replace w := w.1 q
    refine ab_fin.s1i (i := .iconst (-1)) (k := 1) (pc' := 71) (n := (-1)) (by decide +kernel) rfl (by decide +kernel) rfl ?_
    exact ab_fin.lv ⟨(List.forall_mem_cons.mpr ⟨(List.Mem.head _), (fun _ h => absurd h List.not_mem_nil)⟩), (show ([0] : List Nat).Nodup from by decide)⟩ w
  · replace w := w.2 (Decidable.of_not_not q)
    refine ab_fin.s1i (i := .iconst 1) (k := 1) (pc' := 67) (n := 1) (by decide +kernel) rfl (by decide +kernel) rfl ?_
    refine ab_fin.s3 (i := .goto 4) (k := 3) (t := 71) (st' := [.int 1]) (by decide +kernel) (ab_gto (by decide +kernel)) ?_
    exact ab_fin.lv ⟨(List.forall_mem_cons.mpr ⟨(List.Mem.head _), (fun _ h => absurd h List.not_mem_nil)⟩), (show ([0] : List Nat).Nodup from by decide)⟩ w
theorem T_X7_readTerm_71 {Z : zT} {d : Nat} {σ : Sg} {s0 : Int32} {K : kS} (F : FX ΦC σ.sh σ.r) (w : C_X7_sign_0 Z d σ  (yI K fun v3 τ1 => C_X7_take_0 Z d τ1 v3 (yN K fun τ4 => ∃ b6, (τ4.r 41 2) = Rf.ptr b6 ∧ (∃ n9, τ4.sh[b6]? = some (Sh.arr 1 n9) ∧ (ib (τ4.i 40 3) n9 ∧ (C_X7_take_0 Z d (τ4.wl 40 12 (((Int32.toInt64 s0)) * (τ4.l b6 ((τ4.i 40 3).toNatClampNeg)))) 3 (yN K fun τ11 => K (.inl none) τ11))))))) : C_X7_readTerm_71 Z (d + 1) σ s0 K := by
  unfold C_X7_readTerm_71
  refine ab_fin.s2 (i := .istore_n 1) (k := 1) (pc' := 72) (lv' := [(1, .int s0), (0, .ref 40)]) (st' := []) (by decide +kernel) rfl rfl ?_
  refine ab_fin.s2 (i := .aload_n 0) (k := 1) (pc' := 73) (lv' := [(1, .int s0), (0, .ref 40)]) (st' := [.ref 40]) (by decide +kernel) rfl rfl ?_
  refine ab_fin.s2 (i := .aload_n 0) (k := 1) (pc' := 74) (lv' := [(1, .int s0), (0, .ref 40)]) (st' := [.ref 40, .ref 40]) (by decide +kernel) rfl rfl ?_
  refine ab_fin.q_yI (i := .invokevirtual 41) (k := 3) (y := 1798) (As := [.ref 40]) (rest := [.ref 40]) (M' := (mX7_sign, [])) (lv2 := [(0, .ref 40)]) (pc' := 77) (X := K) (by decide +kernel) (ab_cv rfl rfl (conc_get (σ := σ) (F.s t0_40)) ⟨(Nat.le_of_ble_eq_true rfl), (Nat.le_of_ble_eq_true rfl)⟩ rfl) rfl (Nat.le_of_ble_eq_true rfl) rfl rfl (hY_no fun E => rfl) w (fun v3 τ1 F2 w => ?_)
  refine ab_fin.q_yN (i := .invokevirtual 57) (k := 3) (y := 1799) (As := [.ref 40, .int v3]) (rest := []) (M' := (mX7_take, [])) (lv2 := [(0, .ref 40), (1, .int v3)]) (pc' := 80) (X := K) (by decide +kernel) (ab_cv rfl rfl (conc_get (σ := τ1) (F2.s t0_40)) ⟨(Nat.le_of_ble_eq_true rfl), (Nat.le_of_ble_eq_true rfl)⟩ rfl) rfl (Nat.le_of_ble_eq_true rfl) rfl rfl (hY_no fun E => rfl) w (fun τ4 F5 w => ?_)
  refine ab_fin.s2 (i := .aload_n 0) (k := 1) (pc' := 81) (lv' := [(1, .int s0), (0, .ref 40)]) (st' := [.ref 40]) (by decide +kernel) rfl rfl ?_
  refine ab_fin.s2 (i := .iload_n 1) (k := 1) (pc' := 82) (lv' := [(1, .int s0), (0, .ref 40)]) (st' := [.int s0, .ref 40]) (by decide +kernel) rfl rfl ?_
  refine ab_fin.s1 (i := .i2l) (k := 1) (pc' := 83) (st' := [.long ((Int32.toInt64 s0)), .ref 40]) (by decide +kernel) rfl rfl ?_
  refine ab_fin.s2 (i := .aload_n 0) (k := 1) (pc' := 84) (lv' := [(1, .int s0), (0, .ref 40)]) (st' := [.ref 40, .long ((Int32.toInt64 s0)), .ref 40]) (by decide +kernel) rfl rfl ?_
  refine ab_fin.q_rA (b := 41) (ix := 12) (ci := 8) (k := 1) (pc' := 87) (by decide +kernel) rfl (c_rA (F5.s t0_40) rfl (rC_8_1 F5 t0_40)) rfl ?_
  obtain ⟨b6, e7, w⟩ := w
  refine ab_fin.q_rA (b := b6) (ix := 115) (ci := 9) (k := 2) (pc' := 90) (by decide +kernel) rfl (c_rA (F5.s t0_41) rfl e7) rfl ?_
  refine ab_fin.s2 (i := .aload_n 0) (k := 1) (pc' := 91) (lv' := [(1, .int s0), (0, .ref 40)]) (st' := [.ref 40, .ref b6, .long ((Int32.toInt64 s0)), .ref 40]) (by decide +kernel) rfl rfl ?_
  refine ab_fin.q_rI (x := (τ4.i 40 3)) (ix := 97) (ci := 8) (k := 3) (pc' := 94) (by decide +kernel) rfl (c_rI (F5.s t0_40) rfl) rfl ?_
  obtain ⟨n9, e8, w⟩ := w
  obtain ⟨e10, w⟩ := w
  refine ab_fin.q_eL (x := (τ4.l b6 ((τ4.i 40 3).toNatClampNeg))) (pc' := 95) (by decide +kernel) (c_eL' e8 e10 rfl) rfl ?_
  refine ab_fin.s1 (i := .lmul) (k := 1) (pc' := 96) (st' := [.long (((Int32.toInt64 s0)) * (τ4.l b6 ((τ4.i 40 3).toNatClampNeg))), .ref 40]) (by decide +kernel) rfl rfl ?_
  refine ab_fin.q_pF (ix := 259) (ci := 8) (k := 12) (h1 := conc (τ4.wl 40 12 (((Int32.toInt64 s0)) * (τ4.l b6 ((τ4.i 40 3).toNatClampNeg))))) (pc' := 99) (by decide +kernel) rfl (c_pL (v := (((Int32.toInt64 s0)) * (τ4.l b6 ((τ4.i 40 3).toNatClampNeg)))) (F5.s t0_40) rfl) rfl rfl rfl ?_
  refine ab_fin.s2 (i := .aload_n 0) (k := 1) (pc' := 100) (lv' := [(1, .int s0), (0, .ref 40)]) (st' := [.ref 40]) (by decide +kernel) rfl rfl ?_
  refine ab_fin.s1i (i := .iconst 3) (k := 1) (pc' := 101) (n := 3) (by decide +kernel) rfl (by decide +kernel) rfl ?_
  refine ab_fin.q_yN (i := .invokevirtual 57) (k := 3) (y := 1799) (As := [.ref 40, .int 3]) (rest := []) (M' := (mX7_take, [])) (lv2 := [(0, .ref 40), (1, .int 3)]) (pc' := 104) (X := K) (by decide +kernel) (ab_cv rfl rfl (conc_get (σ := (τ4.wl 40 12 (((Int32.toInt64 s0)) * (τ4.l b6 ((τ4.i 40 3).toNatClampNeg))))) (F5.s t0_40)) ⟨(Nat.le_of_ble_eq_true rfl), (Nat.le_of_ble_eq_true rfl)⟩ rfl) rfl (Nat.le_of_ble_eq_true rfl) rfl rfl (hY_no fun E => rfl) w (fun τ11 F12 w => ?_)
  exact ab_fin.q_ret (i := .return_) (k := 1) (v := none) (by decide +kernel) rfl F12 w
theorem T_X7_readBody_0 {Z : zT} {d : Nat} {σ : Sg} {l1 : Int32} {K : kS} (F : FX ΦC σ.sh σ.r) (w : C_X1_open_0 Z d σ l1 (yN K fun τ1 => C_X7_readE_0 Z d (τ1.wi 40 9 (0 : Int32)) 1 (yN K fun τ3 => C_X1_emit_0 Z d τ3 25 0 (yN K fun τ5 => K (.inl none) τ5)))) : C_X7_readBody_0 Z (d + 1) σ l1 K := by
  unfold C_X7_readBody_0
  refine ab_fin.s2 (i := .aload_n 0) (k := 1) (pc' := 1) (lv' := [(0, .ref 40), (1, .int l1)]) (st' := [.ref 40]) (by decide +kernel) rfl rfl ?_
  refine ab_fin.q_rA (b := 1) (ix := 18) (ci := 8) (k := 0) (pc' := 4) (by decide +kernel) rfl (c_rA (F.s t0_40) rfl (rC_8_0 F t0_40)) rfl ?_
  refine ab_fin.q_rA (b := 24) (ix := 74) (ci := 12) (k := 2) (pc' := 7) (by decide +kernel) rfl (c_rA (F.s t0_1) rfl (rC_12_2 F t0_1)) rfl ?_
  refine ab_fin.s2 (i := .iload_n 1) (k := 1) (pc' := 8) (lv' := [(0, .ref 40), (1, .int l1)]) (st' := [.int l1, .ref 24]) (by decide +kernel) rfl rfl ?_
  refine ab_fin.q_yN (i := .invokevirtual 263) (k := 3) (y := 257) (As := [.ref 24, .int l1]) (rest := []) (M' := (mX1_open, [])) (lv2 := [(0, .ref 24), (1, .int l1)]) (pc' := 11) (X := K) (by decide +kernel) (ab_cv rfl rfl (conc_get (σ := σ) (F.s t0_24)) ⟨(Nat.le_of_ble_eq_true rfl), (Nat.le_of_ble_eq_true rfl)⟩ rfl) rfl (Nat.le_of_ble_eq_true rfl) rfl rfl (hY_no fun E => rfl) w (fun τ1 F2 w => ?_)
  refine ab_fin.s2 (i := .aload_n 0) (k := 1) (pc' := 12) (lv' := [(0, .ref 40), (1, .int l1)]) (st' := [.ref 40]) (by decide +kernel) rfl rfl ?_
  refine ab_fin.s1i (i := .iconst 0) (k := 1) (pc' := 13) (n := 0) (by decide +kernel) rfl (by decide +kernel) rfl ?_
  refine ab_fin.q_pF (ix := 265) (ci := 8) (k := 9) (h1 := conc (τ1.wi 40 9 (0 : Int32))) (pc' := 16) (by decide +kernel) rfl (c_pI (v := 0) (F2.s t0_40) rfl) rfl rfl rfl ?_
  refine ab_fin.s2 (i := .aload_n 0) (k := 1) (pc' := 17) (lv' := [(0, .ref 40), (1, .int l1)]) (st' := [.ref 40]) (by decide +kernel) rfl rfl ?_
  refine ab_fin.s1i (i := .iconst 1) (k := 1) (pc' := 18) (n := 1) (by decide +kernel) rfl (by decide +kernel) rfl ?_
  refine ab_fin.q_yN (i := .invokevirtual 268) (k := 3) (y := 1816) (As := [.ref 40, .int 1]) (rest := []) (M' := (mX7_readE, [])) (lv2 := [(0, .ref 40), (1, .int 1)]) (pc' := 21) (X := K) (by decide +kernel) (ab_cv rfl rfl (conc_get (σ := (τ1.wi 40 9 (0 : Int32))) (F2.s t0_40)) ⟨(Nat.le_of_ble_eq_true rfl), (Nat.le_of_ble_eq_true rfl)⟩ rfl) rfl (Nat.le_of_ble_eq_true rfl) rfl rfl (hY_no fun E => rfl) w (fun τ3 F4 w => ?_)
  refine ab_fin.s2 (i := .aload_n 0) (k := 1) (pc' := 22) (lv' := [(0, .ref 40), (1, .int l1)]) (st' := [.ref 40]) (by decide +kernel) rfl rfl ?_
  refine ab_fin.q_rA (b := 1) (ix := 18) (ci := 8) (k := 0) (pc' := 25) (by decide +kernel) rfl (c_rA (F4.s t0_40) rfl (rC_8_0 F4 t0_40)) rfl ?_
  refine ab_fin.q_rA (b := 24) (ix := 74) (ci := 12) (k := 2) (pc' := 28) (by decide +kernel) rfl (c_rA (F4.s t0_1) rfl (rC_12_2 F4 t0_1)) rfl ?_
  refine ab_fin.s1i (i := .bipush 25) (k := 2) (pc' := 30) (n := 25) (by decide +kernel) rfl (by decide +kernel) rfl ?_
  refine ab_fin.s1i (i := .iconst 0) (k := 1) (pc' := 31) (n := 0) (by decide +kernel) rfl (by decide +kernel) rfl ?_
  refine ab_fin.q_yN (i := .invokevirtual 271) (k := 3) (y := 258) (As := [.ref 24, .int 25, .int 0]) (rest := []) (M' := (mX1_emit, [])) (lv2 := [(0, .ref 24), (1, .int 25), (2, .int 0)]) (pc' := 34) (X := K) (by decide +kernel) (ab_cv rfl rfl (conc_get (σ := τ3) (F4.s t0_24)) ⟨(Nat.le_of_ble_eq_true rfl), (Nat.le_of_ble_eq_true rfl)⟩ rfl) rfl (Nat.le_of_ble_eq_true rfl) rfl rfl (hY_no fun E => rfl) w (fun τ5 F6 w => ?_)
  exact ab_fin.q_ret (i := .return_) (k := 1) (v := none) (by decide +kernel) rfl F6 w
theorem T_X7_addNode_0 {Z : zT} {d : Nat} {σ : Sg} {l1 : Int32} {l2 : Int32} {K : kS} (F : FX ΦC σ.sh σ.r) (w : (((σ.i 40 9) + (1 : Int32)) ≤ 300 → C_X7_addNode_27 Z (d + 1) (σ.wi 40 9 ((σ.i 40 9) + (1 : Int32))) l2 K) ∧ (¬ ((σ.i 40 9) + (1 : Int32)) ≤ 300 → C_X7_breakRule_0 Z d (σ.wi 40 9 ((σ.i 40 9) + (1 : Int32))) 7 l1 (yN K fun τ1 => C_X7_addNode_27 Z (d + 1) τ1 l2 K))) : C_X7_addNode_0 Z (d + 1) σ l1 l2 K := by
  unfold C_X7_addNode_0
  refine ab_fin.s2 (i := .aload_n 0) (k := 1) (pc' := 1) (lv' := [(0, .ref 40), (1, .int l1), (2, .int l2)]) (st' := [.ref 40]) (by decide +kernel) rfl rfl ?_
  refine ab_fin.s1 (i := .dup) (k := 1) (pc' := 2) (st' := [.ref 40, .ref 40]) (by decide +kernel) rfl rfl ?_
  refine ab_fin.q_rI (x := (σ.i 40 9)) (ix := 265) (ci := 8) (k := 9) (pc' := 5) (by decide +kernel) rfl (c_rI (F.s t0_40) rfl) rfl ?_
  refine ab_fin.s1i (i := .iconst 1) (k := 1) (pc' := 6) (n := 1) (by decide +kernel) rfl (by decide +kernel) rfl ?_
  refine ab_fin.s1 (i := .iadd) (k := 1) (pc' := 7) (st' := [.int ((σ.i 40 9) + (1 : Int32)), .ref 40]) (by decide +kernel) rfl rfl ?_
  refine ab_fin.q_pF (ix := 265) (ci := 8) (k := 9) (h1 := conc (σ.wi 40 9 ((σ.i 40 9) + (1 : Int32)))) (pc' := 10) (by decide +kernel) rfl (c_pI (v := ((σ.i 40 9) + (1 : Int32))) (F.s t0_40) rfl) rfl rfl rfl ?_
  refine ab_fin.s2 (i := .aload_n 0) (k := 1) (pc' := 11) (lv' := [(0, .ref 40), (1, .int l1), (2, .int l2)]) (st' := [.ref 40]) (by decide +kernel) rfl rfl ?_
  refine ab_fin.q_rI (x := ((σ.i 40 9) + (1 : Int32))) (ix := 265) (ci := 8) (k := 9) (pc' := 14) (by decide +kernel) rfl (c_rI (F.s t0_40) rfl) rfl ?_
  refine ab_fin.s1i (i := .sipush 300) (k := 3) (pc' := 17) (n := 300) (by decide +kernel) rfl (by decide +kernel) rfl ?_
  refine ab_fin.br (c := ((σ.i 40 9) + (1 : Int32)) ≤ 300) (i := .if_icmp .le 10) (off := 10) (t := 27) (pc' := 20) (r := []) (by decide +kernel) rfl (by decide +kernel) rfl (fun q => ?_) (fun q => ?_)
  · replace w := w.1 q
    exact ab_fin.lv ⟨(List.forall_mem_cons.mpr ⟨(List.Mem.head _), (List.forall_mem_cons.mpr ⟨(List.Mem.tail _ (List.Mem.tail _ (List.Mem.head _))), (fun _ h => absurd h List.not_mem_nil)⟩)⟩), (show ([0, 1, 2] : List Nat).Nodup from by decide)⟩ w
  · replace w := w.2 q
    refine ab_fin.s2 (i := .aload_n 0) (k := 1) (pc' := 21) (lv' := [(0, .ref 40), (1, .int l1), (2, .int l2)]) (st' := [.ref 40]) (by decide +kernel) rfl rfl ?_
    refine ab_fin.s1i (i := .bipush 7) (k := 2) (pc' := 23) (n := 7) (by decide +kernel) rfl (by decide +kernel) rfl ?_
    refine ab_fin.s2 (i := .iload_n 1) (k := 1) (pc' := 24) (lv' := [(0, .ref 40), (1, .int l1), (2, .int l2)]) (st' := [.int l1, .int 7, .ref 40]) (by decide +kernel) rfl rfl ?_
    refine ab_fin.q_yN (i := .invokevirtual 126) (k := 3) (y := 1800) (As := [.ref 40, .int 7, .int l1]) (rest := []) (M' := (mX7_breakRule, [])) (lv2 := [(0, .ref 40), (1, .int 7), (2, .int l1)]) (pc' := 27) (X := K) (by decide +kernel) (ab_cv rfl rfl (conc_get (σ := (σ.wi 40 9 ((σ.i 40 9) + (1 : Int32)))) (F.s t0_40)) ⟨(Nat.le_of_ble_eq_true rfl), (Nat.le_of_ble_eq_true rfl)⟩ rfl) rfl (Nat.le_of_ble_eq_true rfl) rfl rfl (hY_no fun E => rfl) w (fun τ1 F2 w => ?_)
    exact ab_fin.lv ⟨(List.forall_mem_cons.mpr ⟨(List.Mem.head _), (List.forall_mem_cons.mpr ⟨(List.Mem.tail _ (List.Mem.tail _ (List.Mem.head _))), (fun _ h => absurd h List.not_mem_nil)⟩)⟩), (show ([0, 1, 2] : List Nat).Nodup from by decide)⟩ w
theorem T_X7_addNode_27 {Z : zT} {d : Nat} {σ : Sg} {l2 : Int32} {K : kS} (F : FX ΦC σ.sh σ.r) (w : ∃ b1, (σ.r 24 2) = Rf.ptr b1 ∧ (∃ n4, σ.sh[b1]? = some (Sh.arr 0 n4) ∧ (ib l2 n4 ∧ (ib l2 n4 ∧ (K (.inl none) (σ.wi b1 l2.toNatClampNeg ((σ.i b1 l2.toNatClampNeg) + (1 : Int32)))))))) : C_X7_addNode_27 Z (d + 1) σ l2 K := by
  unfold C_X7_addNode_27
  refine ab_fin.s2 (i := .aload_n 0) (k := 1) (pc' := 28) (lv' := [(0, .ref 40), (2, .int l2)]) (st' := [.ref 40]) (by decide +kernel) rfl rfl ?_
  refine ab_fin.q_rA (b := 1) (ix := 18) (ci := 8) (k := 0) (pc' := 31) (by decide +kernel) rfl (c_rA (F.s t0_40) rfl (rC_8_0 F t0_40)) rfl ?_
  refine ab_fin.q_rA (b := 24) (ix := 74) (ci := 12) (k := 2) (pc' := 34) (by decide +kernel) rfl (c_rA (F.s t0_1) rfl (rC_12_2 F t0_1)) rfl ?_
  obtain ⟨b1, e2, w⟩ := w
  refine ab_fin.q_rA (b := b1) (ix := 274) (ci := 2) (k := 2) (pc' := 37) (by decide +kernel) rfl (c_rA (F.s t0_24) rfl e2) rfl ?_
  refine ab_fin.s2 (i := .iload_n 2) (k := 1) (pc' := 38) (lv' := [(0, .ref 40), (2, .int l2)]) (st' := [.int l2, .ref b1]) (by decide +kernel) rfl rfl ?_
  refine ab_fin.s1 (i := .dup2) (k := 1) (pc' := 39) (st' := [.int l2, .ref b1, .int l2, .ref b1]) (by decide +kernel) rfl rfl ?_
  obtain ⟨n4, e3, w⟩ := w
  obtain ⟨e5, w⟩ := w
  refine ab_fin.q_eI (x := (σ.i b1 l2.toNatClampNeg)) (pc' := 40) (by decide +kernel) (c_eI' e3 e5 rfl) rfl ?_
  refine ab_fin.s1i (i := .iconst 1) (k := 1) (pc' := 41) (n := 1) (by decide +kernel) rfl (by decide +kernel) rfl ?_
  refine ab_fin.s1 (i := .iadd) (k := 1) (pc' := 42) (st' := [.int ((σ.i b1 l2.toNatClampNeg) + (1 : Int32)), .int l2, .ref b1]) (by decide +kernel) rfl rfl ?_
  obtain ⟨e6, w⟩ := w
  refine ab_fin.q_sI (h1 := conc (σ.wi b1 l2.toNatClampNeg ((σ.i b1 l2.toNatClampNeg) + (1 : Int32)))) (pc' := 43) (by decide +kernel) (c_sI' e3 e6 rfl) rfl ?_
  exact ab_fin.q_ret (i := .return_) (k := 1) (v := none) (by decide +kernel) rfl F w
theorem T_X7_readE_0 {Z : zT} {d : Nat} {σ : Sg} {l1 : Int32} {K : kS} (F : FX ΦC σ.sh σ.r) (w : (l1 ≤ 12 → C_X7_sign_0 Z d σ  (yI K fun v3 τ1 => (v3 = 29 → C_X7_readIf_0 Z d τ1 l1 (yN K fun τ4 => K (.inl none) τ4)) ∧ (v3 = 42 → C_X7_readLet_0 Z d τ1 l1 (yN K fun τ6 => K (.inl none) τ6)) ∧ (v3 = 45 → C_X7_readWith_0 Z d τ1 l1 (yN K fun τ8 => K (.inl none) τ8)) ∧ (v3 = 46 → C_X7_readWith_0 Z d τ1 l1 (yN K fun τ10 => K (.inl none) τ10)) ∧ (v3 = 48 → C_X7_readTry_0 Z d τ1 l1 (yN K fun τ12 => K (.inl none) τ12)) ∧ (v3 = 50 → C_X7_sign_0 Z d τ1  (yI K fun v16 τ14 => (¬ v16 = 50 → C_X7_readE_172 Z (d + 1) τ14 l1 21 K) ∧ (v16 = 50 → C_X7_readE_172 Z (d + 1) τ14 l1 20 K))) ∧ (v3 = 51 → C_X7_sign_0 Z d τ1  (yI K fun v19 τ17 => (¬ v19 = 50 → C_X7_readE_172 Z (d + 1) τ17 l1 21 K) ∧ (v19 = 50 → C_X7_readE_172 Z (d + 1) τ17 l1 20 K))) ∧ (¬ v3 = 29 → ¬ v3 = 42 → ¬ v3 = 45 → ¬ v3 = 46 → ¬ v3 = 48 → ¬ v3 = 50 → ¬ v3 = 51 → C_X7_readCompared_0 Z d τ1 l1 (yN K fun τ20 => K (.inl none) τ20)))) ∧ (¬ l1 ≤ 12 → C_X7_take_0 Z d σ (-1) (yN K fun τ22 => K (.inl none) τ22))) : C_X7_readE_0 Z (d + 1) σ l1 K := by
  unfold C_X7_readE_0
  refine ab_fin.s2 (i := .iload_n 1) (k := 1) (pc' := 1) (lv' := [(0, .ref 40), (1, .int l1)]) (st' := [.int l1]) (by decide +kernel) rfl rfl ?_
  refine ab_fin.s1i (i := .bipush 12) (k := 2) (pc' := 3) (n := 12) (by decide +kernel) rfl (by decide +kernel) rfl ?_
  refine ab_fin.br (c := l1 ≤ 12) (i := .if_icmp .le 9) (off := 9) (t := 12) (pc' := 6) (r := []) (by decide +kernel) rfl (by decide +kernel) rfl (fun q => ?_) (fun q => ?_)
  · replace w := w.1 q
    refine ab_fin.s2 (i := .aload_n 0) (k := 1) (pc' := 13) (lv' := [(0, .ref 40), (1, .int l1)]) (st' := [.ref 40]) (by decide +kernel) rfl rfl ?_
    refine ab_fin.q_yI (i := .invokevirtual 41) (k := 3) (y := 1798) (As := [.ref 40]) (rest := []) (M' := (mX7_sign, [])) (lv2 := [(0, .ref 40)]) (pc' := 16) (X := K) (by decide +kernel) (ab_cv rfl rfl (conc_get (σ := σ) (F.s t0_40)) ⟨(Nat.le_of_ble_eq_true rfl), (Nat.le_of_ble_eq_true rfl)⟩ rfl) rfl (Nat.le_of_ble_eq_true rfl) rfl rfl (hY_no fun E => rfl) w (fun v3 τ1 F2 w => ?_)
    by_cases q0 : v3 = 29
    · refine ab_fin.s3 (i := .tableswitch 205 29 51 #[116, 205, 205, 205, 205, 205, 205, 205, 205, 205, 205, 205, 205, 108, 205, 205, 124, 124, 205, 132, 205, 140, 140]) (k := 108) (t := 132) (st' := []) (by decide +kernel) (by rw [q0]; exact ab_swI (off := 116) (by decide +kernel) (by decide +kernel) (by decide +kernel)) ?_
      replace w := w.1 q0
      refine ab_fin.s2 (i := .aload_n 0) (k := 1) (pc' := 133) (lv' := [(0, .ref 40), (1, .int l1)]) (st' := [.ref 40]) (by decide +kernel) rfl rfl ?_
      refine ab_fin.s2 (i := .iload_n 1) (k := 1) (pc' := 134) (lv' := [(0, .ref 40), (1, .int l1)]) (st' := [.int l1, .ref 40]) (by decide +kernel) rfl rfl ?_
      refine ab_fin.q_yN (i := .invokevirtual 280) (k := 3) (y := 1819) (As := [.ref 40, .int l1]) (rest := []) (M' := (mX7_readIf, [])) (lv2 := [(0, .ref 40), (1, .int l1)]) (pc' := 137) (X := K) (by decide +kernel) (ab_cv rfl rfl (conc_get (σ := τ1) (F2.s t0_40)) ⟨(Nat.le_of_ble_eq_true rfl), (Nat.le_of_ble_eq_true rfl)⟩ rfl) rfl (Nat.le_of_ble_eq_true rfl) rfl rfl (hY_no fun E => rfl) w (fun τ4 F5 w => ?_)
      refine ab_fin.s3 (i := .goto 89) (k := 3) (t := 226) (st' := []) (by decide +kernel) (ab_gto (by decide +kernel)) ?_
      exact ab_fin.q_ret (i := .return_) (k := 1) (v := none) (by decide +kernel) rfl F5 w
    by_cases q1 : v3 = 42
    · refine ab_fin.s3 (i := .tableswitch 205 29 51 #[116, 205, 205, 205, 205, 205, 205, 205, 205, 205, 205, 205, 205, 108, 205, 205, 124, 124, 205, 132, 205, 140, 140]) (k := 108) (t := 124) (st' := []) (by decide +kernel) (by rw [q1]; exact ab_swI (off := 108) (by decide +kernel) (by decide +kernel) (by decide +kernel)) ?_
      replace w := w.2.1 q1
      refine ab_fin.s2 (i := .aload_n 0) (k := 1) (pc' := 125) (lv' := [(0, .ref 40), (1, .int l1)]) (st' := [.ref 40]) (by decide +kernel) rfl rfl ?_
      refine ab_fin.s2 (i := .iload_n 1) (k := 1) (pc' := 126) (lv' := [(0, .ref 40), (1, .int l1)]) (st' := [.int l1, .ref 40]) (by decide +kernel) rfl rfl ?_
      refine ab_fin.q_yN (i := .invokevirtual 277) (k := 3) (y := 1817) (As := [.ref 40, .int l1]) (rest := []) (M' := (mX7_readLet, [])) (lv2 := [(0, .ref 40), (1, .int l1)]) (pc' := 129) (X := K) (by decide +kernel) (ab_cv rfl rfl (conc_get (σ := τ1) (F2.s t0_40)) ⟨(Nat.le_of_ble_eq_true rfl), (Nat.le_of_ble_eq_true rfl)⟩ rfl) rfl (Nat.le_of_ble_eq_true rfl) rfl rfl (hY_no fun E => rfl) w (fun τ6 F7 w => ?_)
      refine ab_fin.s3 (i := .goto 97) (k := 3) (t := 226) (st' := []) (by decide +kernel) (ab_gto (by decide +kernel)) ?_
      exact ab_fin.q_ret (i := .return_) (k := 1) (v := none) (by decide +kernel) rfl F7 w
    by_cases q2 : v3 = 45
    · refine ab_fin.s3 (i := .tableswitch 205 29 51 #[116, 205, 205, 205, 205, 205, 205, 205, 205, 205, 205, 205, 205, 108, 205, 205, 124, 124, 205, 132, 205, 140, 140]) (k := 108) (t := 140) (st' := []) (by decide +kernel) (by rw [q2]; exact ab_swI (off := 124) (by decide +kernel) (by decide +kernel) (by decide +kernel)) ?_
      replace w := w.2.2.1 q2
      refine ab_fin.s2 (i := .aload_n 0) (k := 1) (pc' := 141) (lv' := [(0, .ref 40), (1, .int l1)]) (st' := [.ref 40]) (by decide +kernel) rfl rfl ?_
      refine ab_fin.s2 (i := .iload_n 1) (k := 1) (pc' := 142) (lv' := [(0, .ref 40), (1, .int l1)]) (st' := [.int l1, .ref 40]) (by decide +kernel) rfl rfl ?_
      refine ab_fin.q_yN (i := .invokevirtual 283) (k := 3) (y := 1820) (As := [.ref 40, .int l1]) (rest := []) (M' := (mX7_readWith, [])) (lv2 := [(0, .ref 40), (1, .int l1)]) (pc' := 145) (X := K) (by decide +kernel) (ab_cv rfl rfl (conc_get (σ := τ1) (F2.s t0_40)) ⟨(Nat.le_of_ble_eq_true rfl), (Nat.le_of_ble_eq_true rfl)⟩ rfl) rfl (Nat.le_of_ble_eq_true rfl) rfl rfl (hY_no fun E => rfl) w (fun τ8 F9 w => ?_)
      refine ab_fin.s3 (i := .goto 81) (k := 3) (t := 226) (st' := []) (by decide +kernel) (ab_gto (by decide +kernel)) ?_
      exact ab_fin.q_ret (i := .return_) (k := 1) (v := none) (by decide +kernel) rfl F9 w
    by_cases q3 : v3 = 46
    · refine ab_fin.s3 (i := .tableswitch 205 29 51 #[116, 205, 205, 205, 205, 205, 205, 205, 205, 205, 205, 205, 205, 108, 205, 205, 124, 124, 205, 132, 205, 140, 140]) (k := 108) (t := 140) (st' := []) (by decide +kernel) (by rw [q3]; exact ab_swI (off := 124) (by decide +kernel) (by decide +kernel) (by decide +kernel)) ?_
      replace w := w.2.2.2.1 q3
      refine ab_fin.s2 (i := .aload_n 0) (k := 1) (pc' := 141) (lv' := [(0, .ref 40), (1, .int l1)]) (st' := [.ref 40]) (by decide +kernel) rfl rfl ?_
      refine ab_fin.s2 (i := .iload_n 1) (k := 1) (pc' := 142) (lv' := [(0, .ref 40), (1, .int l1)]) (st' := [.int l1, .ref 40]) (by decide +kernel) rfl rfl ?_
      refine ab_fin.q_yN (i := .invokevirtual 283) (k := 3) (y := 1820) (As := [.ref 40, .int l1]) (rest := []) (M' := (mX7_readWith, [])) (lv2 := [(0, .ref 40), (1, .int l1)]) (pc' := 145) (X := K) (by decide +kernel) (ab_cv rfl rfl (conc_get (σ := τ1) (F2.s t0_40)) ⟨(Nat.le_of_ble_eq_true rfl), (Nat.le_of_ble_eq_true rfl)⟩ rfl) rfl (Nat.le_of_ble_eq_true rfl) rfl rfl (hY_no fun E => rfl) w (fun τ10 F11 w => ?_)
      refine ab_fin.s3 (i := .goto 81) (k := 3) (t := 226) (st' := []) (by decide +kernel) (ab_gto (by decide +kernel)) ?_
      exact ab_fin.q_ret (i := .return_) (k := 1) (v := none) (by decide +kernel) rfl F11 w
    by_cases q4 : v3 = 48
    · refine ab_fin.s3 (i := .tableswitch 205 29 51 #[116, 205, 205, 205, 205, 205, 205, 205, 205, 205, 205, 205, 205, 108, 205, 205, 124, 124, 205, 132, 205, 140, 140]) (k := 108) (t := 148) (st' := []) (by decide +kernel) (by rw [q4]; exact ab_swI (off := 132) (by decide +kernel) (by decide +kernel) (by decide +kernel)) ?_
      replace w := w.2.2.2.2.1 q4
      refine ab_fin.s2 (i := .aload_n 0) (k := 1) (pc' := 149) (lv' := [(0, .ref 40), (1, .int l1)]) (st' := [.ref 40]) (by decide +kernel) rfl rfl ?_
      refine ab_fin.s2 (i := .iload_n 1) (k := 1) (pc' := 150) (lv' := [(0, .ref 40), (1, .int l1)]) (st' := [.int l1, .ref 40]) (by decide +kernel) rfl rfl ?_
      refine ab_fin.q_yN (i := .invokevirtual 286) (k := 3) (y := 1821) (As := [.ref 40, .int l1]) (rest := []) (M' := (mX7_readTry, [])) (lv2 := [(0, .ref 40), (1, .int l1)]) (pc' := 153) (X := K) (by decide +kernel) (ab_cv rfl rfl (conc_get (σ := τ1) (F2.s t0_40)) ⟨(Nat.le_of_ble_eq_true rfl), (Nat.le_of_ble_eq_true rfl)⟩ rfl) rfl (Nat.le_of_ble_eq_true rfl) rfl rfl (hY_no fun E => rfl) w (fun τ12 F13 w => ?_)
      refine ab_fin.s3 (i := .goto 73) (k := 3) (t := 226) (st' := []) (by decide +kernel) (ab_gto (by decide +kernel)) ?_
      exact ab_fin.q_ret (i := .return_) (k := 1) (v := none) (by decide +kernel) rfl F13 w
    by_cases q5 : v3 = 50
    · refine ab_fin.s3 (i := .tableswitch 205 29 51 #[116, 205, 205, 205, 205, 205, 205, 205, 205, 205, 205, 205, 205, 108, 205, 205, 124, 124, 205, 132, 205, 140, 140]) (k := 108) (t := 156) (st' := []) (by decide +kernel) (by rw [q5]; exact ab_swI (off := 140) (by decide +kernel) (by decide +kernel) (by decide +kernel)) ?_
      replace w := w.2.2.2.2.2.1 q5
      refine ab_fin.s2 (i := .aload_n 0) (k := 1) (pc' := 157) (lv' := [(0, .ref 40), (1, .int l1)]) (st' := [.ref 40]) (by decide +kernel) rfl rfl ?_
      refine ab_fin.q_yI (i := .invokevirtual 41) (k := 3) (y := 1798) (As := [.ref 40]) (rest := []) (M' := (mX7_sign, [])) (lv2 := [(0, .ref 40)]) (pc' := 160) (X := K) (by decide +kernel) (ab_cv rfl rfl (conc_get (σ := τ1) (F2.s t0_40)) ⟨(Nat.le_of_ble_eq_true rfl), (Nat.le_of_ble_eq_true rfl)⟩ rfl) rfl (Nat.le_of_ble_eq_true rfl) rfl rfl (hY_no fun E => rfl) w (fun v16 τ14 F15 w => ?_)
      refine ab_fin.s1i (i := .bipush 50) (k := 2) (pc' := 162) (n := 50) (by decide +kernel) rfl (by decide +kernel) rfl ?_
      refine ab_fin.br (c := ¬ v16 = 50) (i := .if_icmp .ne 8) (off := 8) (t := 170) (pc' := 165) (r := []) (by decide +kernel) rfl (by decide +kernel) rfl (fun q => ?_) (fun q => ?_)
      · replace w := w.1 q
        refine ab_fin.s1i (i := .bipush 21) (k := 2) (pc' := 172) (n := 21) (by decide +kernel) rfl (by decide +kernel) rfl ?_
        exact ab_fin.lv ⟨(List.forall_mem_cons.mpr ⟨(List.Mem.head _), (List.forall_mem_cons.mpr ⟨(List.Mem.tail _ (List.Mem.head _)), (fun _ h => absurd h List.not_mem_nil)⟩)⟩), (show ([0, 1] : List Nat).Nodup from by decide)⟩ w
      · replace w := w.2 (Decidable.of_not_not q)
        refine ab_fin.s1i (i := .bipush 20) (k := 2) (pc' := 167) (n := 20) (by decide +kernel) rfl (by decide +kernel) rfl ?_
        refine ab_fin.s3 (i := .goto 5) (k := 3) (t := 172) (st' := [.int 20]) (by decide +kernel) (ab_gto (by decide +kernel)) ?_
        exact ab_fin.lv ⟨(List.forall_mem_cons.mpr ⟨(List.Mem.head _), (List.forall_mem_cons.mpr ⟨(List.Mem.tail _ (List.Mem.head _)), (fun _ h => absurd h List.not_mem_nil)⟩)⟩), (show ([0, 1] : List Nat).Nodup from by decide)⟩ w
    by_cases q6 : v3 = 51
    · refine ab_fin.s3 (i := .tableswitch 205 29 51 #[116, 205, 205, 205, 205, 205, 205, 205, 205, 205, 205, 205, 205, 108, 205, 205, 124, 124, 205, 132, 205, 140, 140]) (k := 108) (t := 156) (st' := []) (by decide +kernel) (by rw [q6]; exact ab_swI (off := 140) (by decide +kernel) (by decide +kernel) (by decide +kernel)) ?_
      replace w := w.2.2.2.2.2.2.1 q6
      refine ab_fin.s2 (i := .aload_n 0) (k := 1) (pc' := 157) (lv' := [(0, .ref 40), (1, .int l1)]) (st' := [.ref 40]) (by decide +kernel) rfl rfl ?_
      refine ab_fin.q_yI (i := .invokevirtual 41) (k := 3) (y := 1798) (As := [.ref 40]) (rest := []) (M' := (mX7_sign, [])) (lv2 := [(0, .ref 40)]) (pc' := 160) (X := K) (by decide +kernel) (ab_cv rfl rfl (conc_get (σ := τ1) (F2.s t0_40)) ⟨(Nat.le_of_ble_eq_true rfl), (Nat.le_of_ble_eq_true rfl)⟩ rfl) rfl (Nat.le_of_ble_eq_true rfl) rfl rfl (hY_no fun E => rfl) w (fun v19 τ17 F18 w => ?_)
      refine ab_fin.s1i (i := .bipush 50) (k := 2) (pc' := 162) (n := 50) (by decide +kernel) rfl (by decide +kernel) rfl ?_
      refine ab_fin.br (c := ¬ v19 = 50) (i := .if_icmp .ne 8) (off := 8) (t := 170) (pc' := 165) (r := []) (by decide +kernel) rfl (by decide +kernel) rfl (fun q => ?_) (fun q => ?_)
      · replace w := w.1 q
        refine ab_fin.s1i (i := .bipush 21) (k := 2) (pc' := 172) (n := 21) (by decide +kernel) rfl (by decide +kernel) rfl ?_
        exact ab_fin.lv ⟨(List.forall_mem_cons.mpr ⟨(List.Mem.head _), (List.forall_mem_cons.mpr ⟨(List.Mem.tail _ (List.Mem.head _)), (fun _ h => absurd h List.not_mem_nil)⟩)⟩), (show ([0, 1] : List Nat).Nodup from by decide)⟩ w
      · replace w := w.2 (Decidable.of_not_not q)
        refine ab_fin.s1i (i := .bipush 20) (k := 2) (pc' := 167) (n := 20) (by decide +kernel) rfl (by decide +kernel) rfl ?_
        refine ab_fin.s3 (i := .goto 5) (k := 3) (t := 172) (st' := [.int 20]) (by decide +kernel) (ab_gto (by decide +kernel)) ?_
        exact ab_fin.lv ⟨(List.forall_mem_cons.mpr ⟨(List.Mem.head _), (List.forall_mem_cons.mpr ⟨(List.Mem.tail _ (List.Mem.head _)), (fun _ h => absurd h List.not_mem_nil)⟩)⟩), (show ([0, 1] : List Nat).Nodup from by decide)⟩ w
    have hsw : ab_s3 (.tableswitch 205 29 51 #[116, 205, 205, 205, 205, 205, 205, 205, 205, 205, 205, 205, 205, 108, 205, 205, 124, 124, 205, 132, 205, 140, 140]) 108 16 (.int v3 :: []) = some (221, []) := by
      clear w
      by_cases g0 : v3 = 30
      · rw [g0]; exact ab_swI (off := 205) (by decide +kernel) (by decide +kernel) (by decide +kernel)
      by_cases g1 : v3 = 31
      · rw [g1]; exact ab_swI (off := 205) (by decide +kernel) (by decide +kernel) (by decide +kernel)
      by_cases g2 : v3 = 32
      · rw [g2]; exact ab_swI (off := 205) (by decide +kernel) (by decide +kernel) (by decide +kernel)
      by_cases g3 : v3 = 33
      · rw [g3]; exact ab_swI (off := 205) (by decide +kernel) (by decide +kernel) (by decide +kernel)
      by_cases g4 : v3 = 34
      · rw [g4]; exact ab_swI (off := 205) (by decide +kernel) (by decide +kernel) (by decide +kernel)
      by_cases g5 : v3 = 35
      · rw [g5]; exact ab_swI (off := 205) (by decide +kernel) (by decide +kernel) (by decide +kernel)
      by_cases g6 : v3 = 36
      · rw [g6]; exact ab_swI (off := 205) (by decide +kernel) (by decide +kernel) (by decide +kernel)
      by_cases g7 : v3 = 37
      · rw [g7]; exact ab_swI (off := 205) (by decide +kernel) (by decide +kernel) (by decide +kernel)
      by_cases g8 : v3 = 38
      · rw [g8]; exact ab_swI (off := 205) (by decide +kernel) (by decide +kernel) (by decide +kernel)
      by_cases g9 : v3 = 39
      · rw [g9]; exact ab_swI (off := 205) (by decide +kernel) (by decide +kernel) (by decide +kernel)
      by_cases g10 : v3 = 40
      · rw [g10]; exact ab_swI (off := 205) (by decide +kernel) (by decide +kernel) (by decide +kernel)
      by_cases g11 : v3 = 41
      · rw [g11]; exact ab_swI (off := 205) (by decide +kernel) (by decide +kernel) (by decide +kernel)
      by_cases g12 : v3 = 43
      · rw [g12]; exact ab_swI (off := 205) (by decide +kernel) (by decide +kernel) (by decide +kernel)
      by_cases g13 : v3 = 44
      · rw [g13]; exact ab_swI (off := 205) (by decide +kernel) (by decide +kernel) (by decide +kernel)
      by_cases g14 : v3 = 47
      · rw [g14]; exact ab_swI (off := 205) (by decide +kernel) (by decide +kernel) (by decide +kernel)
      by_cases g15 : v3 = 49
      · rw [g15]; exact ab_swI (off := 205) (by decide +kernel) (by decide +kernel) (by decide +kernel)
      have qd : Int32.toInt v3 < 29 ∨ 51 < Int32.toInt v3 := by
        simp only [← Int32.toInt_inj, show (29 : Int32).toInt = 29 from rfl, show (42 : Int32).toInt = 42 from rfl, show (45 : Int32).toInt = 45 from rfl, show (46 : Int32).toInt = 46 from rfl, show (48 : Int32).toInt = 48 from rfl, show (50 : Int32).toInt = 50 from rfl, show (51 : Int32).toInt = 51 from rfl, show (30 : Int32).toInt = 30 from rfl, show (31 : Int32).toInt = 31 from rfl, show (32 : Int32).toInt = 32 from rfl, show (33 : Int32).toInt = 33 from rfl, show (34 : Int32).toInt = 34 from rfl, show (35 : Int32).toInt = 35 from rfl, show (36 : Int32).toInt = 36 from rfl, show (37 : Int32).toInt = 37 from rfl, show (38 : Int32).toInt = 38 from rfl, show (39 : Int32).toInt = 39 from rfl, show (40 : Int32).toInt = 40 from rfl, show (41 : Int32).toInt = 41 from rfl, show (43 : Int32).toInt = 43 from rfl, show (44 : Int32).toInt = 44 from rfl, show (47 : Int32).toInt = 47 from rfl, show (49 : Int32).toInt = 49 from rfl] at q0 q1 q2 q3 q4 q5 q6 g0 g1 g2 g3 g4 g5 g6 g7 g8 g9 g10 g11 g12 g13 g14 g15
        omega
      exact ab_swD qd (by decide +kernel)
    refine ab_fin.s3 (i := .tableswitch 205 29 51 #[116, 205, 205, 205, 205, 205, 205, 205, 205, 205, 205, 205, 205, 108, 205, 205, 124, 124, 205, 132, 205, 140, 140]) (k := 108) (t := 221) (st' := []) (by decide +kernel) hsw ?_
    replace w := w.2.2.2.2.2.2.2 q0 q1 q2 q3 q4 q5 q6
    refine ab_fin.s2 (i := .aload_n 0) (k := 1) (pc' := 222) (lv' := [(0, .ref 40), (1, .int l1)]) (st' := [.ref 40]) (by decide +kernel) rfl rfl ?_
    refine ab_fin.s2 (i := .iload_n 1) (k := 1) (pc' := 223) (lv' := [(0, .ref 40), (1, .int l1)]) (st' := [.int l1, .ref 40]) (by decide +kernel) rfl rfl ?_
    refine ab_fin.q_yN (i := .invokevirtual 292) (k := 3) (y := 1822) (As := [.ref 40, .int l1]) (rest := []) (M' := (mX7_readCompared, [])) (lv2 := [(0, .ref 40), (1, .int l1)]) (pc' := 226) (X := K) (by decide +kernel) (ab_cv rfl rfl (conc_get (σ := τ1) (F2.s t0_40)) ⟨(Nat.le_of_ble_eq_true rfl), (Nat.le_of_ble_eq_true rfl)⟩ rfl) rfl (Nat.le_of_ble_eq_true rfl) rfl rfl (hY_no fun E => rfl) w (fun τ20 F21 w => ?_)
    exact ab_fin.q_ret (i := .return_) (k := 1) (v := none) (by decide +kernel) rfl F21 w
  · replace w := w.2 q
    refine ab_fin.s2 (i := .aload_n 0) (k := 1) (pc' := 7) (lv' := [(0, .ref 40), (1, .int l1)]) (st' := [.ref 40]) (by decide +kernel) rfl rfl ?_
    refine ab_fin.s1i (i := .iconst (-1)) (k := 1) (pc' := 8) (n := (-1)) (by decide +kernel) rfl (by decide +kernel) rfl ?_
    refine ab_fin.q_yN (i := .invokevirtual 57) (k := 3) (y := 1799) (As := [.ref 40, .int (-1)]) (rest := []) (M' := (mX7_take, [])) (lv2 := [(0, .ref 40), (1, .int (-1))]) (pc' := 11) (X := K) (by decide +kernel) (ab_cv rfl rfl (conc_get (σ := σ) (F.s t0_40)) ⟨(Nat.le_of_ble_eq_true rfl), (Nat.le_of_ble_eq_true rfl)⟩ rfl) rfl (Nat.le_of_ble_eq_true rfl) rfl rfl (hY_no fun E => rfl) w (fun τ22 F23 w => ?_)
    exact ab_fin.q_ret (i := .return_) (k := 1) (v := none) (by decide +kernel) rfl F23 w
theorem T_X7_readE_172 {Z : zT} {d : Nat} {σ : Sg} {l1 : Int32} {s0 : Int32} {K : kS} (F : FX ΦC σ.sh σ.r) (w : C_X7_addNode_0 Z d σ (σ.i 40 3) (σ.i 24 3) (yN K fun τ1 => C_X7_sign_0 Z d τ1  (yI K fun v5 τ3 => C_X7_take_0 Z d τ3 v5 (yN K fun τ6 => C_X7_readE_0 Z d τ6 (l1 + (1 : Int32)) (yN K fun τ8 => C_X1_emit_0 Z d τ8 s0 0 (yN K fun τ10 => K (.inl none) τ10)))))) : C_X7_readE_172 Z (d + 1) σ l1 s0 K := by
  unfold C_X7_readE_172
  refine ab_fin.s2 (i := .istore_n 2) (k := 1) (pc' := 173) (lv' := [(2, .int s0), (0, .ref 40), (1, .int l1)]) (st' := []) (by decide +kernel) rfl rfl ?_
  refine ab_fin.s2 (i := .aload_n 0) (k := 1) (pc' := 174) (lv' := [(2, .int s0), (0, .ref 40), (1, .int l1)]) (st' := [.ref 40]) (by decide +kernel) rfl rfl ?_
  refine ab_fin.s2 (i := .aload_n 0) (k := 1) (pc' := 175) (lv' := [(2, .int s0), (0, .ref 40), (1, .int l1)]) (st' := [.ref 40, .ref 40]) (by decide +kernel) rfl rfl ?_
  refine ab_fin.q_rI (x := (σ.i 40 3)) (ix := 97) (ci := 8) (k := 3) (pc' := 178) (by decide +kernel) rfl (c_rI (F.s t0_40) rfl) rfl ?_
  refine ab_fin.s2 (i := .aload_n 0) (k := 1) (pc' := 179) (lv' := [(2, .int s0), (0, .ref 40), (1, .int l1)]) (st' := [.ref 40, .int (σ.i 40 3), .ref 40]) (by decide +kernel) rfl rfl ?_
  refine ab_fin.q_rA (b := 1) (ix := 18) (ci := 8) (k := 0) (pc' := 182) (by decide +kernel) rfl (c_rA (F.s t0_40) rfl (rC_8_0 F t0_40)) rfl ?_
  refine ab_fin.q_rA (b := 24) (ix := 74) (ci := 12) (k := 2) (pc' := 185) (by decide +kernel) rfl (c_rA (F.s t0_1) rfl (rC_12_2 F t0_1)) rfl ?_
  refine ab_fin.q_rI (x := (σ.i 24 3)) (ix := 78) (ci := 2) (k := 3) (pc' := 188) (by decide +kernel) rfl (c_rI (F.s t0_24) rfl) rfl ?_
  refine ab_fin.q_yN (i := .invokevirtual 289) (k := 3) (y := 1815) (As := [.ref 40, .int (σ.i 40 3), .int (σ.i 24 3)]) (rest := []) (M' := (mX7_addNode, [])) (lv2 := [(0, .ref 40), (1, .int (σ.i 40 3)), (2, .int (σ.i 24 3))]) (pc' := 191) (X := K) (by decide +kernel) (ab_cv rfl rfl (conc_get (σ := σ) (F.s t0_40)) ⟨(Nat.le_of_ble_eq_true rfl), (Nat.le_of_ble_eq_true rfl)⟩ rfl) rfl (Nat.le_of_ble_eq_true rfl) rfl rfl (hY_no fun E => rfl) w (fun τ1 F2 w => ?_)
  refine ab_fin.s2 (i := .aload_n 0) (k := 1) (pc' := 192) (lv' := [(2, .int s0), (0, .ref 40), (1, .int l1)]) (st' := [.ref 40]) (by decide +kernel) rfl rfl ?_
  refine ab_fin.s2 (i := .aload_n 0) (k := 1) (pc' := 193) (lv' := [(2, .int s0), (0, .ref 40), (1, .int l1)]) (st' := [.ref 40, .ref 40]) (by decide +kernel) rfl rfl ?_
  refine ab_fin.q_yI (i := .invokevirtual 41) (k := 3) (y := 1798) (As := [.ref 40]) (rest := [.ref 40]) (M' := (mX7_sign, [])) (lv2 := [(0, .ref 40)]) (pc' := 196) (X := K) (by decide +kernel) (ab_cv rfl rfl (conc_get (σ := τ1) (F2.s t0_40)) ⟨(Nat.le_of_ble_eq_true rfl), (Nat.le_of_ble_eq_true rfl)⟩ rfl) rfl (Nat.le_of_ble_eq_true rfl) rfl rfl (hY_no fun E => rfl) w (fun v5 τ3 F4 w => ?_)
  refine ab_fin.q_yN (i := .invokevirtual 57) (k := 3) (y := 1799) (As := [.ref 40, .int v5]) (rest := []) (M' := (mX7_take, [])) (lv2 := [(0, .ref 40), (1, .int v5)]) (pc' := 199) (X := K) (by decide +kernel) (ab_cv rfl rfl (conc_get (σ := τ3) (F4.s t0_40)) ⟨(Nat.le_of_ble_eq_true rfl), (Nat.le_of_ble_eq_true rfl)⟩ rfl) rfl (Nat.le_of_ble_eq_true rfl) rfl rfl (hY_no fun E => rfl) w (fun τ6 F7 w => ?_)
  refine ab_fin.s2 (i := .aload_n 0) (k := 1) (pc' := 200) (lv' := [(2, .int s0), (0, .ref 40), (1, .int l1)]) (st' := [.ref 40]) (by decide +kernel) rfl rfl ?_
  refine ab_fin.s2 (i := .iload_n 1) (k := 1) (pc' := 201) (lv' := [(2, .int s0), (0, .ref 40), (1, .int l1)]) (st' := [.int l1, .ref 40]) (by decide +kernel) rfl rfl ?_
  refine ab_fin.s1i (i := .iconst 1) (k := 1) (pc' := 202) (n := 1) (by decide +kernel) rfl (by decide +kernel) rfl ?_
  refine ab_fin.s1 (i := .iadd) (k := 1) (pc' := 203) (st' := [.int (l1 + (1 : Int32)), .ref 40]) (by decide +kernel) rfl rfl ?_
  refine ab_fin.q_yN (i := .invokevirtual 268) (k := 3) (y := 1816) (As := [.ref 40, .int (l1 + (1 : Int32))]) (rest := []) (M' := (mX7_readE, [])) (lv2 := [(0, .ref 40), (1, .int (l1 + (1 : Int32)))]) (pc' := 206) (X := K) (by decide +kernel) (ab_cv rfl rfl (conc_get (σ := τ6) (F7.s t0_40)) ⟨(Nat.le_of_ble_eq_true rfl), (Nat.le_of_ble_eq_true rfl)⟩ rfl) rfl (Nat.le_of_ble_eq_true rfl) rfl rfl (hY_no fun E => rfl) w (fun τ8 F9 w => ?_)
  refine ab_fin.s2 (i := .aload_n 0) (k := 1) (pc' := 207) (lv' := [(2, .int s0), (0, .ref 40), (1, .int l1)]) (st' := [.ref 40]) (by decide +kernel) rfl rfl ?_
  refine ab_fin.q_rA (b := 1) (ix := 18) (ci := 8) (k := 0) (pc' := 210) (by decide +kernel) rfl (c_rA (F9.s t0_40) rfl (rC_8_0 F9 t0_40)) rfl ?_
  refine ab_fin.q_rA (b := 24) (ix := 74) (ci := 12) (k := 2) (pc' := 213) (by decide +kernel) rfl (c_rA (F9.s t0_1) rfl (rC_12_2 F9 t0_1)) rfl ?_
  refine ab_fin.s2 (i := .iload_n 2) (k := 1) (pc' := 214) (lv' := [(2, .int s0), (0, .ref 40), (1, .int l1)]) (st' := [.int s0, .ref 24]) (by decide +kernel) rfl rfl ?_
  refine ab_fin.s1i (i := .iconst 0) (k := 1) (pc' := 215) (n := 0) (by decide +kernel) rfl (by decide +kernel) rfl ?_
  refine ab_fin.q_yN (i := .invokevirtual 271) (k := 3) (y := 258) (As := [.ref 24, .int s0, .int 0]) (rest := []) (M' := (mX1_emit, [])) (lv2 := [(0, .ref 24), (1, .int s0), (2, .int 0)]) (pc' := 218) (X := K) (by decide +kernel) (ab_cv rfl rfl (conc_get (σ := τ8) (F9.s t0_24)) ⟨(Nat.le_of_ble_eq_true rfl), (Nat.le_of_ble_eq_true rfl)⟩ rfl) rfl (Nat.le_of_ble_eq_true rfl) rfl rfl (hY_no fun E => rfl) w (fun τ10 F11 w => ?_)
  refine ab_fin.s3 (i := .goto 8) (k := 3) (t := 226) (st' := []) (by decide +kernel) (ab_gto (by decide +kernel)) ?_
  exact ab_fin.q_ret (i := .return_) (k := 1) (v := none) (by decide +kernel) rfl F11 w
theorem T_X7_readLet_0 {Z : zT} {d : Nat} {σ : Sg} {l1 : Int32} {K : kS} (F : FX ΦC σ.sh σ.r) (w : C_X7_addNode_0 Z d σ (σ.i 40 3) (σ.i 24 3) (yN K fun τ1 => C_X7_take_0 Z d τ1 42 (yN K fun τ3 => C_X7_take_0 Z d τ3 2 (yN K fun τ5 => C_X7_take_0 Z d τ5 14 (yN K fun τ7 => C_X7_readE_0 Z d τ7 (l1 + (1 : Int32)) (yN K fun τ9 => C_X7_take_0 Z d τ9 43 (yN K fun τ11 => C_X7_readWithVariable_0 Z d τ11 (τ3.i 40 3) l1 (yN K fun τ13 => K (.inl none) τ13)))))))) : C_X7_readLet_0 Z (d + 1) σ l1 K := by
  unfold C_X7_readLet_0
  refine ab_fin.s2 (i := .aload_n 0) (k := 1) (pc' := 1) (lv' := [(0, .ref 40), (1, .int l1)]) (st' := [.ref 40]) (by decide +kernel) rfl rfl ?_
  refine ab_fin.s2 (i := .aload_n 0) (k := 1) (pc' := 2) (lv' := [(0, .ref 40), (1, .int l1)]) (st' := [.ref 40, .ref 40]) (by decide +kernel) rfl rfl ?_
  refine ab_fin.q_rI (x := (σ.i 40 3)) (ix := 97) (ci := 8) (k := 3) (pc' := 5) (by decide +kernel) rfl (c_rI (F.s t0_40) rfl) rfl ?_
  refine ab_fin.s2 (i := .aload_n 0) (k := 1) (pc' := 6) (lv' := [(0, .ref 40), (1, .int l1)]) (st' := [.ref 40, .int (σ.i 40 3), .ref 40]) (by decide +kernel) rfl rfl ?_
  refine ab_fin.q_rA (b := 1) (ix := 18) (ci := 8) (k := 0) (pc' := 9) (by decide +kernel) rfl (c_rA (F.s t0_40) rfl (rC_8_0 F t0_40)) rfl ?_
  refine ab_fin.q_rA (b := 24) (ix := 74) (ci := 12) (k := 2) (pc' := 12) (by decide +kernel) rfl (c_rA (F.s t0_1) rfl (rC_12_2 F t0_1)) rfl ?_
  refine ab_fin.q_rI (x := (σ.i 24 3)) (ix := 78) (ci := 2) (k := 3) (pc' := 15) (by decide +kernel) rfl (c_rI (F.s t0_24) rfl) rfl ?_
  refine ab_fin.q_yN (i := .invokevirtual 289) (k := 3) (y := 1815) (As := [.ref 40, .int (σ.i 40 3), .int (σ.i 24 3)]) (rest := []) (M' := (mX7_addNode, [])) (lv2 := [(0, .ref 40), (1, .int (σ.i 40 3)), (2, .int (σ.i 24 3))]) (pc' := 18) (X := K) (by decide +kernel) (ab_cv rfl rfl (conc_get (σ := σ) (F.s t0_40)) ⟨(Nat.le_of_ble_eq_true rfl), (Nat.le_of_ble_eq_true rfl)⟩ rfl) rfl (Nat.le_of_ble_eq_true rfl) rfl rfl (hY_no fun E => rfl) w (fun τ1 F2 w => ?_)
  refine ab_fin.s2 (i := .aload_n 0) (k := 1) (pc' := 19) (lv' := [(0, .ref 40), (1, .int l1)]) (st' := [.ref 40]) (by decide +kernel) rfl rfl ?_
  refine ab_fin.s1i (i := .bipush 42) (k := 2) (pc' := 21) (n := 42) (by decide +kernel) rfl (by decide +kernel) rfl ?_
  refine ab_fin.q_yN (i := .invokevirtual 57) (k := 3) (y := 1799) (As := [.ref 40, .int 42]) (rest := []) (M' := (mX7_take, [])) (lv2 := [(0, .ref 40), (1, .int 42)]) (pc' := 24) (X := K) (by decide +kernel) (ab_cv rfl rfl (conc_get (σ := τ1) (F2.s t0_40)) ⟨(Nat.le_of_ble_eq_true rfl), (Nat.le_of_ble_eq_true rfl)⟩ rfl) rfl (Nat.le_of_ble_eq_true rfl) rfl rfl (hY_no fun E => rfl) w (fun τ3 F4 w => ?_)
  refine ab_fin.s2 (i := .aload_n 0) (k := 1) (pc' := 25) (lv' := [(0, .ref 40), (1, .int l1)]) (st' := [.ref 40]) (by decide +kernel) rfl rfl ?_
  refine ab_fin.q_rI (x := (τ3.i 40 3)) (ix := 97) (ci := 8) (k := 3) (pc' := 28) (by decide +kernel) rfl (c_rI (F4.s t0_40) rfl) rfl ?_
  refine ab_fin.s2 (i := .istore_n 2) (k := 1) (pc' := 29) (lv' := [(2, .int (τ3.i 40 3)), (0, .ref 40), (1, .int l1)]) (st' := []) (by decide +kernel) rfl rfl ?_
  refine ab_fin.s2 (i := .aload_n 0) (k := 1) (pc' := 30) (lv' := [(2, .int (τ3.i 40 3)), (0, .ref 40), (1, .int l1)]) (st' := [.ref 40]) (by decide +kernel) rfl rfl ?_
  refine ab_fin.s1i (i := .iconst 2) (k := 1) (pc' := 31) (n := 2) (by decide +kernel) rfl (by decide +kernel) rfl ?_
  refine ab_fin.q_yN (i := .invokevirtual 57) (k := 3) (y := 1799) (As := [.ref 40, .int 2]) (rest := []) (M' := (mX7_take, [])) (lv2 := [(0, .ref 40), (1, .int 2)]) (pc' := 34) (X := K) (by decide +kernel) (ab_cv rfl rfl (conc_get (σ := τ3) (F4.s t0_40)) ⟨(Nat.le_of_ble_eq_true rfl), (Nat.le_of_ble_eq_true rfl)⟩ rfl) rfl (Nat.le_of_ble_eq_true rfl) rfl rfl (hY_no fun E => rfl) w (fun τ5 F6 w => ?_)
  refine ab_fin.s2 (i := .aload_n 0) (k := 1) (pc' := 35) (lv' := [(2, .int (τ3.i 40 3)), (0, .ref 40), (1, .int l1)]) (st' := [.ref 40]) (by decide +kernel) rfl rfl ?_
  refine ab_fin.s1i (i := .bipush 14) (k := 2) (pc' := 37) (n := 14) (by decide +kernel) rfl (by decide +kernel) rfl ?_
  refine ab_fin.q_yN (i := .invokevirtual 57) (k := 3) (y := 1799) (As := [.ref 40, .int 14]) (rest := []) (M' := (mX7_take, [])) (lv2 := [(0, .ref 40), (1, .int 14)]) (pc' := 40) (X := K) (by decide +kernel) (ab_cv rfl rfl (conc_get (σ := τ5) (F6.s t0_40)) ⟨(Nat.le_of_ble_eq_true rfl), (Nat.le_of_ble_eq_true rfl)⟩ rfl) rfl (Nat.le_of_ble_eq_true rfl) rfl rfl (hY_no fun E => rfl) w (fun τ7 F8 w => ?_)
  refine ab_fin.s2 (i := .aload_n 0) (k := 1) (pc' := 41) (lv' := [(2, .int (τ3.i 40 3)), (0, .ref 40), (1, .int l1)]) (st' := [.ref 40]) (by decide +kernel) rfl rfl ?_
  refine ab_fin.s2 (i := .iload_n 1) (k := 1) (pc' := 42) (lv' := [(2, .int (τ3.i 40 3)), (0, .ref 40), (1, .int l1)]) (st' := [.int l1, .ref 40]) (by decide +kernel) rfl rfl ?_
  refine ab_fin.s1i (i := .iconst 1) (k := 1) (pc' := 43) (n := 1) (by decide +kernel) rfl (by decide +kernel) rfl ?_
  refine ab_fin.s1 (i := .iadd) (k := 1) (pc' := 44) (st' := [.int (l1 + (1 : Int32)), .ref 40]) (by decide +kernel) rfl rfl ?_
  refine ab_fin.q_yN (i := .invokevirtual 268) (k := 3) (y := 1816) (As := [.ref 40, .int (l1 + (1 : Int32))]) (rest := []) (M' := (mX7_readE, [])) (lv2 := [(0, .ref 40), (1, .int (l1 + (1 : Int32)))]) (pc' := 47) (X := K) (by decide +kernel) (ab_cv rfl rfl (conc_get (σ := τ7) (F8.s t0_40)) ⟨(Nat.le_of_ble_eq_true rfl), (Nat.le_of_ble_eq_true rfl)⟩ rfl) rfl (Nat.le_of_ble_eq_true rfl) rfl rfl (hY_no fun E => rfl) w (fun τ9 F10 w => ?_)
  refine ab_fin.s2 (i := .aload_n 0) (k := 1) (pc' := 48) (lv' := [(2, .int (τ3.i 40 3)), (0, .ref 40), (1, .int l1)]) (st' := [.ref 40]) (by decide +kernel) rfl rfl ?_
  refine ab_fin.s1i (i := .bipush 43) (k := 2) (pc' := 50) (n := 43) (by decide +kernel) rfl (by decide +kernel) rfl ?_
  refine ab_fin.q_yN (i := .invokevirtual 57) (k := 3) (y := 1799) (As := [.ref 40, .int 43]) (rest := []) (M' := (mX7_take, [])) (lv2 := [(0, .ref 40), (1, .int 43)]) (pc' := 53) (X := K) (by decide +kernel) (ab_cv rfl rfl (conc_get (σ := τ9) (F10.s t0_40)) ⟨(Nat.le_of_ble_eq_true rfl), (Nat.le_of_ble_eq_true rfl)⟩ rfl) rfl (Nat.le_of_ble_eq_true rfl) rfl rfl (hY_no fun E => rfl) w (fun τ11 F12 w => ?_)
  refine ab_fin.s2 (i := .aload_n 0) (k := 1) (pc' := 54) (lv' := [(2, .int (τ3.i 40 3)), (0, .ref 40), (1, .int l1)]) (st' := [.ref 40]) (by decide +kernel) rfl rfl ?_
  refine ab_fin.s2 (i := .iload_n 2) (k := 1) (pc' := 55) (lv' := [(2, .int (τ3.i 40 3)), (0, .ref 40), (1, .int l1)]) (st' := [.int (τ3.i 40 3), .ref 40]) (by decide +kernel) rfl rfl ?_
  refine ab_fin.s2 (i := .iload_n 1) (k := 1) (pc' := 56) (lv' := [(2, .int (τ3.i 40 3)), (0, .ref 40), (1, .int l1)]) (st' := [.int l1, .int (τ3.i 40 3), .ref 40]) (by decide +kernel) rfl rfl ?_
  refine ab_fin.q_yN (i := .invokevirtual 295) (k := 3) (y := 1818) (As := [.ref 40, .int (τ3.i 40 3), .int l1]) (rest := []) (M' := (mX7_readWithVariable, [])) (lv2 := [(0, .ref 40), (1, .int (τ3.i 40 3)), (2, .int l1)]) (pc' := 59) (X := K) (by decide +kernel) (ab_cv rfl rfl (conc_get (σ := τ11) (F12.s t0_40)) ⟨(Nat.le_of_ble_eq_true rfl), (Nat.le_of_ble_eq_true rfl)⟩ rfl) rfl (Nat.le_of_ble_eq_true rfl) rfl rfl (hY_no fun E => rfl) w (fun τ13 F14 w => ?_)
  exact ab_fin.q_ret (i := .return_) (k := 1) (v := none) (by decide +kernel) rfl F14 w
theorem T_X7_readWithVariable_0 {Z : zT} {d : Nat} {σ : Sg} {l1 : Int32} {l2 : Int32} {K : kS} (F : FX ΦC σ.sh σ.r) (w : C_X1_emit_0 Z d σ 12 (σ.i 28 3) (yN K fun τ1 => ∃ b3, (τ1.r 41 2) = Rf.ptr b3 ∧ (∃ n6, τ1.sh[b3]? = some (Sh.arr 1 n6) ∧ (ib l1 n6 ∧ (∃ b8, (τ1.r 41 3) = Rf.ptr b8 ∧ (∃ n11, τ1.sh[b8]? = some (Sh.arr 1 n11) ∧ (ib l1 n11 ∧ (C_X11_addName_0 Z d τ1 3 (τ1.l b3 l1.toNatClampNeg) (τ1.l b8 l1.toNatClampNeg) (yN K fun τ13 => C_X7_readE_0 Z d τ13 (l2 + (1 : Int32)) (yN K fun τ15 => K (.inl none) (τ15.wi 28 3 (σ.i 28 3)))))))))))) : C_X7_readWithVariable_0 Z (d + 1) σ l1 l2 K := by
  unfold C_X7_readWithVariable_0
  refine ab_fin.s2 (i := .aload_n 0) (k := 1) (pc' := 1) (lv' := [(0, .ref 40), (1, .int l1), (2, .int l2)]) (st' := [.ref 40]) (by decide +kernel) rfl rfl ?_
  refine ab_fin.q_rA (b := 1) (ix := 18) (ci := 8) (k := 0) (pc' := 4) (by decide +kernel) rfl (c_rA (F.s t0_40) rfl (rC_8_0 F t0_40)) rfl ?_
  refine ab_fin.q_rA (b := 28) (ix := 90) (ci := 12) (k := 3) (pc' := 7) (by decide +kernel) rfl (c_rA (F.s t0_1) rfl (rC_12_3 F t0_1)) rfl ?_
  refine ab_fin.s1i (i := .iconst 3) (k := 1) (pc' := 8) (n := 3) (by decide +kernel) rfl (by decide +kernel) rfl ?_
  refine ab_fin.q_eI (x := (σ.i 28 3)) (pc' := 9) (by decide +kernel) (c_eI' (F.s t0_28) (show ib (3 : Int32) 4 by decide +kernel) (by decide +kernel)) rfl ?_
  refine ab_fin.s2 (i := .istore_n 3) (k := 1) (pc' := 10) (lv' := [(3, .int (σ.i 28 3)), (0, .ref 40), (1, .int l1), (2, .int l2)]) (st' := []) (by decide +kernel) rfl rfl ?_
  refine ab_fin.s2 (i := .aload_n 0) (k := 1) (pc' := 11) (lv' := [(3, .int (σ.i 28 3)), (0, .ref 40), (1, .int l1), (2, .int l2)]) (st' := [.ref 40]) (by decide +kernel) rfl rfl ?_
  refine ab_fin.q_rA (b := 1) (ix := 18) (ci := 8) (k := 0) (pc' := 14) (by decide +kernel) rfl (c_rA (F.s t0_40) rfl (rC_8_0 F t0_40)) rfl ?_
  refine ab_fin.q_rA (b := 24) (ix := 74) (ci := 12) (k := 2) (pc' := 17) (by decide +kernel) rfl (c_rA (F.s t0_1) rfl (rC_12_2 F t0_1)) rfl ?_
  refine ab_fin.s1i (i := .bipush 12) (k := 2) (pc' := 19) (n := 12) (by decide +kernel) rfl (by decide +kernel) rfl ?_
  refine ab_fin.s2 (i := .iload_n 3) (k := 1) (pc' := 20) (lv' := [(3, .int (σ.i 28 3)), (0, .ref 40), (1, .int l1), (2, .int l2)]) (st' := [.int (σ.i 28 3), .int 12, .ref 24]) (by decide +kernel) rfl rfl ?_
  refine ab_fin.q_yN (i := .invokevirtual 271) (k := 3) (y := 258) (As := [.ref 24, .int 12, .int (σ.i 28 3)]) (rest := []) (M' := (mX1_emit, [])) (lv2 := [(0, .ref 24), (1, .int 12), (2, .int (σ.i 28 3))]) (pc' := 23) (X := K) (by decide +kernel) (ab_cv rfl rfl (conc_get (σ := σ) (F.s t0_24)) ⟨(Nat.le_of_ble_eq_true rfl), (Nat.le_of_ble_eq_true rfl)⟩ rfl) rfl (Nat.le_of_ble_eq_true rfl) rfl rfl (hY_no fun E => rfl) w (fun τ1 F2 w => ?_)
  refine ab_fin.s2 (i := .aload_n 0) (k := 1) (pc' := 24) (lv' := [(3, .int (σ.i 28 3)), (0, .ref 40), (1, .int l1), (2, .int l2)]) (st' := [.ref 40]) (by decide +kernel) rfl rfl ?_
  refine ab_fin.q_rA (b := 1) (ix := 18) (ci := 8) (k := 0) (pc' := 27) (by decide +kernel) rfl (c_rA (F2.s t0_40) rfl (rC_8_0 F2 t0_40)) rfl ?_
  refine ab_fin.s1i (i := .iconst 3) (k := 1) (pc' := 28) (n := 3) (by decide +kernel) rfl (by decide +kernel) rfl ?_
  refine ab_fin.s2 (i := .aload_n 0) (k := 1) (pc' := 29) (lv' := [(3, .int (σ.i 28 3)), (0, .ref 40), (1, .int l1), (2, .int l2)]) (st' := [.ref 40, .int 3, .ref 1]) (by decide +kernel) rfl rfl ?_
  refine ab_fin.q_rA (b := 41) (ix := 12) (ci := 8) (k := 1) (pc' := 32) (by decide +kernel) rfl (c_rA (F2.s t0_40) rfl (rC_8_1 F2 t0_40)) rfl ?_
  obtain ⟨b3, e4, w⟩ := w
  refine ab_fin.q_rA (b := b3) (ix := 115) (ci := 9) (k := 2) (pc' := 35) (by decide +kernel) rfl (c_rA (F2.s t0_41) rfl e4) rfl ?_
  refine ab_fin.s2 (i := .iload_n 1) (k := 1) (pc' := 36) (lv' := [(3, .int (σ.i 28 3)), (0, .ref 40), (1, .int l1), (2, .int l2)]) (st' := [.int l1, .ref b3, .int 3, .ref 1]) (by decide +kernel) rfl rfl ?_
  obtain ⟨n6, e5, w⟩ := w
  obtain ⟨e7, w⟩ := w
  refine ab_fin.q_eL (x := (τ1.l b3 l1.toNatClampNeg)) (pc' := 37) (by decide +kernel) (c_eL' e5 e7 rfl) rfl ?_
  refine ab_fin.s2 (i := .aload_n 0) (k := 1) (pc' := 38) (lv' := [(3, .int (σ.i 28 3)), (0, .ref 40), (1, .int l1), (2, .int l2)]) (st' := [.ref 40, .long (τ1.l b3 l1.toNatClampNeg), .int 3, .ref 1]) (by decide +kernel) rfl rfl ?_
  refine ab_fin.q_rA (b := 41) (ix := 12) (ci := 8) (k := 1) (pc' := 41) (by decide +kernel) rfl (c_rA (F2.s t0_40) rfl (rC_8_1 F2 t0_40)) rfl ?_
  obtain ⟨b8, e9, w⟩ := w
  refine ab_fin.q_rA (b := b8) (ix := 119) (ci := 9) (k := 3) (pc' := 44) (by decide +kernel) rfl (c_rA (F2.s t0_41) rfl e9) rfl ?_
  refine ab_fin.s2 (i := .iload_n 1) (k := 1) (pc' := 45) (lv' := [(3, .int (σ.i 28 3)), (0, .ref 40), (1, .int l1), (2, .int l2)]) (st' := [.int l1, .ref b8, .long (τ1.l b3 l1.toNatClampNeg), .int 3, .ref 1]) (by decide +kernel) rfl rfl ?_
  obtain ⟨n11, e10, w⟩ := w
  obtain ⟨e12, w⟩ := w
  refine ab_fin.q_eL (x := (τ1.l b8 l1.toNatClampNeg)) (pc' := 46) (by decide +kernel) (c_eL' e10 e12 rfl) rfl ?_
  refine ab_fin.q_yN (i := .invokevirtual 164) (k := 3) (y := 2821) (As := [.ref 1, .int 3, .long (τ1.l b3 l1.toNatClampNeg), .long (τ1.l b8 l1.toNatClampNeg)]) (rest := []) (M' := (mX11_addName, [])) (lv2 := [(0, .ref 1), (1, .int 3), (2, .long (τ1.l b3 l1.toNatClampNeg)), (4, .long (τ1.l b8 l1.toNatClampNeg))]) (pc' := 49) (X := K) (by decide +kernel) (ab_cv rfl rfl (conc_get (σ := τ1) (F2.s t0_1)) ⟨(Nat.le_of_ble_eq_true rfl), (Nat.le_of_ble_eq_true rfl)⟩ rfl) rfl (Nat.le_of_ble_eq_true rfl) rfl rfl (hY_no fun E => rfl) w (fun τ13 F14 w => ?_)
  refine ab_fin.s2 (i := .aload_n 0) (k := 1) (pc' := 50) (lv' := [(3, .int (σ.i 28 3)), (0, .ref 40), (1, .int l1), (2, .int l2)]) (st' := [.ref 40]) (by decide +kernel) rfl rfl ?_
  refine ab_fin.s2 (i := .iload_n 2) (k := 1) (pc' := 51) (lv' := [(3, .int (σ.i 28 3)), (0, .ref 40), (1, .int l1), (2, .int l2)]) (st' := [.int l2, .ref 40]) (by decide +kernel) rfl rfl ?_
  refine ab_fin.s1i (i := .iconst 1) (k := 1) (pc' := 52) (n := 1) (by decide +kernel) rfl (by decide +kernel) rfl ?_
  refine ab_fin.s1 (i := .iadd) (k := 1) (pc' := 53) (st' := [.int (l2 + (1 : Int32)), .ref 40]) (by decide +kernel) rfl rfl ?_
  refine ab_fin.q_yN (i := .invokevirtual 268) (k := 3) (y := 1816) (As := [.ref 40, .int (l2 + (1 : Int32))]) (rest := []) (M' := (mX7_readE, [])) (lv2 := [(0, .ref 40), (1, .int (l2 + (1 : Int32)))]) (pc' := 56) (X := K) (by decide +kernel) (ab_cv rfl rfl (conc_get (σ := τ13) (F14.s t0_40)) ⟨(Nat.le_of_ble_eq_true rfl), (Nat.le_of_ble_eq_true rfl)⟩ rfl) rfl (Nat.le_of_ble_eq_true rfl) rfl rfl (hY_no fun E => rfl) w (fun τ15 F16 w => ?_)
  refine ab_fin.s2 (i := .aload_n 0) (k := 1) (pc' := 57) (lv' := [(3, .int (σ.i 28 3)), (0, .ref 40), (1, .int l1), (2, .int l2)]) (st' := [.ref 40]) (by decide +kernel) rfl rfl ?_
  refine ab_fin.q_rA (b := 1) (ix := 18) (ci := 8) (k := 0) (pc' := 60) (by decide +kernel) rfl (c_rA (F16.s t0_40) rfl (rC_8_0 F16 t0_40)) rfl ?_
  refine ab_fin.q_rA (b := 28) (ix := 90) (ci := 12) (k := 3) (pc' := 63) (by decide +kernel) rfl (c_rA (F16.s t0_1) rfl (rC_12_3 F16 t0_1)) rfl ?_
  refine ab_fin.s1i (i := .iconst 3) (k := 1) (pc' := 64) (n := 3) (by decide +kernel) rfl (by decide +kernel) rfl ?_
  refine ab_fin.s2 (i := .iload_n 3) (k := 1) (pc' := 65) (lv' := [(3, .int (σ.i 28 3)), (0, .ref 40), (1, .int l1), (2, .int l2)]) (st' := [.int (σ.i 28 3), .int 3, .ref 28]) (by decide +kernel) rfl rfl ?_
  refine ab_fin.q_sI (h1 := conc (τ15.wi 28 3 (σ.i 28 3))) (pc' := 66) (by decide +kernel) (c_sI' (F16.s t0_28) (show ib (3 : Int32) 4 by decide +kernel) (by decide +kernel)) rfl ?_
  exact ab_fin.q_ret (i := .return_) (k := 1) (v := none) (by decide +kernel) rfl F16 w
theorem T_X7_readIf_0 {Z : zT} {d : Nat} {σ : Sg} {l1 : Int32} {K : kS} (F : FX ΦC σ.sh σ.r) (w : C_X7_addNode_0 Z d σ (σ.i 40 3) (σ.i 24 3) (yN K fun τ1 => C_X7_take_0 Z d τ1 29 (yN K fun τ3 => C_X7_readE_0 Z d τ3 (l1 + (1 : Int32)) (yN K fun τ5 => C_X1_emit_0 Z d τ5 13 0 (yN K fun τ7 => C_X7_take_0 Z d τ7 43 (yN K fun τ9 => C_X7_readE_0 Z d τ9 (l1 + (1 : Int32)) (yN K fun τ11 => C_X1_emit_0 Z d τ11 14 0 (yN K fun τ13 => C_X1_aim_0 Z d τ13 (τ5.i 24 3) (τ13.i 24 3) (yN K fun τ15 => C_X7_take_0 Z d τ15 44 (yN K fun τ17 => C_X7_readE_0 Z d τ17 (l1 + (1 : Int32)) (yN K fun τ19 => C_X1_aim_0 Z d τ19 (τ11.i 24 3) (τ19.i 24 3) (yN K fun τ21 => K (.inl none) τ21)))))))))))) : C_X7_readIf_0 Z (d + 1) σ l1 K := by
  unfold C_X7_readIf_0
  refine ab_fin.s2 (i := .aload_n 0) (k := 1) (pc' := 1) (lv' := [(0, .ref 40), (1, .int l1)]) (st' := [.ref 40]) (by decide +kernel) rfl rfl ?_
  refine ab_fin.q_rA (b := 1) (ix := 18) (ci := 8) (k := 0) (pc' := 4) (by decide +kernel) rfl (c_rA (F.s t0_40) rfl (rC_8_0 F t0_40)) rfl ?_
  refine ab_fin.q_rA (b := 24) (ix := 74) (ci := 12) (k := 2) (pc' := 7) (by decide +kernel) rfl (c_rA (F.s t0_1) rfl (rC_12_2 F t0_1)) rfl ?_
  refine ab_fin.s2 (i := .astore_n 2) (k := 1) (pc' := 8) (lv' := [(2, .ref 24), (0, .ref 40), (1, .int l1)]) (st' := []) (by decide +kernel) rfl rfl ?_
  refine ab_fin.s2 (i := .aload_n 0) (k := 1) (pc' := 9) (lv' := [(2, .ref 24), (0, .ref 40), (1, .int l1)]) (st' := [.ref 40]) (by decide +kernel) rfl rfl ?_
  refine ab_fin.s2 (i := .aload_n 0) (k := 1) (pc' := 10) (lv' := [(2, .ref 24), (0, .ref 40), (1, .int l1)]) (st' := [.ref 40, .ref 40]) (by decide +kernel) rfl rfl ?_
  refine ab_fin.q_rI (x := (σ.i 40 3)) (ix := 97) (ci := 8) (k := 3) (pc' := 13) (by decide +kernel) rfl (c_rI (F.s t0_40) rfl) rfl ?_
  refine ab_fin.s2 (i := .aload_n 2) (k := 1) (pc' := 14) (lv' := [(2, .ref 24), (0, .ref 40), (1, .int l1)]) (st' := [.ref 24, .int (σ.i 40 3), .ref 40]) (by decide +kernel) rfl rfl ?_
  refine ab_fin.q_rI (x := (σ.i 24 3)) (ix := 78) (ci := 2) (k := 3) (pc' := 17) (by decide +kernel) rfl (c_rI (F.s t0_24) rfl) rfl ?_
  refine ab_fin.q_yN (i := .invokevirtual 289) (k := 3) (y := 1815) (As := [.ref 40, .int (σ.i 40 3), .int (σ.i 24 3)]) (rest := []) (M' := (mX7_addNode, [])) (lv2 := [(0, .ref 40), (1, .int (σ.i 40 3)), (2, .int (σ.i 24 3))]) (pc' := 20) (X := K) (by decide +kernel) (ab_cv rfl rfl (conc_get (σ := σ) (F.s t0_40)) ⟨(Nat.le_of_ble_eq_true rfl), (Nat.le_of_ble_eq_true rfl)⟩ rfl) rfl (Nat.le_of_ble_eq_true rfl) rfl rfl (hY_no fun E => rfl) w (fun τ1 F2 w => ?_)
  refine ab_fin.s2 (i := .aload_n 0) (k := 1) (pc' := 21) (lv' := [(2, .ref 24), (0, .ref 40), (1, .int l1)]) (st' := [.ref 40]) (by decide +kernel) rfl rfl ?_
  refine ab_fin.s1i (i := .bipush 29) (k := 2) (pc' := 23) (n := 29) (by decide +kernel) rfl (by decide +kernel) rfl ?_
  refine ab_fin.q_yN (i := .invokevirtual 57) (k := 3) (y := 1799) (As := [.ref 40, .int 29]) (rest := []) (M' := (mX7_take, [])) (lv2 := [(0, .ref 40), (1, .int 29)]) (pc' := 26) (X := K) (by decide +kernel) (ab_cv rfl rfl (conc_get (σ := τ1) (F2.s t0_40)) ⟨(Nat.le_of_ble_eq_true rfl), (Nat.le_of_ble_eq_true rfl)⟩ rfl) rfl (Nat.le_of_ble_eq_true rfl) rfl rfl (hY_no fun E => rfl) w (fun τ3 F4 w => ?_)
  refine ab_fin.s2 (i := .aload_n 0) (k := 1) (pc' := 27) (lv' := [(2, .ref 24), (0, .ref 40), (1, .int l1)]) (st' := [.ref 40]) (by decide +kernel) rfl rfl ?_
  refine ab_fin.s2 (i := .iload_n 1) (k := 1) (pc' := 28) (lv' := [(2, .ref 24), (0, .ref 40), (1, .int l1)]) (st' := [.int l1, .ref 40]) (by decide +kernel) rfl rfl ?_
  refine ab_fin.s1i (i := .iconst 1) (k := 1) (pc' := 29) (n := 1) (by decide +kernel) rfl (by decide +kernel) rfl ?_
  refine ab_fin.s1 (i := .iadd) (k := 1) (pc' := 30) (st' := [.int (l1 + (1 : Int32)), .ref 40]) (by decide +kernel) rfl rfl ?_
  refine ab_fin.q_yN (i := .invokevirtual 268) (k := 3) (y := 1816) (As := [.ref 40, .int (l1 + (1 : Int32))]) (rest := []) (M' := (mX7_readE, [])) (lv2 := [(0, .ref 40), (1, .int (l1 + (1 : Int32)))]) (pc' := 33) (X := K) (by decide +kernel) (ab_cv rfl rfl (conc_get (σ := τ3) (F4.s t0_40)) ⟨(Nat.le_of_ble_eq_true rfl), (Nat.le_of_ble_eq_true rfl)⟩ rfl) rfl (Nat.le_of_ble_eq_true rfl) rfl rfl (hY_no fun E => rfl) w (fun τ5 F6 w => ?_)
  refine ab_fin.s2 (i := .aload_n 2) (k := 1) (pc' := 34) (lv' := [(2, .ref 24), (0, .ref 40), (1, .int l1)]) (st' := [.ref 24]) (by decide +kernel) rfl rfl ?_
  refine ab_fin.q_rI (x := (τ5.i 24 3)) (ix := 78) (ci := 2) (k := 3) (pc' := 37) (by decide +kernel) rfl (c_rI (F6.s t0_24) rfl) rfl ?_
  refine ab_fin.s2 (i := .istore_n 3) (k := 1) (pc' := 38) (lv' := [(3, .int (τ5.i 24 3)), (2, .ref 24), (0, .ref 40), (1, .int l1)]) (st' := []) (by decide +kernel) rfl rfl ?_
  refine ab_fin.s2 (i := .aload_n 2) (k := 1) (pc' := 39) (lv' := [(3, .int (τ5.i 24 3)), (2, .ref 24), (0, .ref 40), (1, .int l1)]) (st' := [.ref 24]) (by decide +kernel) rfl rfl ?_
  refine ab_fin.s1i (i := .bipush 13) (k := 2) (pc' := 41) (n := 13) (by decide +kernel) rfl (by decide +kernel) rfl ?_
  refine ab_fin.s1i (i := .iconst 0) (k := 1) (pc' := 42) (n := 0) (by decide +kernel) rfl (by decide +kernel) rfl ?_
  refine ab_fin.q_yN (i := .invokevirtual 271) (k := 3) (y := 258) (As := [.ref 24, .int 13, .int 0]) (rest := []) (M' := (mX1_emit, [])) (lv2 := [(0, .ref 24), (1, .int 13), (2, .int 0)]) (pc' := 45) (X := K) (by decide +kernel) (ab_cv rfl rfl (conc_get (σ := τ5) (F6.s t0_24)) ⟨(Nat.le_of_ble_eq_true rfl), (Nat.le_of_ble_eq_true rfl)⟩ rfl) rfl (Nat.le_of_ble_eq_true rfl) rfl rfl (hY_no fun E => rfl) w (fun τ7 F8 w => ?_)
  refine ab_fin.s2 (i := .aload_n 0) (k := 1) (pc' := 46) (lv' := [(3, .int (τ5.i 24 3)), (2, .ref 24), (0, .ref 40), (1, .int l1)]) (st' := [.ref 40]) (by decide +kernel) rfl rfl ?_
  refine ab_fin.s1i (i := .bipush 43) (k := 2) (pc' := 48) (n := 43) (by decide +kernel) rfl (by decide +kernel) rfl ?_
  refine ab_fin.q_yN (i := .invokevirtual 57) (k := 3) (y := 1799) (As := [.ref 40, .int 43]) (rest := []) (M' := (mX7_take, [])) (lv2 := [(0, .ref 40), (1, .int 43)]) (pc' := 51) (X := K) (by decide +kernel) (ab_cv rfl rfl (conc_get (σ := τ7) (F8.s t0_40)) ⟨(Nat.le_of_ble_eq_true rfl), (Nat.le_of_ble_eq_true rfl)⟩ rfl) rfl (Nat.le_of_ble_eq_true rfl) rfl rfl (hY_no fun E => rfl) w (fun τ9 F10 w => ?_)
  refine ab_fin.s2 (i := .aload_n 0) (k := 1) (pc' := 52) (lv' := [(3, .int (τ5.i 24 3)), (2, .ref 24), (0, .ref 40), (1, .int l1)]) (st' := [.ref 40]) (by decide +kernel) rfl rfl ?_
  refine ab_fin.s2 (i := .iload_n 1) (k := 1) (pc' := 53) (lv' := [(3, .int (τ5.i 24 3)), (2, .ref 24), (0, .ref 40), (1, .int l1)]) (st' := [.int l1, .ref 40]) (by decide +kernel) rfl rfl ?_
  refine ab_fin.s1i (i := .iconst 1) (k := 1) (pc' := 54) (n := 1) (by decide +kernel) rfl (by decide +kernel) rfl ?_
  refine ab_fin.s1 (i := .iadd) (k := 1) (pc' := 55) (st' := [.int (l1 + (1 : Int32)), .ref 40]) (by decide +kernel) rfl rfl ?_
  refine ab_fin.q_yN (i := .invokevirtual 268) (k := 3) (y := 1816) (As := [.ref 40, .int (l1 + (1 : Int32))]) (rest := []) (M' := (mX7_readE, [])) (lv2 := [(0, .ref 40), (1, .int (l1 + (1 : Int32)))]) (pc' := 58) (X := K) (by decide +kernel) (ab_cv rfl rfl (conc_get (σ := τ9) (F10.s t0_40)) ⟨(Nat.le_of_ble_eq_true rfl), (Nat.le_of_ble_eq_true rfl)⟩ rfl) rfl (Nat.le_of_ble_eq_true rfl) rfl rfl (hY_no fun E => rfl) w (fun τ11 F12 w => ?_)
  refine ab_fin.s2 (i := .aload_n 2) (k := 1) (pc' := 59) (lv' := [(3, .int (τ5.i 24 3)), (2, .ref 24), (0, .ref 40), (1, .int l1)]) (st' := [.ref 24]) (by decide +kernel) rfl rfl ?_
  refine ab_fin.q_rI (x := (τ11.i 24 3)) (ix := 78) (ci := 2) (k := 3) (pc' := 62) (by decide +kernel) rfl (c_rI (F12.s t0_24) rfl) rfl ?_
  refine ab_fin.s2 (i := .istore 4) (k := 2) (pc' := 64) (lv' := [(4, .int (τ11.i 24 3)), (3, .int (τ5.i 24 3)), (2, .ref 24), (0, .ref 40), (1, .int l1)]) (st' := []) (by decide +kernel) rfl rfl ?_
  refine ab_fin.s2 (i := .aload_n 2) (k := 1) (pc' := 65) (lv' := [(4, .int (τ11.i 24 3)), (3, .int (τ5.i 24 3)), (2, .ref 24), (0, .ref 40), (1, .int l1)]) (st' := [.ref 24]) (by decide +kernel) rfl rfl ?_
  refine ab_fin.s1i (i := .bipush 14) (k := 2) (pc' := 67) (n := 14) (by decide +kernel) rfl (by decide +kernel) rfl ?_
  refine ab_fin.s1i (i := .iconst 0) (k := 1) (pc' := 68) (n := 0) (by decide +kernel) rfl (by decide +kernel) rfl ?_
  refine ab_fin.q_yN (i := .invokevirtual 271) (k := 3) (y := 258) (As := [.ref 24, .int 14, .int 0]) (rest := []) (M' := (mX1_emit, [])) (lv2 := [(0, .ref 24), (1, .int 14), (2, .int 0)]) (pc' := 71) (X := K) (by decide +kernel) (ab_cv rfl rfl (conc_get (σ := τ11) (F12.s t0_24)) ⟨(Nat.le_of_ble_eq_true rfl), (Nat.le_of_ble_eq_true rfl)⟩ rfl) rfl (Nat.le_of_ble_eq_true rfl) rfl rfl (hY_no fun E => rfl) w (fun τ13 F14 w => ?_)
  refine ab_fin.s2 (i := .aload_n 2) (k := 1) (pc' := 72) (lv' := [(4, .int (τ11.i 24 3)), (3, .int (τ5.i 24 3)), (2, .ref 24), (0, .ref 40), (1, .int l1)]) (st' := [.ref 24]) (by decide +kernel) rfl rfl ?_
  refine ab_fin.s2 (i := .iload_n 3) (k := 1) (pc' := 73) (lv' := [(4, .int (τ11.i 24 3)), (3, .int (τ5.i 24 3)), (2, .ref 24), (0, .ref 40), (1, .int l1)]) (st' := [.int (τ5.i 24 3), .ref 24]) (by decide +kernel) rfl rfl ?_
  refine ab_fin.s2 (i := .aload_n 2) (k := 1) (pc' := 74) (lv' := [(4, .int (τ11.i 24 3)), (3, .int (τ5.i 24 3)), (2, .ref 24), (0, .ref 40), (1, .int l1)]) (st' := [.ref 24, .int (τ5.i 24 3), .ref 24]) (by decide +kernel) rfl rfl ?_
  refine ab_fin.q_rI (x := (τ13.i 24 3)) (ix := 78) (ci := 2) (k := 3) (pc' := 77) (by decide +kernel) rfl (c_rI (F14.s t0_24) rfl) rfl ?_
  refine ab_fin.q_yN (i := .invokevirtual 298) (k := 3) (y := 259) (As := [.ref 24, .int (τ5.i 24 3), .int (τ13.i 24 3)]) (rest := []) (M' := (mX1_aim, [])) (lv2 := [(0, .ref 24), (1, .int (τ5.i 24 3)), (2, .int (τ13.i 24 3))]) (pc' := 80) (X := K) (by decide +kernel) (ab_cv rfl rfl (conc_get (σ := τ13) (F14.s t0_24)) ⟨(Nat.le_of_ble_eq_true rfl), (Nat.le_of_ble_eq_true rfl)⟩ rfl) rfl (Nat.le_of_ble_eq_true rfl) rfl rfl (hY_no fun E => rfl) w (fun τ15 F16 w => ?_)
  refine ab_fin.s2 (i := .aload_n 0) (k := 1) (pc' := 81) (lv' := [(4, .int (τ11.i 24 3)), (3, .int (τ5.i 24 3)), (2, .ref 24), (0, .ref 40), (1, .int l1)]) (st' := [.ref 40]) (by decide +kernel) rfl rfl ?_
  refine ab_fin.s1i (i := .bipush 44) (k := 2) (pc' := 83) (n := 44) (by decide +kernel) rfl (by decide +kernel) rfl ?_
  refine ab_fin.q_yN (i := .invokevirtual 57) (k := 3) (y := 1799) (As := [.ref 40, .int 44]) (rest := []) (M' := (mX7_take, [])) (lv2 := [(0, .ref 40), (1, .int 44)]) (pc' := 86) (X := K) (by decide +kernel) (ab_cv rfl rfl (conc_get (σ := τ15) (F16.s t0_40)) ⟨(Nat.le_of_ble_eq_true rfl), (Nat.le_of_ble_eq_true rfl)⟩ rfl) rfl (Nat.le_of_ble_eq_true rfl) rfl rfl (hY_no fun E => rfl) w (fun τ17 F18 w => ?_)
  refine ab_fin.s2 (i := .aload_n 0) (k := 1) (pc' := 87) (lv' := [(4, .int (τ11.i 24 3)), (3, .int (τ5.i 24 3)), (2, .ref 24), (0, .ref 40), (1, .int l1)]) (st' := [.ref 40]) (by decide +kernel) rfl rfl ?_
  refine ab_fin.s2 (i := .iload_n 1) (k := 1) (pc' := 88) (lv' := [(4, .int (τ11.i 24 3)), (3, .int (τ5.i 24 3)), (2, .ref 24), (0, .ref 40), (1, .int l1)]) (st' := [.int l1, .ref 40]) (by decide +kernel) rfl rfl ?_
  refine ab_fin.s1i (i := .iconst 1) (k := 1) (pc' := 89) (n := 1) (by decide +kernel) rfl (by decide +kernel) rfl ?_
  refine ab_fin.s1 (i := .iadd) (k := 1) (pc' := 90) (st' := [.int (l1 + (1 : Int32)), .ref 40]) (by decide +kernel) rfl rfl ?_
  refine ab_fin.q_yN (i := .invokevirtual 268) (k := 3) (y := 1816) (As := [.ref 40, .int (l1 + (1 : Int32))]) (rest := []) (M' := (mX7_readE, [])) (lv2 := [(0, .ref 40), (1, .int (l1 + (1 : Int32)))]) (pc' := 93) (X := K) (by decide +kernel) (ab_cv rfl rfl (conc_get (σ := τ17) (F18.s t0_40)) ⟨(Nat.le_of_ble_eq_true rfl), (Nat.le_of_ble_eq_true rfl)⟩ rfl) rfl (Nat.le_of_ble_eq_true rfl) rfl rfl (hY_no fun E => rfl) w (fun τ19 F20 w => ?_)
  refine ab_fin.s2 (i := .aload_n 2) (k := 1) (pc' := 94) (lv' := [(4, .int (τ11.i 24 3)), (3, .int (τ5.i 24 3)), (2, .ref 24), (0, .ref 40), (1, .int l1)]) (st' := [.ref 24]) (by decide +kernel) rfl rfl ?_
  refine ab_fin.s2 (i := .iload 4) (k := 2) (pc' := 96) (lv' := [(4, .int (τ11.i 24 3)), (3, .int (τ5.i 24 3)), (2, .ref 24), (0, .ref 40), (1, .int l1)]) (st' := [.int (τ11.i 24 3), .ref 24]) (by decide +kernel) rfl rfl ?_
  refine ab_fin.s2 (i := .aload_n 2) (k := 1) (pc' := 97) (lv' := [(4, .int (τ11.i 24 3)), (3, .int (τ5.i 24 3)), (2, .ref 24), (0, .ref 40), (1, .int l1)]) (st' := [.ref 24, .int (τ11.i 24 3), .ref 24]) (by decide +kernel) rfl rfl ?_
  refine ab_fin.q_rI (x := (τ19.i 24 3)) (ix := 78) (ci := 2) (k := 3) (pc' := 100) (by decide +kernel) rfl (c_rI (F20.s t0_24) rfl) rfl ?_
  refine ab_fin.q_yN (i := .invokevirtual 298) (k := 3) (y := 259) (As := [.ref 24, .int (τ11.i 24 3), .int (τ19.i 24 3)]) (rest := []) (M' := (mX1_aim, [])) (lv2 := [(0, .ref 24), (1, .int (τ11.i 24 3)), (2, .int (τ19.i 24 3))]) (pc' := 103) (X := K) (by decide +kernel) (ab_cv rfl rfl (conc_get (σ := τ19) (F20.s t0_24)) ⟨(Nat.le_of_ble_eq_true rfl), (Nat.le_of_ble_eq_true rfl)⟩ rfl) rfl (Nat.le_of_ble_eq_true rfl) rfl rfl (hY_no fun E => rfl) w (fun τ21 F22 w => ?_)
  exact ab_fin.q_ret (i := .return_) (k := 1) (v := none) (by decide +kernel) rfl F22 w
theorem T_X7_readWith_0 {Z : zT} {d : Nat} {σ : Sg} {l1 : Int32} {K : kS} (F : FX ΦC σ.sh σ.r) (w : C_X7_sign_0 Z d σ  (yI K fun v3 τ1 => (¬ v3 = 45 → C_X7_readWith_16 Z (d + 1) τ1 l1 16 K) ∧ (v3 = 45 → C_X7_readWith_16 Z (d + 1) τ1 l1 15 K))) : C_X7_readWith_0 Z (d + 1) σ l1 K := by
  unfold C_X7_readWith_0
  refine ab_fin.s2 (i := .aload_n 0) (k := 1) (pc' := 1) (lv' := [(0, .ref 40), (1, .int l1)]) (st' := [.ref 40]) (by decide +kernel) rfl rfl ?_
  refine ab_fin.q_yI (i := .invokevirtual 41) (k := 3) (y := 1798) (As := [.ref 40]) (rest := []) (M' := (mX7_sign, [])) (lv2 := [(0, .ref 40)]) (pc' := 4) (X := K) (by decide +kernel) (ab_cv rfl rfl (conc_get (σ := σ) (F.s t0_40)) ⟨(Nat.le_of_ble_eq_true rfl), (Nat.le_of_ble_eq_true rfl)⟩ rfl) rfl (Nat.le_of_ble_eq_true rfl) rfl rfl (hY_no fun E => rfl) w (fun v3 τ1 F2 w => ?_)
  refine ab_fin.s1i (i := .bipush 45) (k := 2) (pc' := 6) (n := 45) (by decide +kernel) rfl (by decide +kernel) rfl ?_
  refine ab_fin.br (c := ¬ v3 = 45) (i := .if_icmp .ne 8) (off := 8) (t := 14) (pc' := 9) (r := []) (by decide +kernel) rfl (by decide +kernel) rfl (fun q => ?_) (fun q => ?_)
  · replace w := w.1 q
    refine ab_fin.s1i (i := .bipush 16) (k := 2) (pc' := 16) (n := 16) (by decide +kernel) rfl (by decide +kernel) rfl ?_
    exact ab_fin.lv ⟨(List.forall_mem_cons.mpr ⟨(List.Mem.head _), (List.forall_mem_cons.mpr ⟨(List.Mem.tail _ (List.Mem.head _)), (fun _ h => absurd h List.not_mem_nil)⟩)⟩), (show ([0, 1] : List Nat).Nodup from by decide)⟩ w
  · replace w := w.2 (Decidable.of_not_not q)
    refine ab_fin.s1i (i := .bipush 15) (k := 2) (pc' := 11) (n := 15) (by decide +kernel) rfl (by decide +kernel) rfl ?_
    refine ab_fin.s3 (i := .goto 5) (k := 3) (t := 16) (st' := [.int 15]) (by decide +kernel) (ab_gto (by decide +kernel)) ?_
    exact ab_fin.lv ⟨(List.forall_mem_cons.mpr ⟨(List.Mem.head _), (List.forall_mem_cons.mpr ⟨(List.Mem.tail _ (List.Mem.head _)), (fun _ h => absurd h List.not_mem_nil)⟩)⟩), (show ([0, 1] : List Nat).Nodup from by decide)⟩ w
theorem T_X7_readWith_16 {Z : zT} {d : Nat} {σ : Sg} {l1 : Int32} {s0 : Int32} {K : kS} (F : FX ΦC σ.sh σ.r) (w : C_X7_addNode_0 Z d σ (σ.i 40 3) (σ.i 24 3) (yN K fun τ1 => C_X7_sign_0 Z d τ1  (yI K fun v5 τ3 => C_X7_take_0 Z d τ3 v5 (yN K fun τ6 => C_X7_takeKnownName_0 Z d τ6 2 (yI K fun v10 τ8 => C_X1_emit_0 Z d τ8 s0 v10 (yN K fun τ11 => C_X7_take_0 Z d τ11 47 (yN K fun τ13 => C_X7_readE_0 Z d τ13 (l1 + (1 : Int32)) (yN K fun τ15 => C_X1_emit_0 Z d τ15 17 0 (yN K fun τ17 => K (.inl none) τ17))))))))) : C_X7_readWith_16 Z (d + 1) σ l1 s0 K := by
  unfold C_X7_readWith_16
  refine ab_fin.s2 (i := .istore_n 2) (k := 1) (pc' := 17) (lv' := [(2, .int s0), (0, .ref 40), (1, .int l1)]) (st' := []) (by decide +kernel) rfl rfl ?_
  refine ab_fin.s2 (i := .aload_n 0) (k := 1) (pc' := 18) (lv' := [(2, .int s0), (0, .ref 40), (1, .int l1)]) (st' := [.ref 40]) (by decide +kernel) rfl rfl ?_
  refine ab_fin.s2 (i := .aload_n 0) (k := 1) (pc' := 19) (lv' := [(2, .int s0), (0, .ref 40), (1, .int l1)]) (st' := [.ref 40, .ref 40]) (by decide +kernel) rfl rfl ?_
  refine ab_fin.q_rI (x := (σ.i 40 3)) (ix := 97) (ci := 8) (k := 3) (pc' := 22) (by decide +kernel) rfl (c_rI (F.s t0_40) rfl) rfl ?_
  refine ab_fin.s2 (i := .aload_n 0) (k := 1) (pc' := 23) (lv' := [(2, .int s0), (0, .ref 40), (1, .int l1)]) (st' := [.ref 40, .int (σ.i 40 3), .ref 40]) (by decide +kernel) rfl rfl ?_
  refine ab_fin.q_rA (b := 1) (ix := 18) (ci := 8) (k := 0) (pc' := 26) (by decide +kernel) rfl (c_rA (F.s t0_40) rfl (rC_8_0 F t0_40)) rfl ?_
  refine ab_fin.q_rA (b := 24) (ix := 74) (ci := 12) (k := 2) (pc' := 29) (by decide +kernel) rfl (c_rA (F.s t0_1) rfl (rC_12_2 F t0_1)) rfl ?_
  refine ab_fin.q_rI (x := (σ.i 24 3)) (ix := 78) (ci := 2) (k := 3) (pc' := 32) (by decide +kernel) rfl (c_rI (F.s t0_24) rfl) rfl ?_
  refine ab_fin.q_yN (i := .invokevirtual 289) (k := 3) (y := 1815) (As := [.ref 40, .int (σ.i 40 3), .int (σ.i 24 3)]) (rest := []) (M' := (mX7_addNode, [])) (lv2 := [(0, .ref 40), (1, .int (σ.i 40 3)), (2, .int (σ.i 24 3))]) (pc' := 35) (X := K) (by decide +kernel) (ab_cv rfl rfl (conc_get (σ := σ) (F.s t0_40)) ⟨(Nat.le_of_ble_eq_true rfl), (Nat.le_of_ble_eq_true rfl)⟩ rfl) rfl (Nat.le_of_ble_eq_true rfl) rfl rfl (hY_no fun E => rfl) w (fun τ1 F2 w => ?_)
  refine ab_fin.s2 (i := .aload_n 0) (k := 1) (pc' := 36) (lv' := [(2, .int s0), (0, .ref 40), (1, .int l1)]) (st' := [.ref 40]) (by decide +kernel) rfl rfl ?_
  refine ab_fin.s2 (i := .aload_n 0) (k := 1) (pc' := 37) (lv' := [(2, .int s0), (0, .ref 40), (1, .int l1)]) (st' := [.ref 40, .ref 40]) (by decide +kernel) rfl rfl ?_
  refine ab_fin.q_yI (i := .invokevirtual 41) (k := 3) (y := 1798) (As := [.ref 40]) (rest := [.ref 40]) (M' := (mX7_sign, [])) (lv2 := [(0, .ref 40)]) (pc' := 40) (X := K) (by decide +kernel) (ab_cv rfl rfl (conc_get (σ := τ1) (F2.s t0_40)) ⟨(Nat.le_of_ble_eq_true rfl), (Nat.le_of_ble_eq_true rfl)⟩ rfl) rfl (Nat.le_of_ble_eq_true rfl) rfl rfl (hY_no fun E => rfl) w (fun v5 τ3 F4 w => ?_)
  refine ab_fin.q_yN (i := .invokevirtual 57) (k := 3) (y := 1799) (As := [.ref 40, .int v5]) (rest := []) (M' := (mX7_take, [])) (lv2 := [(0, .ref 40), (1, .int v5)]) (pc' := 43) (X := K) (by decide +kernel) (ab_cv rfl rfl (conc_get (σ := τ3) (F4.s t0_40)) ⟨(Nat.le_of_ble_eq_true rfl), (Nat.le_of_ble_eq_true rfl)⟩ rfl) rfl (Nat.le_of_ble_eq_true rfl) rfl rfl (hY_no fun E => rfl) w (fun τ6 F7 w => ?_)
  refine ab_fin.s2 (i := .aload_n 0) (k := 1) (pc' := 44) (lv' := [(2, .int s0), (0, .ref 40), (1, .int l1)]) (st' := [.ref 40]) (by decide +kernel) rfl rfl ?_
  refine ab_fin.q_rA (b := 1) (ix := 18) (ci := 8) (k := 0) (pc' := 47) (by decide +kernel) rfl (c_rA (F7.s t0_40) rfl (rC_8_0 F7 t0_40)) rfl ?_
  refine ab_fin.q_rA (b := 24) (ix := 74) (ci := 12) (k := 2) (pc' := 50) (by decide +kernel) rfl (c_rA (F7.s t0_1) rfl (rC_12_2 F7 t0_1)) rfl ?_
  refine ab_fin.s2 (i := .iload_n 2) (k := 1) (pc' := 51) (lv' := [(2, .int s0), (0, .ref 40), (1, .int l1)]) (st' := [.int s0, .ref 24]) (by decide +kernel) rfl rfl ?_
  refine ab_fin.s2 (i := .aload_n 0) (k := 1) (pc' := 52) (lv' := [(2, .int s0), (0, .ref 40), (1, .int l1)]) (st' := [.ref 40, .int s0, .ref 24]) (by decide +kernel) rfl rfl ?_
  refine ab_fin.s1i (i := .iconst 2) (k := 1) (pc' := 53) (n := 2) (by decide +kernel) rfl (by decide +kernel) rfl ?_
  refine ab_fin.q_yI (i := .invokevirtual 151) (k := 3) (y := 1802) (As := [.ref 40, .int 2]) (rest := [.int s0, .ref 24]) (M' := (mX7_takeKnownName, [])) (lv2 := [(0, .ref 40), (1, .int 2)]) (pc' := 56) (X := K) (by decide +kernel) (ab_cv rfl rfl (conc_get (σ := τ6) (F7.s t0_40)) ⟨(Nat.le_of_ble_eq_true rfl), (Nat.le_of_ble_eq_true rfl)⟩ rfl) rfl (Nat.le_of_ble_eq_true rfl) rfl rfl (hY_no fun E => rfl) w (fun v10 τ8 F9 w => ?_)
  refine ab_fin.q_yN (i := .invokevirtual 271) (k := 3) (y := 258) (As := [.ref 24, .int s0, .int v10]) (rest := []) (M' := (mX1_emit, [])) (lv2 := [(0, .ref 24), (1, .int s0), (2, .int v10)]) (pc' := 59) (X := K) (by decide +kernel) (ab_cv rfl rfl (conc_get (σ := τ8) (F9.s t0_24)) ⟨(Nat.le_of_ble_eq_true rfl), (Nat.le_of_ble_eq_true rfl)⟩ rfl) rfl (Nat.le_of_ble_eq_true rfl) rfl rfl (hY_no fun E => rfl) w (fun τ11 F12 w => ?_)
  refine ab_fin.s2 (i := .aload_n 0) (k := 1) (pc' := 60) (lv' := [(2, .int s0), (0, .ref 40), (1, .int l1)]) (st' := [.ref 40]) (by decide +kernel) rfl rfl ?_
  refine ab_fin.s1i (i := .bipush 47) (k := 2) (pc' := 62) (n := 47) (by decide +kernel) rfl (by decide +kernel) rfl ?_
  refine ab_fin.q_yN (i := .invokevirtual 57) (k := 3) (y := 1799) (As := [.ref 40, .int 47]) (rest := []) (M' := (mX7_take, [])) (lv2 := [(0, .ref 40), (1, .int 47)]) (pc' := 65) (X := K) (by decide +kernel) (ab_cv rfl rfl (conc_get (σ := τ11) (F12.s t0_40)) ⟨(Nat.le_of_ble_eq_true rfl), (Nat.le_of_ble_eq_true rfl)⟩ rfl) rfl (Nat.le_of_ble_eq_true rfl) rfl rfl (hY_no fun E => rfl) w (fun τ13 F14 w => ?_)
  refine ab_fin.s2 (i := .aload_n 0) (k := 1) (pc' := 66) (lv' := [(2, .int s0), (0, .ref 40), (1, .int l1)]) (st' := [.ref 40]) (by decide +kernel) rfl rfl ?_
  refine ab_fin.s2 (i := .iload_n 1) (k := 1) (pc' := 67) (lv' := [(2, .int s0), (0, .ref 40), (1, .int l1)]) (st' := [.int l1, .ref 40]) (by decide +kernel) rfl rfl ?_
  refine ab_fin.s1i (i := .iconst 1) (k := 1) (pc' := 68) (n := 1) (by decide +kernel) rfl (by decide +kernel) rfl ?_
  refine ab_fin.s1 (i := .iadd) (k := 1) (pc' := 69) (st' := [.int (l1 + (1 : Int32)), .ref 40]) (by decide +kernel) rfl rfl ?_
  refine ab_fin.q_yN (i := .invokevirtual 268) (k := 3) (y := 1816) (As := [.ref 40, .int (l1 + (1 : Int32))]) (rest := []) (M' := (mX7_readE, [])) (lv2 := [(0, .ref 40), (1, .int (l1 + (1 : Int32)))]) (pc' := 72) (X := K) (by decide +kernel) (ab_cv rfl rfl (conc_get (σ := τ13) (F14.s t0_40)) ⟨(Nat.le_of_ble_eq_true rfl), (Nat.le_of_ble_eq_true rfl)⟩ rfl) rfl (Nat.le_of_ble_eq_true rfl) rfl rfl (hY_no fun E => rfl) w (fun τ15 F16 w => ?_)
  refine ab_fin.s2 (i := .aload_n 0) (k := 1) (pc' := 73) (lv' := [(2, .int s0), (0, .ref 40), (1, .int l1)]) (st' := [.ref 40]) (by decide +kernel) rfl rfl ?_
  refine ab_fin.q_rA (b := 1) (ix := 18) (ci := 8) (k := 0) (pc' := 76) (by decide +kernel) rfl (c_rA (F16.s t0_40) rfl (rC_8_0 F16 t0_40)) rfl ?_
  refine ab_fin.q_rA (b := 24) (ix := 74) (ci := 12) (k := 2) (pc' := 79) (by decide +kernel) rfl (c_rA (F16.s t0_1) rfl (rC_12_2 F16 t0_1)) rfl ?_
  refine ab_fin.s1i (i := .bipush 17) (k := 2) (pc' := 81) (n := 17) (by decide +kernel) rfl (by decide +kernel) rfl ?_
  refine ab_fin.s1i (i := .iconst 0) (k := 1) (pc' := 82) (n := 0) (by decide +kernel) rfl (by decide +kernel) rfl ?_
  refine ab_fin.q_yN (i := .invokevirtual 271) (k := 3) (y := 258) (As := [.ref 24, .int 17, .int 0]) (rest := []) (M' := (mX1_emit, [])) (lv2 := [(0, .ref 24), (1, .int 17), (2, .int 0)]) (pc' := 85) (X := K) (by decide +kernel) (ab_cv rfl rfl (conc_get (σ := τ15) (F16.s t0_24)) ⟨(Nat.le_of_ble_eq_true rfl), (Nat.le_of_ble_eq_true rfl)⟩ rfl) rfl (Nat.le_of_ble_eq_true rfl) rfl rfl (hY_no fun E => rfl) w (fun τ17 F18 w => ?_)
  exact ab_fin.q_ret (i := .return_) (k := 1) (v := none) (by decide +kernel) rfl F18 w
theorem T_X7_readTry_0 {Z : zT} {d : Nat} {σ : Sg} {l1 : Int32} {K : kS} (F : FX ΦC σ.sh σ.r) (w : C_X7_addNode_0 Z d σ (σ.i 40 3) (σ.i 24 3) (yN K fun τ1 => C_X7_take_0 Z d τ1 48 (yN K fun τ3 => C_X1_emit_0 Z d τ3 18 0 (yN K fun τ5 => C_X7_readE_0 Z d τ5 (l1 + (1 : Int32)) (yN K fun τ7 => C_X1_emit_0 Z d τ7 19 0 (yN K fun τ9 => C_X1_aim_0 Z d τ9 (τ3.i 24 3) (τ9.i 24 3) (yN K fun τ11 => C_X7_take_0 Z d τ11 49 (yN K fun τ13 => C_X7_take_0 Z d τ13 2 (yN K fun τ15 => C_X7_take_0 Z d τ15 47 (yN K fun τ17 => C_X7_readWithVariable_0 Z d τ17 (τ13.i 40 3) l1 (yN K fun τ19 => C_X1_aim_0 Z d τ19 (τ7.i 24 3) (τ19.i 24 3) (yN K fun τ21 => K (.inl none) τ21)))))))))))) : C_X7_readTry_0 Z (d + 1) σ l1 K := by
  unfold C_X7_readTry_0
  refine ab_fin.s2 (i := .aload_n 0) (k := 1) (pc' := 1) (lv' := [(0, .ref 40), (1, .int l1)]) (st' := [.ref 40]) (by decide +kernel) rfl rfl ?_
  refine ab_fin.q_rA (b := 1) (ix := 18) (ci := 8) (k := 0) (pc' := 4) (by decide +kernel) rfl (c_rA (F.s t0_40) rfl (rC_8_0 F t0_40)) rfl ?_
  refine ab_fin.q_rA (b := 24) (ix := 74) (ci := 12) (k := 2) (pc' := 7) (by decide +kernel) rfl (c_rA (F.s t0_1) rfl (rC_12_2 F t0_1)) rfl ?_
  refine ab_fin.s2 (i := .astore_n 2) (k := 1) (pc' := 8) (lv' := [(2, .ref 24), (0, .ref 40), (1, .int l1)]) (st' := []) (by decide +kernel) rfl rfl ?_
  refine ab_fin.s2 (i := .aload_n 0) (k := 1) (pc' := 9) (lv' := [(2, .ref 24), (0, .ref 40), (1, .int l1)]) (st' := [.ref 40]) (by decide +kernel) rfl rfl ?_
  refine ab_fin.s2 (i := .aload_n 0) (k := 1) (pc' := 10) (lv' := [(2, .ref 24), (0, .ref 40), (1, .int l1)]) (st' := [.ref 40, .ref 40]) (by decide +kernel) rfl rfl ?_
  refine ab_fin.q_rI (x := (σ.i 40 3)) (ix := 97) (ci := 8) (k := 3) (pc' := 13) (by decide +kernel) rfl (c_rI (F.s t0_40) rfl) rfl ?_
  refine ab_fin.s2 (i := .aload_n 2) (k := 1) (pc' := 14) (lv' := [(2, .ref 24), (0, .ref 40), (1, .int l1)]) (st' := [.ref 24, .int (σ.i 40 3), .ref 40]) (by decide +kernel) rfl rfl ?_
  refine ab_fin.q_rI (x := (σ.i 24 3)) (ix := 78) (ci := 2) (k := 3) (pc' := 17) (by decide +kernel) rfl (c_rI (F.s t0_24) rfl) rfl ?_
  refine ab_fin.q_yN (i := .invokevirtual 289) (k := 3) (y := 1815) (As := [.ref 40, .int (σ.i 40 3), .int (σ.i 24 3)]) (rest := []) (M' := (mX7_addNode, [])) (lv2 := [(0, .ref 40), (1, .int (σ.i 40 3)), (2, .int (σ.i 24 3))]) (pc' := 20) (X := K) (by decide +kernel) (ab_cv rfl rfl (conc_get (σ := σ) (F.s t0_40)) ⟨(Nat.le_of_ble_eq_true rfl), (Nat.le_of_ble_eq_true rfl)⟩ rfl) rfl (Nat.le_of_ble_eq_true rfl) rfl rfl (hY_no fun E => rfl) w (fun τ1 F2 w => ?_)
  refine ab_fin.s2 (i := .aload_n 0) (k := 1) (pc' := 21) (lv' := [(2, .ref 24), (0, .ref 40), (1, .int l1)]) (st' := [.ref 40]) (by decide +kernel) rfl rfl ?_
  refine ab_fin.s1i (i := .bipush 48) (k := 2) (pc' := 23) (n := 48) (by decide +kernel) rfl (by decide +kernel) rfl ?_
  refine ab_fin.q_yN (i := .invokevirtual 57) (k := 3) (y := 1799) (As := [.ref 40, .int 48]) (rest := []) (M' := (mX7_take, [])) (lv2 := [(0, .ref 40), (1, .int 48)]) (pc' := 26) (X := K) (by decide +kernel) (ab_cv rfl rfl (conc_get (σ := τ1) (F2.s t0_40)) ⟨(Nat.le_of_ble_eq_true rfl), (Nat.le_of_ble_eq_true rfl)⟩ rfl) rfl (Nat.le_of_ble_eq_true rfl) rfl rfl (hY_no fun E => rfl) w (fun τ3 F4 w => ?_)
  refine ab_fin.s2 (i := .aload_n 2) (k := 1) (pc' := 27) (lv' := [(2, .ref 24), (0, .ref 40), (1, .int l1)]) (st' := [.ref 24]) (by decide +kernel) rfl rfl ?_
  refine ab_fin.q_rI (x := (τ3.i 24 3)) (ix := 78) (ci := 2) (k := 3) (pc' := 30) (by decide +kernel) rfl (c_rI (F4.s t0_24) rfl) rfl ?_
  refine ab_fin.s2 (i := .istore_n 3) (k := 1) (pc' := 31) (lv' := [(3, .int (τ3.i 24 3)), (2, .ref 24), (0, .ref 40), (1, .int l1)]) (st' := []) (by decide +kernel) rfl rfl ?_
  refine ab_fin.s2 (i := .aload_n 2) (k := 1) (pc' := 32) (lv' := [(3, .int (τ3.i 24 3)), (2, .ref 24), (0, .ref 40), (1, .int l1)]) (st' := [.ref 24]) (by decide +kernel) rfl rfl ?_
  refine ab_fin.s1i (i := .bipush 18) (k := 2) (pc' := 34) (n := 18) (by decide +kernel) rfl (by decide +kernel) rfl ?_
  refine ab_fin.s1i (i := .iconst 0) (k := 1) (pc' := 35) (n := 0) (by decide +kernel) rfl (by decide +kernel) rfl ?_
  refine ab_fin.q_yN (i := .invokevirtual 271) (k := 3) (y := 258) (As := [.ref 24, .int 18, .int 0]) (rest := []) (M' := (mX1_emit, [])) (lv2 := [(0, .ref 24), (1, .int 18), (2, .int 0)]) (pc' := 38) (X := K) (by decide +kernel) (ab_cv rfl rfl (conc_get (σ := τ3) (F4.s t0_24)) ⟨(Nat.le_of_ble_eq_true rfl), (Nat.le_of_ble_eq_true rfl)⟩ rfl) rfl (Nat.le_of_ble_eq_true rfl) rfl rfl (hY_no fun E => rfl) w (fun τ5 F6 w => ?_)
  refine ab_fin.s2 (i := .aload_n 0) (k := 1) (pc' := 39) (lv' := [(3, .int (τ3.i 24 3)), (2, .ref 24), (0, .ref 40), (1, .int l1)]) (st' := [.ref 40]) (by decide +kernel) rfl rfl ?_
  refine ab_fin.s2 (i := .iload_n 1) (k := 1) (pc' := 40) (lv' := [(3, .int (τ3.i 24 3)), (2, .ref 24), (0, .ref 40), (1, .int l1)]) (st' := [.int l1, .ref 40]) (by decide +kernel) rfl rfl ?_
  refine ab_fin.s1i (i := .iconst 1) (k := 1) (pc' := 41) (n := 1) (by decide +kernel) rfl (by decide +kernel) rfl ?_
  refine ab_fin.s1 (i := .iadd) (k := 1) (pc' := 42) (st' := [.int (l1 + (1 : Int32)), .ref 40]) (by decide +kernel) rfl rfl ?_
  refine ab_fin.q_yN (i := .invokevirtual 268) (k := 3) (y := 1816) (As := [.ref 40, .int (l1 + (1 : Int32))]) (rest := []) (M' := (mX7_readE, [])) (lv2 := [(0, .ref 40), (1, .int (l1 + (1 : Int32)))]) (pc' := 45) (X := K) (by decide +kernel) (ab_cv rfl rfl (conc_get (σ := τ5) (F6.s t0_40)) ⟨(Nat.le_of_ble_eq_true rfl), (Nat.le_of_ble_eq_true rfl)⟩ rfl) rfl (Nat.le_of_ble_eq_true rfl) rfl rfl (hY_no fun E => rfl) w (fun τ7 F8 w => ?_)
  refine ab_fin.s2 (i := .aload_n 2) (k := 1) (pc' := 46) (lv' := [(3, .int (τ3.i 24 3)), (2, .ref 24), (0, .ref 40), (1, .int l1)]) (st' := [.ref 24]) (by decide +kernel) rfl rfl ?_
  refine ab_fin.q_rI (x := (τ7.i 24 3)) (ix := 78) (ci := 2) (k := 3) (pc' := 49) (by decide +kernel) rfl (c_rI (F8.s t0_24) rfl) rfl ?_
  refine ab_fin.s2 (i := .istore 4) (k := 2) (pc' := 51) (lv' := [(4, .int (τ7.i 24 3)), (3, .int (τ3.i 24 3)), (2, .ref 24), (0, .ref 40), (1, .int l1)]) (st' := []) (by decide +kernel) rfl rfl ?_
  refine ab_fin.s2 (i := .aload_n 2) (k := 1) (pc' := 52) (lv' := [(4, .int (τ7.i 24 3)), (3, .int (τ3.i 24 3)), (2, .ref 24), (0, .ref 40), (1, .int l1)]) (st' := [.ref 24]) (by decide +kernel) rfl rfl ?_
  refine ab_fin.s1i (i := .bipush 19) (k := 2) (pc' := 54) (n := 19) (by decide +kernel) rfl (by decide +kernel) rfl ?_
  refine ab_fin.s1i (i := .iconst 0) (k := 1) (pc' := 55) (n := 0) (by decide +kernel) rfl (by decide +kernel) rfl ?_
  refine ab_fin.q_yN (i := .invokevirtual 271) (k := 3) (y := 258) (As := [.ref 24, .int 19, .int 0]) (rest := []) (M' := (mX1_emit, [])) (lv2 := [(0, .ref 24), (1, .int 19), (2, .int 0)]) (pc' := 58) (X := K) (by decide +kernel) (ab_cv rfl rfl (conc_get (σ := τ7) (F8.s t0_24)) ⟨(Nat.le_of_ble_eq_true rfl), (Nat.le_of_ble_eq_true rfl)⟩ rfl) rfl (Nat.le_of_ble_eq_true rfl) rfl rfl (hY_no fun E => rfl) w (fun τ9 F10 w => ?_)
  refine ab_fin.s2 (i := .aload_n 2) (k := 1) (pc' := 59) (lv' := [(4, .int (τ7.i 24 3)), (3, .int (τ3.i 24 3)), (2, .ref 24), (0, .ref 40), (1, .int l1)]) (st' := [.ref 24]) (by decide +kernel) rfl rfl ?_
  refine ab_fin.s2 (i := .iload_n 3) (k := 1) (pc' := 60) (lv' := [(4, .int (τ7.i 24 3)), (3, .int (τ3.i 24 3)), (2, .ref 24), (0, .ref 40), (1, .int l1)]) (st' := [.int (τ3.i 24 3), .ref 24]) (by decide +kernel) rfl rfl ?_
  refine ab_fin.s2 (i := .aload_n 2) (k := 1) (pc' := 61) (lv' := [(4, .int (τ7.i 24 3)), (3, .int (τ3.i 24 3)), (2, .ref 24), (0, .ref 40), (1, .int l1)]) (st' := [.ref 24, .int (τ3.i 24 3), .ref 24]) (by decide +kernel) rfl rfl ?_
  refine ab_fin.q_rI (x := (τ9.i 24 3)) (ix := 78) (ci := 2) (k := 3) (pc' := 64) (by decide +kernel) rfl (c_rI (F10.s t0_24) rfl) rfl ?_
  refine ab_fin.q_yN (i := .invokevirtual 298) (k := 3) (y := 259) (As := [.ref 24, .int (τ3.i 24 3), .int (τ9.i 24 3)]) (rest := []) (M' := (mX1_aim, [])) (lv2 := [(0, .ref 24), (1, .int (τ3.i 24 3)), (2, .int (τ9.i 24 3))]) (pc' := 67) (X := K) (by decide +kernel) (ab_cv rfl rfl (conc_get (σ := τ9) (F10.s t0_24)) ⟨(Nat.le_of_ble_eq_true rfl), (Nat.le_of_ble_eq_true rfl)⟩ rfl) rfl (Nat.le_of_ble_eq_true rfl) rfl rfl (hY_no fun E => rfl) w (fun τ11 F12 w => ?_)
  refine ab_fin.s2 (i := .aload_n 0) (k := 1) (pc' := 68) (lv' := [(4, .int (τ7.i 24 3)), (3, .int (τ3.i 24 3)), (2, .ref 24), (0, .ref 40), (1, .int l1)]) (st' := [.ref 40]) (by decide +kernel) rfl rfl ?_
  refine ab_fin.s1i (i := .bipush 49) (k := 2) (pc' := 70) (n := 49) (by decide +kernel) rfl (by decide +kernel) rfl ?_
  refine ab_fin.q_yN (i := .invokevirtual 57) (k := 3) (y := 1799) (As := [.ref 40, .int 49]) (rest := []) (M' := (mX7_take, [])) (lv2 := [(0, .ref 40), (1, .int 49)]) (pc' := 73) (X := K) (by decide +kernel) (ab_cv rfl rfl (conc_get (σ := τ11) (F12.s t0_40)) ⟨(Nat.le_of_ble_eq_true rfl), (Nat.le_of_ble_eq_true rfl)⟩ rfl) rfl (Nat.le_of_ble_eq_true rfl) rfl rfl (hY_no fun E => rfl) w (fun τ13 F14 w => ?_)
  refine ab_fin.s2 (i := .aload_n 0) (k := 1) (pc' := 74) (lv' := [(4, .int (τ7.i 24 3)), (3, .int (τ3.i 24 3)), (2, .ref 24), (0, .ref 40), (1, .int l1)]) (st' := [.ref 40]) (by decide +kernel) rfl rfl ?_
  refine ab_fin.q_rI (x := (τ13.i 40 3)) (ix := 97) (ci := 8) (k := 3) (pc' := 77) (by decide +kernel) rfl (c_rI (F14.s t0_40) rfl) rfl ?_
  refine ab_fin.s2 (i := .istore 5) (k := 2) (pc' := 79) (lv' := [(5, .int (τ13.i 40 3)), (4, .int (τ7.i 24 3)), (3, .int (τ3.i 24 3)), (2, .ref 24), (0, .ref 40), (1, .int l1)]) (st' := []) (by decide +kernel) rfl rfl ?_
  refine ab_fin.s2 (i := .aload_n 0) (k := 1) (pc' := 80) (lv' := [(5, .int (τ13.i 40 3)), (4, .int (τ7.i 24 3)), (3, .int (τ3.i 24 3)), (2, .ref 24), (0, .ref 40), (1, .int l1)]) (st' := [.ref 40]) (by decide +kernel) rfl rfl ?_
  refine ab_fin.s1i (i := .iconst 2) (k := 1) (pc' := 81) (n := 2) (by decide +kernel) rfl (by decide +kernel) rfl ?_
  refine ab_fin.q_yN (i := .invokevirtual 57) (k := 3) (y := 1799) (As := [.ref 40, .int 2]) (rest := []) (M' := (mX7_take, [])) (lv2 := [(0, .ref 40), (1, .int 2)]) (pc' := 84) (X := K) (by decide +kernel) (ab_cv rfl rfl (conc_get (σ := τ13) (F14.s t0_40)) ⟨(Nat.le_of_ble_eq_true rfl), (Nat.le_of_ble_eq_true rfl)⟩ rfl) rfl (Nat.le_of_ble_eq_true rfl) rfl rfl (hY_no fun E => rfl) w (fun τ15 F16 w => ?_)
  refine ab_fin.s2 (i := .aload_n 0) (k := 1) (pc' := 85) (lv' := [(5, .int (τ13.i 40 3)), (4, .int (τ7.i 24 3)), (3, .int (τ3.i 24 3)), (2, .ref 24), (0, .ref 40), (1, .int l1)]) (st' := [.ref 40]) (by decide +kernel) rfl rfl ?_
  refine ab_fin.s1i (i := .bipush 47) (k := 2) (pc' := 87) (n := 47) (by decide +kernel) rfl (by decide +kernel) rfl ?_
  refine ab_fin.q_yN (i := .invokevirtual 57) (k := 3) (y := 1799) (As := [.ref 40, .int 47]) (rest := []) (M' := (mX7_take, [])) (lv2 := [(0, .ref 40), (1, .int 47)]) (pc' := 90) (X := K) (by decide +kernel) (ab_cv rfl rfl (conc_get (σ := τ15) (F16.s t0_40)) ⟨(Nat.le_of_ble_eq_true rfl), (Nat.le_of_ble_eq_true rfl)⟩ rfl) rfl (Nat.le_of_ble_eq_true rfl) rfl rfl (hY_no fun E => rfl) w (fun τ17 F18 w => ?_)
  refine ab_fin.s2 (i := .aload_n 0) (k := 1) (pc' := 91) (lv' := [(5, .int (τ13.i 40 3)), (4, .int (τ7.i 24 3)), (3, .int (τ3.i 24 3)), (2, .ref 24), (0, .ref 40), (1, .int l1)]) (st' := [.ref 40]) (by decide +kernel) rfl rfl ?_
  refine ab_fin.s2 (i := .iload 5) (k := 2) (pc' := 93) (lv' := [(5, .int (τ13.i 40 3)), (4, .int (τ7.i 24 3)), (3, .int (τ3.i 24 3)), (2, .ref 24), (0, .ref 40), (1, .int l1)]) (st' := [.int (τ13.i 40 3), .ref 40]) (by decide +kernel) rfl rfl ?_
  refine ab_fin.s2 (i := .iload_n 1) (k := 1) (pc' := 94) (lv' := [(5, .int (τ13.i 40 3)), (4, .int (τ7.i 24 3)), (3, .int (τ3.i 24 3)), (2, .ref 24), (0, .ref 40), (1, .int l1)]) (st' := [.int l1, .int (τ13.i 40 3), .ref 40]) (by decide +kernel) rfl rfl ?_
  refine ab_fin.q_yN (i := .invokevirtual 295) (k := 3) (y := 1818) (As := [.ref 40, .int (τ13.i 40 3), .int l1]) (rest := []) (M' := (mX7_readWithVariable, [])) (lv2 := [(0, .ref 40), (1, .int (τ13.i 40 3)), (2, .int l1)]) (pc' := 97) (X := K) (by decide +kernel) (ab_cv rfl rfl (conc_get (σ := τ17) (F18.s t0_40)) ⟨(Nat.le_of_ble_eq_true rfl), (Nat.le_of_ble_eq_true rfl)⟩ rfl) rfl (Nat.le_of_ble_eq_true rfl) rfl rfl (hY_no fun E => rfl) w (fun τ19 F20 w => ?_)
  refine ab_fin.s2 (i := .aload_n 2) (k := 1) (pc' := 98) (lv' := [(5, .int (τ13.i 40 3)), (4, .int (τ7.i 24 3)), (3, .int (τ3.i 24 3)), (2, .ref 24), (0, .ref 40), (1, .int l1)]) (st' := [.ref 24]) (by decide +kernel) rfl rfl ?_
  refine ab_fin.s2 (i := .iload 4) (k := 2) (pc' := 100) (lv' := [(5, .int (τ13.i 40 3)), (4, .int (τ7.i 24 3)), (3, .int (τ3.i 24 3)), (2, .ref 24), (0, .ref 40), (1, .int l1)]) (st' := [.int (τ7.i 24 3), .ref 24]) (by decide +kernel) rfl rfl ?_
  refine ab_fin.s2 (i := .aload_n 2) (k := 1) (pc' := 101) (lv' := [(5, .int (τ13.i 40 3)), (4, .int (τ7.i 24 3)), (3, .int (τ3.i 24 3)), (2, .ref 24), (0, .ref 40), (1, .int l1)]) (st' := [.ref 24, .int (τ7.i 24 3), .ref 24]) (by decide +kernel) rfl rfl ?_
  refine ab_fin.q_rI (x := (τ19.i 24 3)) (ix := 78) (ci := 2) (k := 3) (pc' := 104) (by decide +kernel) rfl (c_rI (F20.s t0_24) rfl) rfl ?_
  refine ab_fin.q_yN (i := .invokevirtual 298) (k := 3) (y := 259) (As := [.ref 24, .int (τ7.i 24 3), .int (τ19.i 24 3)]) (rest := []) (M' := (mX1_aim, [])) (lv2 := [(0, .ref 24), (1, .int (τ7.i 24 3)), (2, .int (τ19.i 24 3))]) (pc' := 107) (X := K) (by decide +kernel) (ab_cv rfl rfl (conc_get (σ := τ19) (F20.s t0_24)) ⟨(Nat.le_of_ble_eq_true rfl), (Nat.le_of_ble_eq_true rfl)⟩ rfl) rfl (Nat.le_of_ble_eq_true rfl) rfl rfl (hY_no fun E => rfl) w (fun τ21 F22 w => ?_)
  exact ab_fin.q_ret (i := .return_) (k := 1) (v := none) (by decide +kernel) rfl F22 w
theorem T_X7_readCompared_0 {Z : zT} {d : Nat} {σ : Sg} {l1 : Int32} {K : kS} (F : FX ΦC σ.sh σ.r) (w : C_X7_readSum_0 Z d σ l1 (yN K fun τ1 => C_X7_sign_0 Z d τ1  (yI K fun v5 τ3 => (¬ v5 = 33 → (v5 = 15 → C_X7_readCompared_79 Z (d + 1) τ3 l1 (σ.i 24 3) v5 K) ∧ (¬ v5 = 15 → (v5 = 17 → C_X7_readCompared_79 Z (d + 1) τ3 l1 (σ.i 24 3) v5 K) ∧ (¬ v5 = 17 → (¬ v5 = 16 → K (.inl none) τ3) ∧ (v5 = 16 → C_X7_readCompared_79 Z (d + 1) τ3 l1 (σ.i 24 3) v5 K)))) ∧ (v5 = 33 → C_X7_addNode_0 Z d τ3 (τ3.i 40 3) (σ.i 24 3) (yN K fun τ6 => C_X7_take_0 Z d τ6 33 (yN K fun τ8 => C_X7_takeKnownName_0 Z d τ8 0 (yI K fun v12 τ10 => C_X1_emit_0 Z d τ10 4 v12 (yN K fun τ13 => K (.inl none) τ13)))))))) : C_X7_readCompared_0 Z (d + 1) σ l1 K := by
  unfold C_X7_readCompared_0
  refine ab_fin.s2 (i := .aload_n 0) (k := 1) (pc' := 1) (lv' := [(0, .ref 40), (1, .int l1)]) (st' := [.ref 40]) (by decide +kernel) rfl rfl ?_
  refine ab_fin.q_rA (b := 1) (ix := 18) (ci := 8) (k := 0) (pc' := 4) (by decide +kernel) rfl (c_rA (F.s t0_40) rfl (rC_8_0 F t0_40)) rfl ?_
  refine ab_fin.q_rA (b := 24) (ix := 74) (ci := 12) (k := 2) (pc' := 7) (by decide +kernel) rfl (c_rA (F.s t0_1) rfl (rC_12_2 F t0_1)) rfl ?_
  refine ab_fin.q_rI (x := (σ.i 24 3)) (ix := 78) (ci := 2) (k := 3) (pc' := 10) (by decide +kernel) rfl (c_rI (F.s t0_24) rfl) rfl ?_
  refine ab_fin.s2 (i := .istore_n 2) (k := 1) (pc' := 11) (lv' := [(2, .int (σ.i 24 3)), (0, .ref 40), (1, .int l1)]) (st' := []) (by decide +kernel) rfl rfl ?_
  refine ab_fin.s2 (i := .aload_n 0) (k := 1) (pc' := 12) (lv' := [(2, .int (σ.i 24 3)), (0, .ref 40), (1, .int l1)]) (st' := [.ref 40]) (by decide +kernel) rfl rfl ?_
  refine ab_fin.s2 (i := .iload_n 1) (k := 1) (pc' := 13) (lv' := [(2, .int (σ.i 24 3)), (0, .ref 40), (1, .int l1)]) (st' := [.int l1, .ref 40]) (by decide +kernel) rfl rfl ?_
  refine ab_fin.q_yN (i := .invokevirtual 301) (k := 3) (y := 1823) (As := [.ref 40, .int l1]) (rest := []) (M' := (mX7_readSum, [])) (lv2 := [(0, .ref 40), (1, .int l1)]) (pc' := 16) (X := K) (by decide +kernel) (ab_cv rfl rfl (conc_get (σ := σ) (F.s t0_40)) ⟨(Nat.le_of_ble_eq_true rfl), (Nat.le_of_ble_eq_true rfl)⟩ rfl) rfl (Nat.le_of_ble_eq_true rfl) rfl rfl (hY_no fun E => rfl) w (fun τ1 F2 w => ?_)
  refine ab_fin.s2 (i := .aload_n 0) (k := 1) (pc' := 17) (lv' := [(2, .int (σ.i 24 3)), (0, .ref 40), (1, .int l1)]) (st' := [.ref 40]) (by decide +kernel) rfl rfl ?_
  refine ab_fin.q_yI (i := .invokevirtual 41) (k := 3) (y := 1798) (As := [.ref 40]) (rest := []) (M' := (mX7_sign, [])) (lv2 := [(0, .ref 40)]) (pc' := 20) (X := K) (by decide +kernel) (ab_cv rfl rfl (conc_get (σ := τ1) (F2.s t0_40)) ⟨(Nat.le_of_ble_eq_true rfl), (Nat.le_of_ble_eq_true rfl)⟩ rfl) rfl (Nat.le_of_ble_eq_true rfl) rfl rfl (hY_no fun E => rfl) w (fun v5 τ3 F4 w => ?_)
  refine ab_fin.s2 (i := .istore_n 3) (k := 1) (pc' := 21) (lv' := [(3, .int v5), (2, .int (σ.i 24 3)), (0, .ref 40), (1, .int l1)]) (st' := []) (by decide +kernel) rfl rfl ?_
  refine ab_fin.s2 (i := .iload_n 3) (k := 1) (pc' := 22) (lv' := [(3, .int v5), (2, .int (σ.i 24 3)), (0, .ref 40), (1, .int l1)]) (st' := [.int v5]) (by decide +kernel) rfl rfl ?_
  refine ab_fin.s1i (i := .bipush 33) (k := 2) (pc' := 24) (n := 33) (by decide +kernel) rfl (by decide +kernel) rfl ?_
  refine ab_fin.br (c := ¬ v5 = 33) (i := .if_icmp .ne 37) (off := 37) (t := 61) (pc' := 27) (r := []) (by decide +kernel) rfl (by decide +kernel) rfl (fun q => ?_) (fun q => ?_)
  · replace w := w.1 q
    refine ab_fin.s2 (i := .iload_n 3) (k := 1) (pc' := 62) (lv' := [(3, .int v5), (2, .int (σ.i 24 3)), (0, .ref 40), (1, .int l1)]) (st' := [.int v5]) (by decide +kernel) rfl rfl ?_
    refine ab_fin.s1i (i := .bipush 15) (k := 2) (pc' := 64) (n := 15) (by decide +kernel) rfl (by decide +kernel) rfl ?_
    refine ab_fin.br (c := v5 = 15) (i := .if_icmp .eq 15) (off := 15) (t := 79) (pc' := 67) (r := []) (by decide +kernel) rfl (by decide +kernel) rfl (fun q => ?_) (fun q => ?_)
    · replace w := w.1 q
      exact ab_fin.lv ⟨(List.forall_mem_cons.mpr ⟨(List.Mem.tail _ (List.Mem.tail _ (List.Mem.head _))), (List.forall_mem_cons.mpr ⟨(List.Mem.tail _ (List.Mem.tail _ (List.Mem.tail _ (List.Mem.head _)))), (List.forall_mem_cons.mpr ⟨(List.Mem.tail _ (List.Mem.head _)), (List.forall_mem_cons.mpr ⟨(List.Mem.head _), (fun _ h => absurd h List.not_mem_nil)⟩)⟩)⟩)⟩), (show ([3, 2, 0, 1] : List Nat).Nodup from by decide)⟩ w
    · replace w := w.2 q
      refine ab_fin.s2 (i := .iload_n 3) (k := 1) (pc' := 68) (lv' := [(3, .int v5), (2, .int (σ.i 24 3)), (0, .ref 40), (1, .int l1)]) (st' := [.int v5]) (by decide +kernel) rfl rfl ?_
      refine ab_fin.s1i (i := .bipush 17) (k := 2) (pc' := 70) (n := 17) (by decide +kernel) rfl (by decide +kernel) rfl ?_
      refine ab_fin.br (c := v5 = 17) (i := .if_icmp .eq 9) (off := 9) (t := 79) (pc' := 73) (r := []) (by decide +kernel) rfl (by decide +kernel) rfl (fun q => ?_) (fun q => ?_)
      · replace w := w.1 q
        exact ab_fin.lv ⟨(List.forall_mem_cons.mpr ⟨(List.Mem.tail _ (List.Mem.tail _ (List.Mem.head _))), (List.forall_mem_cons.mpr ⟨(List.Mem.tail _ (List.Mem.tail _ (List.Mem.tail _ (List.Mem.head _)))), (List.forall_mem_cons.mpr ⟨(List.Mem.tail _ (List.Mem.head _)), (List.forall_mem_cons.mpr ⟨(List.Mem.head _), (fun _ h => absurd h List.not_mem_nil)⟩)⟩)⟩)⟩), (show ([3, 2, 0, 1] : List Nat).Nodup from by decide)⟩ w
      · replace w := w.2 q
        refine ab_fin.s2 (i := .iload_n 3) (k := 1) (pc' := 74) (lv' := [(3, .int v5), (2, .int (σ.i 24 3)), (0, .ref 40), (1, .int l1)]) (st' := [.int v5]) (by decide +kernel) rfl rfl ?_
        refine ab_fin.s1i (i := .bipush 16) (k := 2) (pc' := 76) (n := 16) (by decide +kernel) rfl (by decide +kernel) rfl ?_
        refine ab_fin.br (c := ¬ v5 = 16) (i := .if_icmp .ne 57) (off := 57) (t := 133) (pc' := 79) (r := []) (by decide +kernel) rfl (by decide +kernel) rfl (fun q => ?_) (fun q => ?_)
        · replace w := w.1 q
          exact ab_fin.q_ret (i := .return_) (k := 1) (v := none) (by decide +kernel) rfl F4 w
        · replace w := w.2 (Decidable.of_not_not q)
          exact ab_fin.lv ⟨(List.forall_mem_cons.mpr ⟨(List.Mem.tail _ (List.Mem.tail _ (List.Mem.head _))), (List.forall_mem_cons.mpr ⟨(List.Mem.tail _ (List.Mem.tail _ (List.Mem.tail _ (List.Mem.head _)))), (List.forall_mem_cons.mpr ⟨(List.Mem.tail _ (List.Mem.head _)), (List.forall_mem_cons.mpr ⟨(List.Mem.head _), (fun _ h => absurd h List.not_mem_nil)⟩)⟩)⟩)⟩), (show ([3, 2, 0, 1] : List Nat).Nodup from by decide)⟩ w
  · replace w := w.2 (Decidable.of_not_not q)
    refine ab_fin.s2 (i := .aload_n 0) (k := 1) (pc' := 28) (lv' := [(3, .int v5), (2, .int (σ.i 24 3)), (0, .ref 40), (1, .int l1)]) (st' := [.ref 40]) (by decide +kernel) rfl rfl ?_
    refine ab_fin.s2 (i := .aload_n 0) (k := 1) (pc' := 29) (lv' := [(3, .int v5), (2, .int (σ.i 24 3)), (0, .ref 40), (1, .int l1)]) (st' := [.ref 40, .ref 40]) (by decide +kernel) rfl rfl ?_
    refine ab_fin.q_rI (x := (τ3.i 40 3)) (ix := 97) (ci := 8) (k := 3) (pc' := 32) (by decide +kernel) rfl (c_rI (F4.s t0_40) rfl) rfl ?_
    refine ab_fin.s2 (i := .iload_n 2) (k := 1) (pc' := 33) (lv' := [(3, .int v5), (2, .int (σ.i 24 3)), (0, .ref 40), (1, .int l1)]) (st' := [.int (σ.i 24 3), .int (τ3.i 40 3), .ref 40]) (by decide +kernel) rfl rfl ?_
    refine ab_fin.q_yN (i := .invokevirtual 289) (k := 3) (y := 1815) (As := [.ref 40, .int (τ3.i 40 3), .int (σ.i 24 3)]) (rest := []) (M' := (mX7_addNode, [])) (lv2 := [(0, .ref 40), (1, .int (τ3.i 40 3)), (2, .int (σ.i 24 3))]) (pc' := 36) (X := K) (by decide +kernel) (ab_cv rfl rfl (conc_get (σ := τ3) (F4.s t0_40)) ⟨(Nat.le_of_ble_eq_true rfl), (Nat.le_of_ble_eq_true rfl)⟩ rfl) rfl (Nat.le_of_ble_eq_true rfl) rfl rfl (hY_no fun E => rfl) w (fun τ6 F7 w => ?_)
    refine ab_fin.s2 (i := .aload_n 0) (k := 1) (pc' := 37) (lv' := [(3, .int v5), (2, .int (σ.i 24 3)), (0, .ref 40), (1, .int l1)]) (st' := [.ref 40]) (by decide +kernel) rfl rfl ?_
    refine ab_fin.s1i (i := .bipush 33) (k := 2) (pc' := 39) (n := 33) (by decide +kernel) rfl (by decide +kernel) rfl ?_
    refine ab_fin.q_yN (i := .invokevirtual 57) (k := 3) (y := 1799) (As := [.ref 40, .int 33]) (rest := []) (M' := (mX7_take, [])) (lv2 := [(0, .ref 40), (1, .int 33)]) (pc' := 42) (X := K) (by decide +kernel) (ab_cv rfl rfl (conc_get (σ := τ6) (F7.s t0_40)) ⟨(Nat.le_of_ble_eq_true rfl), (Nat.le_of_ble_eq_true rfl)⟩ rfl) rfl (Nat.le_of_ble_eq_true rfl) rfl rfl (hY_no fun E => rfl) w (fun τ8 F9 w => ?_)
    refine ab_fin.s2 (i := .aload_n 0) (k := 1) (pc' := 43) (lv' := [(3, .int v5), (2, .int (σ.i 24 3)), (0, .ref 40), (1, .int l1)]) (st' := [.ref 40]) (by decide +kernel) rfl rfl ?_
    refine ab_fin.q_rA (b := 1) (ix := 18) (ci := 8) (k := 0) (pc' := 46) (by decide +kernel) rfl (c_rA (F9.s t0_40) rfl (rC_8_0 F9 t0_40)) rfl ?_
    refine ab_fin.q_rA (b := 24) (ix := 74) (ci := 12) (k := 2) (pc' := 49) (by decide +kernel) rfl (c_rA (F9.s t0_1) rfl (rC_12_2 F9 t0_1)) rfl ?_
    refine ab_fin.s1i (i := .iconst 4) (k := 1) (pc' := 50) (n := 4) (by decide +kernel) rfl (by decide +kernel) rfl ?_
    refine ab_fin.s2 (i := .aload_n 0) (k := 1) (pc' := 51) (lv' := [(3, .int v5), (2, .int (σ.i 24 3)), (0, .ref 40), (1, .int l1)]) (st' := [.ref 40, .int 4, .ref 24]) (by decide +kernel) rfl rfl ?_
    refine ab_fin.s1i (i := .iconst 0) (k := 1) (pc' := 52) (n := 0) (by decide +kernel) rfl (by decide +kernel) rfl ?_
    refine ab_fin.q_yI (i := .invokevirtual 151) (k := 3) (y := 1802) (As := [.ref 40, .int 0]) (rest := [.int 4, .ref 24]) (M' := (mX7_takeKnownName, [])) (lv2 := [(0, .ref 40), (1, .int 0)]) (pc' := 55) (X := K) (by decide +kernel) (ab_cv rfl rfl (conc_get (σ := τ8) (F9.s t0_40)) ⟨(Nat.le_of_ble_eq_true rfl), (Nat.le_of_ble_eq_true rfl)⟩ rfl) rfl (Nat.le_of_ble_eq_true rfl) rfl rfl (hY_no fun E => rfl) w (fun v12 τ10 F11 w => ?_)
    refine ab_fin.q_yN (i := .invokevirtual 271) (k := 3) (y := 258) (As := [.ref 24, .int 4, .int v12]) (rest := []) (M' := (mX1_emit, [])) (lv2 := [(0, .ref 24), (1, .int 4), (2, .int v12)]) (pc' := 58) (X := K) (by decide +kernel) (ab_cv rfl rfl (conc_get (σ := τ10) (F11.s t0_24)) ⟨(Nat.le_of_ble_eq_true rfl), (Nat.le_of_ble_eq_true rfl)⟩ rfl) rfl (Nat.le_of_ble_eq_true rfl) rfl rfl (hY_no fun E => rfl) w (fun τ13 F14 w => ?_)
    refine ab_fin.s3 (i := .goto 75) (k := 3) (t := 133) (st' := []) (by decide +kernel) (ab_gto (by decide +kernel)) ?_
    exact ab_fin.q_ret (i := .return_) (k := 1) (v := none) (by decide +kernel) rfl F14 w
theorem T_X7_readCompared_79 {Z : zT} {d : Nat} {σ : Sg} {l1 : Int32} {l2 : Int32} {l3 : Int32} {K : kS} (F : FX ΦC σ.sh σ.r) (w : C_X7_addNode_0 Z d σ (σ.i 40 3) l2 (yN K fun τ1 => C_X7_take_0 Z d τ1 l3 (yN K fun τ3 => C_X7_readSum_0 Z d τ3 l1 (yN K fun τ5 => (¬ l3 = 15 → (¬ l3 = 17 → C_X1_emit_0 Z d τ5 11 0 (yN K fun τ7 => K (.inl none) τ7)) ∧ (l3 = 17 → C_X1_emit_0 Z d τ5 10 0 (yN K fun τ9 => K (.inl none) τ9))) ∧ (l3 = 15 → C_X1_emit_0 Z d τ5 9 0 (yN K fun τ11 => K (.inl none) τ11)))))) : C_X7_readCompared_79 Z (d + 1) σ l1 l2 l3 K := by
  unfold C_X7_readCompared_79
  refine ab_fin.s2 (i := .aload_n 0) (k := 1) (pc' := 80) (lv' := [(0, .ref 40), (1, .int l1), (2, .int l2), (3, .int l3)]) (st' := [.ref 40]) (by decide +kernel) rfl rfl ?_
  refine ab_fin.s2 (i := .aload_n 0) (k := 1) (pc' := 81) (lv' := [(0, .ref 40), (1, .int l1), (2, .int l2), (3, .int l3)]) (st' := [.ref 40, .ref 40]) (by decide +kernel) rfl rfl ?_
  refine ab_fin.q_rI (x := (σ.i 40 3)) (ix := 97) (ci := 8) (k := 3) (pc' := 84) (by decide +kernel) rfl (c_rI (F.s t0_40) rfl) rfl ?_
  refine ab_fin.s2 (i := .iload_n 2) (k := 1) (pc' := 85) (lv' := [(0, .ref 40), (1, .int l1), (2, .int l2), (3, .int l3)]) (st' := [.int l2, .int (σ.i 40 3), .ref 40]) (by decide +kernel) rfl rfl ?_
  refine ab_fin.q_yN (i := .invokevirtual 289) (k := 3) (y := 1815) (As := [.ref 40, .int (σ.i 40 3), .int l2]) (rest := []) (M' := (mX7_addNode, [])) (lv2 := [(0, .ref 40), (1, .int (σ.i 40 3)), (2, .int l2)]) (pc' := 88) (X := K) (by decide +kernel) (ab_cv rfl rfl (conc_get (σ := σ) (F.s t0_40)) ⟨(Nat.le_of_ble_eq_true rfl), (Nat.le_of_ble_eq_true rfl)⟩ rfl) rfl (Nat.le_of_ble_eq_true rfl) rfl rfl (hY_no fun E => rfl) w (fun τ1 F2 w => ?_)
  refine ab_fin.s2 (i := .aload_n 0) (k := 1) (pc' := 89) (lv' := [(0, .ref 40), (1, .int l1), (2, .int l2), (3, .int l3)]) (st' := [.ref 40]) (by decide +kernel) rfl rfl ?_
  refine ab_fin.s2 (i := .iload_n 3) (k := 1) (pc' := 90) (lv' := [(0, .ref 40), (1, .int l1), (2, .int l2), (3, .int l3)]) (st' := [.int l3, .ref 40]) (by decide +kernel) rfl rfl ?_
  refine ab_fin.q_yN (i := .invokevirtual 57) (k := 3) (y := 1799) (As := [.ref 40, .int l3]) (rest := []) (M' := (mX7_take, [])) (lv2 := [(0, .ref 40), (1, .int l3)]) (pc' := 93) (X := K) (by decide +kernel) (ab_cv rfl rfl (conc_get (σ := τ1) (F2.s t0_40)) ⟨(Nat.le_of_ble_eq_true rfl), (Nat.le_of_ble_eq_true rfl)⟩ rfl) rfl (Nat.le_of_ble_eq_true rfl) rfl rfl (hY_no fun E => rfl) w (fun τ3 F4 w => ?_)
  refine ab_fin.s2 (i := .aload_n 0) (k := 1) (pc' := 94) (lv' := [(0, .ref 40), (1, .int l1), (2, .int l2), (3, .int l3)]) (st' := [.ref 40]) (by decide +kernel) rfl rfl ?_
  refine ab_fin.s2 (i := .iload_n 1) (k := 1) (pc' := 95) (lv' := [(0, .ref 40), (1, .int l1), (2, .int l2), (3, .int l3)]) (st' := [.int l1, .ref 40]) (by decide +kernel) rfl rfl ?_
  refine ab_fin.q_yN (i := .invokevirtual 301) (k := 3) (y := 1823) (As := [.ref 40, .int l1]) (rest := []) (M' := (mX7_readSum, [])) (lv2 := [(0, .ref 40), (1, .int l1)]) (pc' := 98) (X := K) (by decide +kernel) (ab_cv rfl rfl (conc_get (σ := τ3) (F4.s t0_40)) ⟨(Nat.le_of_ble_eq_true rfl), (Nat.le_of_ble_eq_true rfl)⟩ rfl) rfl (Nat.le_of_ble_eq_true rfl) rfl rfl (hY_no fun E => rfl) w (fun τ5 F6 w => ?_)
  refine ab_fin.s2 (i := .aload_n 0) (k := 1) (pc' := 99) (lv' := [(0, .ref 40), (1, .int l1), (2, .int l2), (3, .int l3)]) (st' := [.ref 40]) (by decide +kernel) rfl rfl ?_
  refine ab_fin.q_rA (b := 1) (ix := 18) (ci := 8) (k := 0) (pc' := 102) (by decide +kernel) rfl (c_rA (F6.s t0_40) rfl (rC_8_0 F6 t0_40)) rfl ?_
  refine ab_fin.q_rA (b := 24) (ix := 74) (ci := 12) (k := 2) (pc' := 105) (by decide +kernel) rfl (c_rA (F6.s t0_1) rfl (rC_12_2 F6 t0_1)) rfl ?_
  refine ab_fin.s2 (i := .iload_n 3) (k := 1) (pc' := 106) (lv' := [(0, .ref 40), (1, .int l1), (2, .int l2), (3, .int l3)]) (st' := [.int l3, .ref 24]) (by decide +kernel) rfl rfl ?_
  refine ab_fin.s1i (i := .bipush 15) (k := 2) (pc' := 108) (n := 15) (by decide +kernel) rfl (by decide +kernel) rfl ?_
  refine ab_fin.br (c := ¬ l3 = 15) (i := .if_icmp .ne 8) (off := 8) (t := 116) (pc' := 111) (r := [.ref 24]) (by decide +kernel) rfl (by decide +kernel) rfl (fun q => ?_) (fun q => ?_)
  · replace w := w.1 q
    refine ab_fin.s2 (i := .iload_n 3) (k := 1) (pc' := 117) (lv' := [(0, .ref 40), (1, .int l1), (2, .int l2), (3, .int l3)]) (st' := [.int l3, .ref 24]) (by decide +kernel) rfl rfl ?_
    refine ab_fin.s1i (i := .bipush 17) (k := 2) (pc' := 119) (n := 17) (by decide +kernel) rfl (by decide +kernel) rfl ?_
    refine ab_fin.br (c := ¬ l3 = 17) (i := .if_icmp .ne 8) (off := 8) (t := 127) (pc' := 122) (r := [.ref 24]) (by decide +kernel) rfl (by decide +kernel) rfl (fun q => ?_) (fun q => ?_)
    · replace w := w.1 q
      refine ab_fin.s1i (i := .bipush 11) (k := 2) (pc' := 129) (n := 11) (by decide +kernel) rfl (by decide +kernel) rfl ?_
      refine ab_fin.s1i (i := .iconst 0) (k := 1) (pc' := 130) (n := 0) (by decide +kernel) rfl (by decide +kernel) rfl ?_
      refine ab_fin.q_yN (i := .invokevirtual 271) (k := 3) (y := 258) (As := [.ref 24, .int 11, .int 0]) (rest := []) (M' := (mX1_emit, [])) (lv2 := [(0, .ref 24), (1, .int 11), (2, .int 0)]) (pc' := 133) (X := K) (by decide +kernel) (ab_cv rfl rfl (conc_get (σ := τ5) (F6.s t0_24)) ⟨(Nat.le_of_ble_eq_true rfl), (Nat.le_of_ble_eq_true rfl)⟩ rfl) rfl (Nat.le_of_ble_eq_true rfl) rfl rfl (hY_no fun E => rfl) w (fun τ7 F8 w => ?_)
      exact ab_fin.q_ret (i := .return_) (k := 1) (v := none) (by decide +kernel) rfl F8 w
    · replace w := w.2 (Decidable.of_not_not q)
      refine ab_fin.s1i (i := .bipush 10) (k := 2) (pc' := 124) (n := 10) (by decide +kernel) rfl (by decide +kernel) rfl ?_
      refine ab_fin.s3 (i := .goto 5) (k := 3) (t := 129) (st' := [.int 10, .ref 24]) (by decide +kernel) (ab_gto (by decide +kernel)) ?_
      refine ab_fin.s1i (i := .iconst 0) (k := 1) (pc' := 130) (n := 0) (by decide +kernel) rfl (by decide +kernel) rfl ?_
      refine ab_fin.q_yN (i := .invokevirtual 271) (k := 3) (y := 258) (As := [.ref 24, .int 10, .int 0]) (rest := []) (M' := (mX1_emit, [])) (lv2 := [(0, .ref 24), (1, .int 10), (2, .int 0)]) (pc' := 133) (X := K) (by decide +kernel) (ab_cv rfl rfl (conc_get (σ := τ5) (F6.s t0_24)) ⟨(Nat.le_of_ble_eq_true rfl), (Nat.le_of_ble_eq_true rfl)⟩ rfl) rfl (Nat.le_of_ble_eq_true rfl) rfl rfl (hY_no fun E => rfl) w (fun τ9 F10 w => ?_)
      exact ab_fin.q_ret (i := .return_) (k := 1) (v := none) (by decide +kernel) rfl F10 w
  · replace w := w.2 (Decidable.of_not_not q)
    refine ab_fin.s1i (i := .bipush 9) (k := 2) (pc' := 113) (n := 9) (by decide +kernel) rfl (by decide +kernel) rfl ?_
    refine ab_fin.s3 (i := .goto 16) (k := 3) (t := 129) (st' := [.int 9, .ref 24]) (by decide +kernel) (ab_gto (by decide +kernel)) ?_
    refine ab_fin.s1i (i := .iconst 0) (k := 1) (pc' := 130) (n := 0) (by decide +kernel) rfl (by decide +kernel) rfl ?_
    refine ab_fin.q_yN (i := .invokevirtual 271) (k := 3) (y := 258) (As := [.ref 24, .int 9, .int 0]) (rest := []) (M' := (mX1_emit, [])) (lv2 := [(0, .ref 24), (1, .int 9), (2, .int 0)]) (pc' := 133) (X := K) (by decide +kernel) (ab_cv rfl rfl (conc_get (σ := τ5) (F6.s t0_24)) ⟨(Nat.le_of_ble_eq_true rfl), (Nat.le_of_ble_eq_true rfl)⟩ rfl) rfl (Nat.le_of_ble_eq_true rfl) rfl rfl (hY_no fun E => rfl) w (fun τ11 F12 w => ?_)
    exact ab_fin.q_ret (i := .return_) (k := 1) (v := none) (by decide +kernel) rfl F12 w
theorem T_X7_readSum_0 {Z : zT} {d : Nat} {σ : Sg} {l1 : Int32} {K : kS} (F : FX ΦC σ.sh σ.r) (w : C_X7_readSum_19 Z (d + 1) σ l1 (σ.i 24 3) (-1) 1 0 K) : C_X7_readSum_0 Z (d + 1) σ l1 K := by
  unfold C_X7_readSum_0
  refine ab_fin.s2 (i := .aload_n 0) (k := 1) (pc' := 1) (lv' := [(0, .ref 40), (1, .int l1)]) (st' := [.ref 40]) (by decide +kernel) rfl rfl ?_
  refine ab_fin.q_rA (b := 1) (ix := 18) (ci := 8) (k := 0) (pc' := 4) (by decide +kernel) rfl (c_rA (F.s t0_40) rfl (rC_8_0 F t0_40)) rfl ?_
  refine ab_fin.q_rA (b := 24) (ix := 74) (ci := 12) (k := 2) (pc' := 7) (by decide +kernel) rfl (c_rA (F.s t0_1) rfl (rC_12_2 F t0_1)) rfl ?_
  refine ab_fin.q_rI (x := (σ.i 24 3)) (ix := 78) (ci := 2) (k := 3) (pc' := 10) (by decide +kernel) rfl (c_rI (F.s t0_24) rfl) rfl ?_
  refine ab_fin.s2 (i := .istore_n 2) (k := 1) (pc' := 11) (lv' := [(2, .int (σ.i 24 3)), (0, .ref 40), (1, .int l1)]) (st' := []) (by decide +kernel) rfl rfl ?_
  refine ab_fin.s1i (i := .iconst (-1)) (k := 1) (pc' := 12) (n := (-1)) (by decide +kernel) rfl (by decide +kernel) rfl ?_
  refine ab_fin.s2 (i := .istore_n 3) (k := 1) (pc' := 13) (lv' := [(3, .int (-1)), (2, .int (σ.i 24 3)), (0, .ref 40), (1, .int l1)]) (st' := []) (by decide +kernel) rfl rfl ?_
  refine ab_fin.s1i (i := .iconst 1) (k := 1) (pc' := 14) (n := 1) (by decide +kernel) rfl (by decide +kernel) rfl ?_
  refine ab_fin.s2 (i := .istore 4) (k := 2) (pc' := 16) (lv' := [(4, .int 1), (3, .int (-1)), (2, .int (σ.i 24 3)), (0, .ref 40), (1, .int l1)]) (st' := []) (by decide +kernel) rfl rfl ?_
  refine ab_fin.s1i (i := .iconst 0) (k := 1) (pc' := 17) (n := 0) (by decide +kernel) rfl (by decide +kernel) rfl ?_
  refine ab_fin.s2 (i := .istore 5) (k := 2) (pc' := 19) (lv' := [(5, .int 0), (4, .int 1), (3, .int (-1)), (2, .int (σ.i 24 3)), (0, .ref 40), (1, .int l1)]) (st' := []) (by decide +kernel) rfl rfl ?_
  exact ab_fin.lv ⟨(List.forall_mem_cons.mpr ⟨(List.Mem.tail _ (List.Mem.tail _ (List.Mem.tail _ (List.Mem.tail _ (List.Mem.head _))))), (List.forall_mem_cons.mpr ⟨(List.Mem.tail _ (List.Mem.tail _ (List.Mem.tail _ (List.Mem.tail _ (List.Mem.tail _ (List.Mem.head _)))))), (List.forall_mem_cons.mpr ⟨(List.Mem.tail _ (List.Mem.tail _ (List.Mem.tail _ (List.Mem.head _)))), (List.forall_mem_cons.mpr ⟨(List.Mem.tail _ (List.Mem.tail _ (List.Mem.head _))), (List.forall_mem_cons.mpr ⟨(List.Mem.tail _ (List.Mem.head _)), (List.forall_mem_cons.mpr ⟨(List.Mem.head _), (fun _ h => absurd h List.not_mem_nil)⟩)⟩)⟩)⟩)⟩)⟩), (show ([5, 4, 3, 2, 0, 1] : List Nat).Nodup from by decide)⟩ w
theorem T_X7_readSum_19 {Z : zT} {d : Nat} {σ : Sg} {l1 : Int32} {l2 : Int32} {l3 : Int32} {l4 : Int32} {l5 : Int32} {K : kS} (F : FX ΦC σ.sh σ.r) (w : ((σ.i 41 4) ≤ l5 → K (.inl none) σ) ∧ (¬ (σ.i 41 4) ≤ l5 → (l4 = 0 → K (.inl none) σ) ∧ (¬ l4 = 0 → C_X7_readProduct_0 Z d σ l1 (yN K fun τ1 => (l3 = (-1) → C_X7_readSum_69 Z (d + 1) τ1 l1 l2 l5 K) ∧ (¬ l3 = (-1) → (¬ l3 = 9 → C_X7_readSum_65 Z (d + 1) τ1 l1 l2 l5 6 K) ∧ (l3 = 9 → C_X7_readSum_65 Z (d + 1) τ1 l1 l2 l5 5 K)))))) : C_X7_readSum_19 Z (d + 1) σ l1 l2 l3 l4 l5 K := by
  unfold C_X7_readSum_19
  refine ab_fin.s2 (i := .iload 5) (k := 2) (pc' := 21) (lv' := [(0, .ref 40), (1, .int l1), (2, .int l2), (3, .int l3), (4, .int l4), (5, .int l5)]) (st' := [.int l5]) (by decide +kernel) rfl rfl ?_
  refine ab_fin.s2 (i := .aload_n 0) (k := 1) (pc' := 22) (lv' := [(0, .ref 40), (1, .int l1), (2, .int l2), (3, .int l3), (4, .int l4), (5, .int l5)]) (st' := [.ref 40, .int l5]) (by decide +kernel) rfl rfl ?_
  refine ab_fin.q_rA (b := 41) (ix := 12) (ci := 8) (k := 1) (pc' := 25) (by decide +kernel) rfl (c_rA (F.s t0_40) rfl (rC_8_1 F t0_40)) rfl ?_
  refine ab_fin.q_rI (x := (σ.i 41 4)) (ix := 34) (ci := 9) (k := 4) (pc' := 28) (by decide +kernel) rfl (c_rI (F.s t0_41) rfl) rfl ?_
  refine ab_fin.br (c := (σ.i 41 4) ≤ l5) (i := .if_icmp .ge 90) (off := 90) (t := 118) (pc' := 31) (r := []) (by decide +kernel) rfl (by decide +kernel) rfl (fun q => ?_) (fun q => ?_)
  · replace w := w.1 q
    exact ab_fin.q_ret (i := .return_) (k := 1) (v := none) (by decide +kernel) rfl F w
  · replace w := w.2 q
    refine ab_fin.s2 (i := .iload 4) (k := 2) (pc' := 33) (lv' := [(0, .ref 40), (1, .int l1), (2, .int l2), (3, .int l3), (4, .int l4), (5, .int l5)]) (st' := [.int l4]) (by decide +kernel) rfl rfl ?_
    refine ab_fin.br (c := l4 = 0) (i := .ifCond .eq 85) (off := 85) (t := 118) (pc' := 36) (r := []) (by decide +kernel) rfl (by decide +kernel) rfl (fun q => ?_) (fun q => ?_)
    · replace w := w.1 q
      exact ab_fin.q_ret (i := .return_) (k := 1) (v := none) (by decide +kernel) rfl F w
    · replace w := w.2 q
      refine ab_fin.s2 (i := .aload_n 0) (k := 1) (pc' := 37) (lv' := [(0, .ref 40), (1, .int l1), (2, .int l2), (3, .int l3), (4, .int l4), (5, .int l5)]) (st' := [.ref 40]) (by decide +kernel) rfl rfl ?_
      refine ab_fin.s2 (i := .iload_n 1) (k := 1) (pc' := 38) (lv' := [(0, .ref 40), (1, .int l1), (2, .int l2), (3, .int l3), (4, .int l4), (5, .int l5)]) (st' := [.int l1, .ref 40]) (by decide +kernel) rfl rfl ?_
      refine ab_fin.q_yN (i := .invokevirtual 304) (k := 3) (y := 1824) (As := [.ref 40, .int l1]) (rest := []) (M' := (mX7_readProduct, [])) (lv2 := [(0, .ref 40), (1, .int l1)]) (pc' := 41) (X := K) (by decide +kernel) (ab_cv rfl rfl (conc_get (σ := σ) (F.s t0_40)) ⟨(Nat.le_of_ble_eq_true rfl), (Nat.le_of_ble_eq_true rfl)⟩ rfl) rfl (Nat.le_of_ble_eq_true rfl) rfl rfl (hY_no fun E => rfl) w (fun τ1 F2 w => ?_)
      refine ab_fin.s2 (i := .iload_n 3) (k := 1) (pc' := 42) (lv' := [(0, .ref 40), (1, .int l1), (2, .int l2), (3, .int l3), (4, .int l4), (5, .int l5)]) (st' := [.int l3]) (by decide +kernel) rfl rfl ?_
      refine ab_fin.s1i (i := .iconst (-1)) (k := 1) (pc' := 43) (n := (-1)) (by decide +kernel) rfl (by decide +kernel) rfl ?_
      refine ab_fin.br (c := l3 = (-1)) (i := .if_icmp .eq 26) (off := 26) (t := 69) (pc' := 46) (r := []) (by decide +kernel) rfl (by decide +kernel) rfl (fun q => ?_) (fun q => ?_)
      · replace w := w.1 q
        exact ab_fin.lv ⟨(List.forall_mem_cons.mpr ⟨(List.Mem.head _), (List.forall_mem_cons.mpr ⟨(List.Mem.tail _ (List.Mem.head _)), (List.forall_mem_cons.mpr ⟨(List.Mem.tail _ (List.Mem.tail _ (List.Mem.head _))), (List.forall_mem_cons.mpr ⟨(List.Mem.tail _ (List.Mem.tail _ (List.Mem.tail _ (List.Mem.tail _ (List.Mem.tail _ (List.Mem.head _)))))), (fun _ h => absurd h List.not_mem_nil)⟩)⟩)⟩)⟩), (show ([0, 1, 2, 3, 4, 5] : List Nat).Nodup from by decide)⟩ w
      · replace w := w.2 q
        refine ab_fin.s2 (i := .aload_n 0) (k := 1) (pc' := 47) (lv' := [(0, .ref 40), (1, .int l1), (2, .int l2), (3, .int l3), (4, .int l4), (5, .int l5)]) (st' := [.ref 40]) (by decide +kernel) rfl rfl ?_
        refine ab_fin.q_rA (b := 1) (ix := 18) (ci := 8) (k := 0) (pc' := 50) (by decide +kernel) rfl (c_rA (F2.s t0_40) rfl (rC_8_0 F2 t0_40)) rfl ?_
        refine ab_fin.q_rA (b := 24) (ix := 74) (ci := 12) (k := 2) (pc' := 53) (by decide +kernel) rfl (c_rA (F2.s t0_1) rfl (rC_12_2 F2 t0_1)) rfl ?_
        refine ab_fin.s2 (i := .iload_n 3) (k := 1) (pc' := 54) (lv' := [(0, .ref 40), (1, .int l1), (2, .int l2), (3, .int l3), (4, .int l4), (5, .int l5)]) (st' := [.int l3, .ref 24]) (by decide +kernel) rfl rfl ?_
        refine ab_fin.s1i (i := .bipush 9) (k := 2) (pc' := 56) (n := 9) (by decide +kernel) rfl (by decide +kernel) rfl ?_
        refine ab_fin.br (c := ¬ l3 = 9) (i := .if_icmp .ne 7) (off := 7) (t := 63) (pc' := 59) (r := [.ref 24]) (by decide +kernel) rfl (by decide +kernel) rfl (fun q => ?_) (fun q => ?_)
        · replace w := w.1 q
          refine ab_fin.s1i (i := .bipush 6) (k := 2) (pc' := 65) (n := 6) (by decide +kernel) rfl (by decide +kernel) rfl ?_
          exact ab_fin.lv ⟨(List.forall_mem_cons.mpr ⟨(List.Mem.head _), (List.forall_mem_cons.mpr ⟨(List.Mem.tail _ (List.Mem.head _)), (List.forall_mem_cons.mpr ⟨(List.Mem.tail _ (List.Mem.tail _ (List.Mem.head _))), (List.forall_mem_cons.mpr ⟨(List.Mem.tail _ (List.Mem.tail _ (List.Mem.tail _ (List.Mem.tail _ (List.Mem.tail _ (List.Mem.head _)))))), (fun _ h => absurd h List.not_mem_nil)⟩)⟩)⟩)⟩), (show ([0, 1, 2, 3, 4, 5] : List Nat).Nodup from by decide)⟩ w
        · replace w := w.2 (Decidable.of_not_not q)
          refine ab_fin.s1i (i := .iconst 5) (k := 1) (pc' := 60) (n := 5) (by decide +kernel) rfl (by decide +kernel) rfl ?_
          refine ab_fin.s3 (i := .goto 5) (k := 3) (t := 65) (st' := [.int 5, .ref 24]) (by decide +kernel) (ab_gto (by decide +kernel)) ?_
          exact ab_fin.lv ⟨(List.forall_mem_cons.mpr ⟨(List.Mem.head _), (List.forall_mem_cons.mpr ⟨(List.Mem.tail _ (List.Mem.head _)), (List.forall_mem_cons.mpr ⟨(List.Mem.tail _ (List.Mem.tail _ (List.Mem.head _))), (List.forall_mem_cons.mpr ⟨(List.Mem.tail _ (List.Mem.tail _ (List.Mem.tail _ (List.Mem.tail _ (List.Mem.tail _ (List.Mem.head _)))))), (fun _ h => absurd h List.not_mem_nil)⟩)⟩)⟩)⟩), (show ([0, 1, 2, 3, 4, 5] : List Nat).Nodup from by decide)⟩ w
theorem T_X7_readSum_65 {Z : zT} {d : Nat} {σ : Sg} {l1 : Int32} {l2 : Int32} {l5 : Int32} {s1 : Int32} {K : kS} (F : FX ΦC σ.sh σ.r) (w : C_X1_emit_0 Z d σ s1 0 (yN K fun τ1 => C_X7_readSum_69 Z (d + 1) τ1 l1 l2 l5 K)) : C_X7_readSum_65 Z (d + 1) σ l1 l2 l5 s1 K := by
  unfold C_X7_readSum_65
  refine ab_fin.s1i (i := .iconst 0) (k := 1) (pc' := 66) (n := 0) (by decide +kernel) rfl (by decide +kernel) rfl ?_
  refine ab_fin.q_yN (i := .invokevirtual 271) (k := 3) (y := 258) (As := [.ref 24, .int s1, .int 0]) (rest := []) (M' := (mX1_emit, [])) (lv2 := [(0, .ref 24), (1, .int s1), (2, .int 0)]) (pc' := 69) (X := K) (by decide +kernel) (ab_cv rfl rfl (conc_get (σ := σ) (F.s t0_24)) ⟨(Nat.le_of_ble_eq_true rfl), (Nat.le_of_ble_eq_true rfl)⟩ rfl) rfl (Nat.le_of_ble_eq_true rfl) rfl rfl (hY_no fun E => rfl) w (fun τ1 F2 w => ?_)
  exact ab_fin.lv ⟨(List.forall_mem_cons.mpr ⟨(List.Mem.head _), (List.forall_mem_cons.mpr ⟨(List.Mem.tail _ (List.Mem.head _)), (List.forall_mem_cons.mpr ⟨(List.Mem.tail _ (List.Mem.tail _ (List.Mem.head _))), (List.forall_mem_cons.mpr ⟨(List.Mem.tail _ (List.Mem.tail _ (List.Mem.tail _ (List.Mem.head _)))), (fun _ h => absurd h List.not_mem_nil)⟩)⟩)⟩)⟩), (show ([0, 1, 2, 5] : List Nat).Nodup from by decide)⟩ w
theorem T_X7_readSum_69 {Z : zT} {d : Nat} {σ : Sg} {l1 : Int32} {l2 : Int32} {l5 : Int32} {K : kS} (F : FX ΦC σ.sh σ.r) (w : C_X7_sign_0 Z d σ  (yI K fun v3 τ1 => (v3 = 9 → C_X7_readSum_86 Z (d + 1) τ1 l1 l2 v3 l5 K) ∧ (¬ v3 = 9 → (¬ v3 = 10 → C_X7_readSum_91 Z (d + 1) τ1 l1 l2 v3 l5 0 K) ∧ (v3 = 10 → C_X7_readSum_86 Z (d + 1) τ1 l1 l2 v3 l5 K)))) : C_X7_readSum_69 Z (d + 1) σ l1 l2 l5 K := by
  unfold C_X7_readSum_69
  refine ab_fin.s2 (i := .aload_n 0) (k := 1) (pc' := 70) (lv' := [(0, .ref 40), (1, .int l1), (2, .int l2), (5, .int l5)]) (st' := [.ref 40]) (by decide +kernel) rfl rfl ?_
  refine ab_fin.q_yI (i := .invokevirtual 41) (k := 3) (y := 1798) (As := [.ref 40]) (rest := []) (M' := (mX7_sign, [])) (lv2 := [(0, .ref 40)]) (pc' := 73) (X := K) (by decide +kernel) (ab_cv rfl rfl (conc_get (σ := σ) (F.s t0_40)) ⟨(Nat.le_of_ble_eq_true rfl), (Nat.le_of_ble_eq_true rfl)⟩ rfl) rfl (Nat.le_of_ble_eq_true rfl) rfl rfl (hY_no fun E => rfl) w (fun v3 τ1 F2 w => ?_)
  refine ab_fin.s2 (i := .istore_n 3) (k := 1) (pc' := 74) (lv' := [(3, .int v3), (0, .ref 40), (1, .int l1), (2, .int l2), (5, .int l5)]) (st' := []) (by decide +kernel) rfl rfl ?_
  refine ab_fin.s2 (i := .iload_n 3) (k := 1) (pc' := 75) (lv' := [(3, .int v3), (0, .ref 40), (1, .int l1), (2, .int l2), (5, .int l5)]) (st' := [.int v3]) (by decide +kernel) rfl rfl ?_
  refine ab_fin.s1i (i := .bipush 9) (k := 2) (pc' := 77) (n := 9) (by decide +kernel) rfl (by decide +kernel) rfl ?_
  refine ab_fin.br (c := v3 = 9) (i := .if_icmp .eq 9) (off := 9) (t := 86) (pc' := 80) (r := []) (by decide +kernel) rfl (by decide +kernel) rfl (fun q => ?_) (fun q => ?_)
  · replace w := w.1 q
    exact ab_fin.lv ⟨(List.forall_mem_cons.mpr ⟨(List.Mem.tail _ (List.Mem.head _)), (List.forall_mem_cons.mpr ⟨(List.Mem.tail _ (List.Mem.tail _ (List.Mem.head _))), (List.forall_mem_cons.mpr ⟨(List.Mem.tail _ (List.Mem.tail _ (List.Mem.tail _ (List.Mem.head _)))), (List.forall_mem_cons.mpr ⟨(List.Mem.head _), (List.forall_mem_cons.mpr ⟨(List.Mem.tail _ (List.Mem.tail _ (List.Mem.tail _ (List.Mem.tail _ (List.Mem.head _))))), (fun _ h => absurd h List.not_mem_nil)⟩)⟩)⟩)⟩)⟩), (show ([3, 0, 1, 2, 5] : List Nat).Nodup from by decide)⟩ w
  · replace w := w.2 q
    refine ab_fin.s2 (i := .iload_n 3) (k := 1) (pc' := 81) (lv' := [(3, .int v3), (0, .ref 40), (1, .int l1), (2, .int l2), (5, .int l5)]) (st' := [.int v3]) (by decide +kernel) rfl rfl ?_
    refine ab_fin.s1i (i := .bipush 10) (k := 2) (pc' := 83) (n := 10) (by decide +kernel) rfl (by decide +kernel) rfl ?_
    refine ab_fin.br (c := ¬ v3 = 10) (i := .if_icmp .ne 7) (off := 7) (t := 90) (pc' := 86) (r := []) (by decide +kernel) rfl (by decide +kernel) rfl (fun q => ?_) (fun q => ?_)
    · replace w := w.1 q
      refine ab_fin.s1i (i := .iconst 0) (k := 1) (pc' := 91) (n := 0) (by decide +kernel) rfl (by decide +kernel) rfl ?_
      exact ab_fin.lv ⟨(List.forall_mem_cons.mpr ⟨(List.Mem.tail _ (List.Mem.head _)), (List.forall_mem_cons.mpr ⟨(List.Mem.tail _ (List.Mem.tail _ (List.Mem.head _))), (List.forall_mem_cons.mpr ⟨(List.Mem.tail _ (List.Mem.tail _ (List.Mem.tail _ (List.Mem.head _)))), (List.forall_mem_cons.mpr ⟨(List.Mem.head _), (List.forall_mem_cons.mpr ⟨(List.Mem.tail _ (List.Mem.tail _ (List.Mem.tail _ (List.Mem.tail _ (List.Mem.head _))))), (fun _ h => absurd h List.not_mem_nil)⟩)⟩)⟩)⟩)⟩), (show ([3, 0, 1, 2, 5] : List Nat).Nodup from by decide)⟩ w
    · replace w := w.2 (Decidable.of_not_not q)
      exact ab_fin.lv ⟨(List.forall_mem_cons.mpr ⟨(List.Mem.tail _ (List.Mem.head _)), (List.forall_mem_cons.mpr ⟨(List.Mem.tail _ (List.Mem.tail _ (List.Mem.head _))), (List.forall_mem_cons.mpr ⟨(List.Mem.tail _ (List.Mem.tail _ (List.Mem.tail _ (List.Mem.head _)))), (List.forall_mem_cons.mpr ⟨(List.Mem.head _), (List.forall_mem_cons.mpr ⟨(List.Mem.tail _ (List.Mem.tail _ (List.Mem.tail _ (List.Mem.tail _ (List.Mem.head _))))), (fun _ h => absurd h List.not_mem_nil)⟩)⟩)⟩)⟩)⟩), (show ([3, 0, 1, 2, 5] : List Nat).Nodup from by decide)⟩ w
theorem T_X7_readSum_86 {Z : zT} {d : Nat} {σ : Sg} {l1 : Int32} {l2 : Int32} {l3 : Int32} {l5 : Int32} {K : kS} (F : FX ΦC σ.sh σ.r) (w : C_X7_readSum_91 Z (d + 1) σ l1 l2 l3 l5 1 K) : C_X7_readSum_86 Z (d + 1) σ l1 l2 l3 l5 K := by
  unfold C_X7_readSum_86
  refine ab_fin.s1i (i := .iconst 1) (k := 1) (pc' := 87) (n := 1) (by decide +kernel) rfl (by decide +kernel) rfl ?_
  refine ab_fin.s3 (i := .goto 4) (k := 3) (t := 91) (st' := [.int 1]) (by decide +kernel) (ab_gto (by decide +kernel)) ?_
  exact ab_fin.lv ⟨(List.forall_mem_cons.mpr ⟨(List.Mem.head _), (List.forall_mem_cons.mpr ⟨(List.Mem.tail _ (List.Mem.head _)), (List.forall_mem_cons.mpr ⟨(List.Mem.tail _ (List.Mem.tail _ (List.Mem.head _))), (List.forall_mem_cons.mpr ⟨(List.Mem.tail _ (List.Mem.tail _ (List.Mem.tail _ (List.Mem.head _)))), (List.forall_mem_cons.mpr ⟨(List.Mem.tail _ (List.Mem.tail _ (List.Mem.tail _ (List.Mem.tail _ (List.Mem.head _))))), (fun _ h => absurd h List.not_mem_nil)⟩)⟩)⟩)⟩)⟩), (show ([0, 1, 2, 3, 5] : List Nat).Nodup from by decide)⟩ w
theorem T_X7_readSum_91 {Z : zT} {d : Nat} {σ : Sg} {l1 : Int32} {l2 : Int32} {l3 : Int32} {l5 : Int32} {s0 : Int32} {K : kS} (F : FX ΦC σ.sh σ.r) (w : (s0 = 0 → C_X7_readSum_19 Z (d + 1) σ l1 l2 l3 s0 (l5 + 1) K) ∧ (¬ s0 = 0 → C_X7_addNode_0 Z d σ (σ.i 40 3) l2 (yN K fun τ1 => C_X7_take_0 Z d τ1 l3 (yN K fun τ3 => C_X7_readSum_19 Z (d + 1) τ3 l1 l2 l3 s0 (l5 + 1) K)))) : C_X7_readSum_91 Z (d + 1) σ l1 l2 l3 l5 s0 K := by
  unfold C_X7_readSum_91
  refine ab_fin.s2 (i := .istore 4) (k := 2) (pc' := 93) (lv' := [(4, .int s0), (0, .ref 40), (1, .int l1), (2, .int l2), (3, .int l3), (5, .int l5)]) (st' := []) (by decide +kernel) rfl rfl ?_
  refine ab_fin.s2 (i := .iload 4) (k := 2) (pc' := 95) (lv' := [(4, .int s0), (0, .ref 40), (1, .int l1), (2, .int l2), (3, .int l3), (5, .int l5)]) (st' := [.int s0]) (by decide +kernel) rfl rfl ?_
  refine ab_fin.br (c := s0 = 0) (i := .ifCond .eq 17) (off := 17) (t := 112) (pc' := 98) (r := []) (by decide +kernel) rfl (by decide +kernel) rfl (fun q => ?_) (fun q => ?_)
  · replace w := w.1 q
    refine ab_fin.q_inc (n := 5) (c := 1) (pc' := 115) (lv' := [(5, .int (l5 + 1)), (4, .int s0), (0, .ref 40), (1, .int l1), (2, .int l2), (3, .int l3)]) (by decide +kernel) (by decide) rfl rfl rfl rfl ?_
    refine ab_fin.s3 (i := .goto (-96)) (k := 3) (t := 19) (st' := []) (by decide +kernel) (ab_gto (by decide +kernel)) ?_
    exact ab_fin.lv ⟨(List.forall_mem_cons.mpr ⟨(List.Mem.tail _ (List.Mem.tail _ (List.Mem.head _))), (List.forall_mem_cons.mpr ⟨(List.Mem.tail _ (List.Mem.tail _ (List.Mem.tail _ (List.Mem.head _)))), (List.forall_mem_cons.mpr ⟨(List.Mem.tail _ (List.Mem.tail _ (List.Mem.tail _ (List.Mem.tail _ (List.Mem.head _))))), (List.forall_mem_cons.mpr ⟨(List.Mem.tail _ (List.Mem.tail _ (List.Mem.tail _ (List.Mem.tail _ (List.Mem.tail _ (List.Mem.head _)))))), (List.forall_mem_cons.mpr ⟨(List.Mem.tail _ (List.Mem.head _)), (List.forall_mem_cons.mpr ⟨(List.Mem.head _), (fun _ h => absurd h List.not_mem_nil)⟩)⟩)⟩)⟩)⟩)⟩), (show ([5, 4, 0, 1, 2, 3] : List Nat).Nodup from by decide)⟩ w
  · replace w := w.2 q
    refine ab_fin.s2 (i := .aload_n 0) (k := 1) (pc' := 99) (lv' := [(4, .int s0), (0, .ref 40), (1, .int l1), (2, .int l2), (3, .int l3), (5, .int l5)]) (st' := [.ref 40]) (by decide +kernel) rfl rfl ?_
    refine ab_fin.s2 (i := .aload_n 0) (k := 1) (pc' := 100) (lv' := [(4, .int s0), (0, .ref 40), (1, .int l1), (2, .int l2), (3, .int l3), (5, .int l5)]) (st' := [.ref 40, .ref 40]) (by decide +kernel) rfl rfl ?_
    refine ab_fin.q_rI (x := (σ.i 40 3)) (ix := 97) (ci := 8) (k := 3) (pc' := 103) (by decide +kernel) rfl (c_rI (F.s t0_40) rfl) rfl ?_
    refine ab_fin.s2 (i := .iload_n 2) (k := 1) (pc' := 104) (lv' := [(4, .int s0), (0, .ref 40), (1, .int l1), (2, .int l2), (3, .int l3), (5, .int l5)]) (st' := [.int l2, .int (σ.i 40 3), .ref 40]) (by decide +kernel) rfl rfl ?_
    refine ab_fin.q_yN (i := .invokevirtual 289) (k := 3) (y := 1815) (As := [.ref 40, .int (σ.i 40 3), .int l2]) (rest := []) (M' := (mX7_addNode, [])) (lv2 := [(0, .ref 40), (1, .int (σ.i 40 3)), (2, .int l2)]) (pc' := 107) (X := K) (by decide +kernel) (ab_cv rfl rfl (conc_get (σ := σ) (F.s t0_40)) ⟨(Nat.le_of_ble_eq_true rfl), (Nat.le_of_ble_eq_true rfl)⟩ rfl) rfl (Nat.le_of_ble_eq_true rfl) rfl rfl (hY_no fun E => rfl) w (fun τ1 F2 w => ?_)
    refine ab_fin.s2 (i := .aload_n 0) (k := 1) (pc' := 108) (lv' := [(4, .int s0), (0, .ref 40), (1, .int l1), (2, .int l2), (3, .int l3), (5, .int l5)]) (st' := [.ref 40]) (by decide +kernel) rfl rfl ?_
    refine ab_fin.s2 (i := .iload_n 3) (k := 1) (pc' := 109) (lv' := [(4, .int s0), (0, .ref 40), (1, .int l1), (2, .int l2), (3, .int l3), (5, .int l5)]) (st' := [.int l3, .ref 40]) (by decide +kernel) rfl rfl ?_
    refine ab_fin.q_yN (i := .invokevirtual 57) (k := 3) (y := 1799) (As := [.ref 40, .int l3]) (rest := []) (M' := (mX7_take, [])) (lv2 := [(0, .ref 40), (1, .int l3)]) (pc' := 112) (X := K) (by decide +kernel) (ab_cv rfl rfl (conc_get (σ := τ1) (F2.s t0_40)) ⟨(Nat.le_of_ble_eq_true rfl), (Nat.le_of_ble_eq_true rfl)⟩ rfl) rfl (Nat.le_of_ble_eq_true rfl) rfl rfl (hY_no fun E => rfl) w (fun τ3 F4 w => ?_)
    refine ab_fin.q_inc (n := 5) (c := 1) (pc' := 115) (lv' := [(5, .int (l5 + 1)), (4, .int s0), (0, .ref 40), (1, .int l1), (2, .int l2), (3, .int l3)]) (by decide +kernel) (by decide) rfl rfl rfl rfl ?_
    refine ab_fin.s3 (i := .goto (-96)) (k := 3) (t := 19) (st' := []) (by decide +kernel) (ab_gto (by decide +kernel)) ?_
    exact ab_fin.lv ⟨(List.forall_mem_cons.mpr ⟨(List.Mem.tail _ (List.Mem.tail _ (List.Mem.head _))), (List.forall_mem_cons.mpr ⟨(List.Mem.tail _ (List.Mem.tail _ (List.Mem.tail _ (List.Mem.head _)))), (List.forall_mem_cons.mpr ⟨(List.Mem.tail _ (List.Mem.tail _ (List.Mem.tail _ (List.Mem.tail _ (List.Mem.head _))))), (List.forall_mem_cons.mpr ⟨(List.Mem.tail _ (List.Mem.tail _ (List.Mem.tail _ (List.Mem.tail _ (List.Mem.tail _ (List.Mem.head _)))))), (List.forall_mem_cons.mpr ⟨(List.Mem.tail _ (List.Mem.head _)), (List.forall_mem_cons.mpr ⟨(List.Mem.head _), (fun _ h => absurd h List.not_mem_nil)⟩)⟩)⟩)⟩)⟩)⟩), (show ([5, 4, 0, 1, 2, 3] : List Nat).Nodup from by decide)⟩ w
theorem T_X7_readProduct_0 {Z : zT} {d : Nat} {σ : Sg} {l1 : Int32} {K : kS} (F : FX ΦC σ.sh σ.r) (w : C_X7_readProduct_19 Z (d + 1) σ l1 (σ.i 24 3) (-1) 1 0 K) : C_X7_readProduct_0 Z (d + 1) σ l1 K := by
  unfold C_X7_readProduct_0
  refine ab_fin.s2 (i := .aload_n 0) (k := 1) (pc' := 1) (lv' := [(0, .ref 40), (1, .int l1)]) (st' := [.ref 40]) (by decide +kernel) rfl rfl ?_
  refine ab_fin.q_rA (b := 1) (ix := 18) (ci := 8) (k := 0) (pc' := 4) (by decide +kernel) rfl (c_rA (F.s t0_40) rfl (rC_8_0 F t0_40)) rfl ?_
  refine ab_fin.q_rA (b := 24) (ix := 74) (ci := 12) (k := 2) (pc' := 7) (by decide +kernel) rfl (c_rA (F.s t0_1) rfl (rC_12_2 F t0_1)) rfl ?_
  refine ab_fin.q_rI (x := (σ.i 24 3)) (ix := 78) (ci := 2) (k := 3) (pc' := 10) (by decide +kernel) rfl (c_rI (F.s t0_24) rfl) rfl ?_
  refine ab_fin.s2 (i := .istore_n 2) (k := 1) (pc' := 11) (lv' := [(2, .int (σ.i 24 3)), (0, .ref 40), (1, .int l1)]) (st' := []) (by decide +kernel) rfl rfl ?_
  refine ab_fin.s1i (i := .iconst (-1)) (k := 1) (pc' := 12) (n := (-1)) (by decide +kernel) rfl (by decide +kernel) rfl ?_
  refine ab_fin.s2 (i := .istore_n 3) (k := 1) (pc' := 13) (lv' := [(3, .int (-1)), (2, .int (σ.i 24 3)), (0, .ref 40), (1, .int l1)]) (st' := []) (by decide +kernel) rfl rfl ?_
  refine ab_fin.s1i (i := .iconst 1) (k := 1) (pc' := 14) (n := 1) (by decide +kernel) rfl (by decide +kernel) rfl ?_
  refine ab_fin.s2 (i := .istore 4) (k := 2) (pc' := 16) (lv' := [(4, .int 1), (3, .int (-1)), (2, .int (σ.i 24 3)), (0, .ref 40), (1, .int l1)]) (st' := []) (by decide +kernel) rfl rfl ?_
  refine ab_fin.s1i (i := .iconst 0) (k := 1) (pc' := 17) (n := 0) (by decide +kernel) rfl (by decide +kernel) rfl ?_
  refine ab_fin.s2 (i := .istore 5) (k := 2) (pc' := 19) (lv' := [(5, .int 0), (4, .int 1), (3, .int (-1)), (2, .int (σ.i 24 3)), (0, .ref 40), (1, .int l1)]) (st' := []) (by decide +kernel) rfl rfl ?_
  exact ab_fin.lv ⟨(List.forall_mem_cons.mpr ⟨(List.Mem.tail _ (List.Mem.tail _ (List.Mem.tail _ (List.Mem.tail _ (List.Mem.head _))))), (List.forall_mem_cons.mpr ⟨(List.Mem.tail _ (List.Mem.tail _ (List.Mem.tail _ (List.Mem.tail _ (List.Mem.tail _ (List.Mem.head _)))))), (List.forall_mem_cons.mpr ⟨(List.Mem.tail _ (List.Mem.tail _ (List.Mem.tail _ (List.Mem.head _)))), (List.forall_mem_cons.mpr ⟨(List.Mem.tail _ (List.Mem.tail _ (List.Mem.head _))), (List.forall_mem_cons.mpr ⟨(List.Mem.tail _ (List.Mem.head _)), (List.forall_mem_cons.mpr ⟨(List.Mem.head _), (fun _ h => absurd h List.not_mem_nil)⟩)⟩)⟩)⟩)⟩)⟩), (show ([5, 4, 3, 2, 0, 1] : List Nat).Nodup from by decide)⟩ w
theorem T_X7_readProduct_19 {Z : zT} {d : Nat} {σ : Sg} {l1 : Int32} {l2 : Int32} {l3 : Int32} {l4 : Int32} {l5 : Int32} {K : kS} (F : FX ΦC σ.sh σ.r) (w : ((σ.i 41 4) ≤ l5 → K (.inl none) σ) ∧ (¬ (σ.i 41 4) ≤ l5 → (l4 = 0 → K (.inl none) σ) ∧ (¬ l4 = 0 → C_X7_readP_0 Z d σ (l1 + (1 : Int32)) (yN K fun τ1 => (l3 = (-1) → C_X7_readProduct_72 Z (d + 1) τ1 l1 l2 l5 K) ∧ (¬ l3 = (-1) → (¬ l3 = 11 → C_X7_readProduct_68 Z (d + 1) τ1 l1 l2 l5 8 K) ∧ (l3 = 11 → C_X7_readProduct_68 Z (d + 1) τ1 l1 l2 l5 7 K)))))) : C_X7_readProduct_19 Z (d + 1) σ l1 l2 l3 l4 l5 K := by
  unfold C_X7_readProduct_19
  refine ab_fin.s2 (i := .iload 5) (k := 2) (pc' := 21) (lv' := [(0, .ref 40), (1, .int l1), (2, .int l2), (3, .int l3), (4, .int l4), (5, .int l5)]) (st' := [.int l5]) (by decide +kernel) rfl rfl ?_
  refine ab_fin.s2 (i := .aload_n 0) (k := 1) (pc' := 22) (lv' := [(0, .ref 40), (1, .int l1), (2, .int l2), (3, .int l3), (4, .int l4), (5, .int l5)]) (st' := [.ref 40, .int l5]) (by decide +kernel) rfl rfl ?_
  refine ab_fin.q_rA (b := 41) (ix := 12) (ci := 8) (k := 1) (pc' := 25) (by decide +kernel) rfl (c_rA (F.s t0_40) rfl (rC_8_1 F t0_40)) rfl ?_
  refine ab_fin.q_rI (x := (σ.i 41 4)) (ix := 34) (ci := 9) (k := 4) (pc' := 28) (by decide +kernel) rfl (c_rI (F.s t0_41) rfl) rfl ?_
  refine ab_fin.br (c := (σ.i 41 4) ≤ l5) (i := .if_icmp .ge 93) (off := 93) (t := 121) (pc' := 31) (r := []) (by decide +kernel) rfl (by decide +kernel) rfl (fun q => ?_) (fun q => ?_)
  · replace w := w.1 q
    exact ab_fin.q_ret (i := .return_) (k := 1) (v := none) (by decide +kernel) rfl F w
  · replace w := w.2 q
    refine ab_fin.s2 (i := .iload 4) (k := 2) (pc' := 33) (lv' := [(0, .ref 40), (1, .int l1), (2, .int l2), (3, .int l3), (4, .int l4), (5, .int l5)]) (st' := [.int l4]) (by decide +kernel) rfl rfl ?_
    refine ab_fin.br (c := l4 = 0) (i := .ifCond .eq 88) (off := 88) (t := 121) (pc' := 36) (r := []) (by decide +kernel) rfl (by decide +kernel) rfl (fun q => ?_) (fun q => ?_)
    · replace w := w.1 q
      exact ab_fin.q_ret (i := .return_) (k := 1) (v := none) (by decide +kernel) rfl F w
    · replace w := w.2 q
      refine ab_fin.s2 (i := .aload_n 0) (k := 1) (pc' := 37) (lv' := [(0, .ref 40), (1, .int l1), (2, .int l2), (3, .int l3), (4, .int l4), (5, .int l5)]) (st' := [.ref 40]) (by decide +kernel) rfl rfl ?_
      refine ab_fin.s2 (i := .iload_n 1) (k := 1) (pc' := 38) (lv' := [(0, .ref 40), (1, .int l1), (2, .int l2), (3, .int l3), (4, .int l4), (5, .int l5)]) (st' := [.int l1, .ref 40]) (by decide +kernel) rfl rfl ?_
      refine ab_fin.s1i (i := .iconst 1) (k := 1) (pc' := 39) (n := 1) (by decide +kernel) rfl (by decide +kernel) rfl ?_
      refine ab_fin.s1 (i := .iadd) (k := 1) (pc' := 40) (st' := [.int (l1 + (1 : Int32)), .ref 40]) (by decide +kernel) rfl rfl ?_
      refine ab_fin.q_yN (i := .invokevirtual 307) (k := 3) (y := 1825) (As := [.ref 40, .int (l1 + (1 : Int32))]) (rest := []) (M' := (mX7_readP, [])) (lv2 := [(0, .ref 40), (1, .int (l1 + (1 : Int32)))]) (pc' := 43) (X := K) (by decide +kernel) (ab_cv rfl rfl (conc_get (σ := σ) (F.s t0_40)) ⟨(Nat.le_of_ble_eq_true rfl), (Nat.le_of_ble_eq_true rfl)⟩ rfl) rfl (Nat.le_of_ble_eq_true rfl) rfl rfl (hY_no fun E => rfl) w (fun τ1 F2 w => ?_)
      refine ab_fin.s2 (i := .iload_n 3) (k := 1) (pc' := 44) (lv' := [(0, .ref 40), (1, .int l1), (2, .int l2), (3, .int l3), (4, .int l4), (5, .int l5)]) (st' := [.int l3]) (by decide +kernel) rfl rfl ?_
      refine ab_fin.s1i (i := .iconst (-1)) (k := 1) (pc' := 45) (n := (-1)) (by decide +kernel) rfl (by decide +kernel) rfl ?_
      refine ab_fin.br (c := l3 = (-1)) (i := .if_icmp .eq 27) (off := 27) (t := 72) (pc' := 48) (r := []) (by decide +kernel) rfl (by decide +kernel) rfl (fun q => ?_) (fun q => ?_)
      · replace w := w.1 q
        exact ab_fin.lv ⟨(List.forall_mem_cons.mpr ⟨(List.Mem.head _), (List.forall_mem_cons.mpr ⟨(List.Mem.tail _ (List.Mem.head _)), (List.forall_mem_cons.mpr ⟨(List.Mem.tail _ (List.Mem.tail _ (List.Mem.head _))), (List.forall_mem_cons.mpr ⟨(List.Mem.tail _ (List.Mem.tail _ (List.Mem.tail _ (List.Mem.tail _ (List.Mem.tail _ (List.Mem.head _)))))), (fun _ h => absurd h List.not_mem_nil)⟩)⟩)⟩)⟩), (show ([0, 1, 2, 3, 4, 5] : List Nat).Nodup from by decide)⟩ w
      · replace w := w.2 q
        refine ab_fin.s2 (i := .aload_n 0) (k := 1) (pc' := 49) (lv' := [(0, .ref 40), (1, .int l1), (2, .int l2), (3, .int l3), (4, .int l4), (5, .int l5)]) (st' := [.ref 40]) (by decide +kernel) rfl rfl ?_
        refine ab_fin.q_rA (b := 1) (ix := 18) (ci := 8) (k := 0) (pc' := 52) (by decide +kernel) rfl (c_rA (F2.s t0_40) rfl (rC_8_0 F2 t0_40)) rfl ?_
        refine ab_fin.q_rA (b := 24) (ix := 74) (ci := 12) (k := 2) (pc' := 55) (by decide +kernel) rfl (c_rA (F2.s t0_1) rfl (rC_12_2 F2 t0_1)) rfl ?_
        refine ab_fin.s2 (i := .iload_n 3) (k := 1) (pc' := 56) (lv' := [(0, .ref 40), (1, .int l1), (2, .int l2), (3, .int l3), (4, .int l4), (5, .int l5)]) (st' := [.int l3, .ref 24]) (by decide +kernel) rfl rfl ?_
        refine ab_fin.s1i (i := .bipush 11) (k := 2) (pc' := 58) (n := 11) (by decide +kernel) rfl (by decide +kernel) rfl ?_
        refine ab_fin.br (c := ¬ l3 = 11) (i := .if_icmp .ne 8) (off := 8) (t := 66) (pc' := 61) (r := [.ref 24]) (by decide +kernel) rfl (by decide +kernel) rfl (fun q => ?_) (fun q => ?_)
        · replace w := w.1 q
          refine ab_fin.s1i (i := .bipush 8) (k := 2) (pc' := 68) (n := 8) (by decide +kernel) rfl (by decide +kernel) rfl ?_
          exact ab_fin.lv ⟨(List.forall_mem_cons.mpr ⟨(List.Mem.head _), (List.forall_mem_cons.mpr ⟨(List.Mem.tail _ (List.Mem.head _)), (List.forall_mem_cons.mpr ⟨(List.Mem.tail _ (List.Mem.tail _ (List.Mem.head _))), (List.forall_mem_cons.mpr ⟨(List.Mem.tail _ (List.Mem.tail _ (List.Mem.tail _ (List.Mem.tail _ (List.Mem.tail _ (List.Mem.head _)))))), (fun _ h => absurd h List.not_mem_nil)⟩)⟩)⟩)⟩), (show ([0, 1, 2, 3, 4, 5] : List Nat).Nodup from by decide)⟩ w
        · replace w := w.2 (Decidable.of_not_not q)
          refine ab_fin.s1i (i := .bipush 7) (k := 2) (pc' := 63) (n := 7) (by decide +kernel) rfl (by decide +kernel) rfl ?_
          refine ab_fin.s3 (i := .goto 5) (k := 3) (t := 68) (st' := [.int 7, .ref 24]) (by decide +kernel) (ab_gto (by decide +kernel)) ?_
          exact ab_fin.lv ⟨(List.forall_mem_cons.mpr ⟨(List.Mem.head _), (List.forall_mem_cons.mpr ⟨(List.Mem.tail _ (List.Mem.head _)), (List.forall_mem_cons.mpr ⟨(List.Mem.tail _ (List.Mem.tail _ (List.Mem.head _))), (List.forall_mem_cons.mpr ⟨(List.Mem.tail _ (List.Mem.tail _ (List.Mem.tail _ (List.Mem.tail _ (List.Mem.tail _ (List.Mem.head _)))))), (fun _ h => absurd h List.not_mem_nil)⟩)⟩)⟩)⟩), (show ([0, 1, 2, 3, 4, 5] : List Nat).Nodup from by decide)⟩ w
theorem T_X7_readProduct_68 {Z : zT} {d : Nat} {σ : Sg} {l1 : Int32} {l2 : Int32} {l5 : Int32} {s1 : Int32} {K : kS} (F : FX ΦC σ.sh σ.r) (w : C_X1_emit_0 Z d σ s1 0 (yN K fun τ1 => C_X7_readProduct_72 Z (d + 1) τ1 l1 l2 l5 K)) : C_X7_readProduct_68 Z (d + 1) σ l1 l2 l5 s1 K := by
  unfold C_X7_readProduct_68
  refine ab_fin.s1i (i := .iconst 0) (k := 1) (pc' := 69) (n := 0) (by decide +kernel) rfl (by decide +kernel) rfl ?_
  refine ab_fin.q_yN (i := .invokevirtual 271) (k := 3) (y := 258) (As := [.ref 24, .int s1, .int 0]) (rest := []) (M' := (mX1_emit, [])) (lv2 := [(0, .ref 24), (1, .int s1), (2, .int 0)]) (pc' := 72) (X := K) (by decide +kernel) (ab_cv rfl rfl (conc_get (σ := σ) (F.s t0_24)) ⟨(Nat.le_of_ble_eq_true rfl), (Nat.le_of_ble_eq_true rfl)⟩ rfl) rfl (Nat.le_of_ble_eq_true rfl) rfl rfl (hY_no fun E => rfl) w (fun τ1 F2 w => ?_)
  exact ab_fin.lv ⟨(List.forall_mem_cons.mpr ⟨(List.Mem.head _), (List.forall_mem_cons.mpr ⟨(List.Mem.tail _ (List.Mem.head _)), (List.forall_mem_cons.mpr ⟨(List.Mem.tail _ (List.Mem.tail _ (List.Mem.head _))), (List.forall_mem_cons.mpr ⟨(List.Mem.tail _ (List.Mem.tail _ (List.Mem.tail _ (List.Mem.head _)))), (fun _ h => absurd h List.not_mem_nil)⟩)⟩)⟩)⟩), (show ([0, 1, 2, 5] : List Nat).Nodup from by decide)⟩ w
theorem T_X7_readProduct_72 {Z : zT} {d : Nat} {σ : Sg} {l1 : Int32} {l2 : Int32} {l5 : Int32} {K : kS} (F : FX ΦC σ.sh σ.r) (w : C_X7_sign_0 Z d σ  (yI K fun v3 τ1 => (v3 = 11 → C_X7_readProduct_89 Z (d + 1) τ1 l1 l2 v3 l5 K) ∧ (¬ v3 = 11 → (¬ v3 = 12 → C_X7_readProduct_94 Z (d + 1) τ1 l1 l2 v3 l5 0 K) ∧ (v3 = 12 → C_X7_readProduct_89 Z (d + 1) τ1 l1 l2 v3 l5 K)))) : C_X7_readProduct_72 Z (d + 1) σ l1 l2 l5 K := by
  unfold C_X7_readProduct_72
  refine ab_fin.s2 (i := .aload_n 0) (k := 1) (pc' := 73) (lv' := [(0, .ref 40), (1, .int l1), (2, .int l2), (5, .int l5)]) (st' := [.ref 40]) (by decide +kernel) rfl rfl ?_
  refine ab_fin.q_yI (i := .invokevirtual 41) (k := 3) (y := 1798) (As := [.ref 40]) (rest := []) (M' := (mX7_sign, [])) (lv2 := [(0, .ref 40)]) (pc' := 76) (X := K) (by decide +kernel) (ab_cv rfl rfl (conc_get (σ := σ) (F.s t0_40)) ⟨(Nat.le_of_ble_eq_true rfl), (Nat.le_of_ble_eq_true rfl)⟩ rfl) rfl (Nat.le_of_ble_eq_true rfl) rfl rfl (hY_no fun E => rfl) w (fun v3 τ1 F2 w => ?_)
  refine ab_fin.s2 (i := .istore_n 3) (k := 1) (pc' := 77) (lv' := [(3, .int v3), (0, .ref 40), (1, .int l1), (2, .int l2), (5, .int l5)]) (st' := []) (by decide +kernel) rfl rfl ?_
  refine ab_fin.s2 (i := .iload_n 3) (k := 1) (pc' := 78) (lv' := [(3, .int v3), (0, .ref 40), (1, .int l1), (2, .int l2), (5, .int l5)]) (st' := [.int v3]) (by decide +kernel) rfl rfl ?_
  refine ab_fin.s1i (i := .bipush 11) (k := 2) (pc' := 80) (n := 11) (by decide +kernel) rfl (by decide +kernel) rfl ?_
  refine ab_fin.br (c := v3 = 11) (i := .if_icmp .eq 9) (off := 9) (t := 89) (pc' := 83) (r := []) (by decide +kernel) rfl (by decide +kernel) rfl (fun q => ?_) (fun q => ?_)
  · replace w := w.1 q
    exact ab_fin.lv ⟨(List.forall_mem_cons.mpr ⟨(List.Mem.tail _ (List.Mem.head _)), (List.forall_mem_cons.mpr ⟨(List.Mem.tail _ (List.Mem.tail _ (List.Mem.head _))), (List.forall_mem_cons.mpr ⟨(List.Mem.tail _ (List.Mem.tail _ (List.Mem.tail _ (List.Mem.head _)))), (List.forall_mem_cons.mpr ⟨(List.Mem.head _), (List.forall_mem_cons.mpr ⟨(List.Mem.tail _ (List.Mem.tail _ (List.Mem.tail _ (List.Mem.tail _ (List.Mem.head _))))), (fun _ h => absurd h List.not_mem_nil)⟩)⟩)⟩)⟩)⟩), (show ([3, 0, 1, 2, 5] : List Nat).Nodup from by decide)⟩ w
  · replace w := w.2 q
    refine ab_fin.s2 (i := .iload_n 3) (k := 1) (pc' := 84) (lv' := [(3, .int v3), (0, .ref 40), (1, .int l1), (2, .int l2), (5, .int l5)]) (st' := [.int v3]) (by decide +kernel) rfl rfl ?_
    refine ab_fin.s1i (i := .bipush 12) (k := 2) (pc' := 86) (n := 12) (by decide +kernel) rfl (by decide +kernel) rfl ?_
    refine ab_fin.br (c := ¬ v3 = 12) (i := .if_icmp .ne 7) (off := 7) (t := 93) (pc' := 89) (r := []) (by decide +kernel) rfl (by decide +kernel) rfl (fun q => ?_) (fun q => ?_)
    · replace w := w.1 q
      refine ab_fin.s1i (i := .iconst 0) (k := 1) (pc' := 94) (n := 0) (by decide +kernel) rfl (by decide +kernel) rfl ?_
      exact ab_fin.lv ⟨(List.forall_mem_cons.mpr ⟨(List.Mem.tail _ (List.Mem.head _)), (List.forall_mem_cons.mpr ⟨(List.Mem.tail _ (List.Mem.tail _ (List.Mem.head _))), (List.forall_mem_cons.mpr ⟨(List.Mem.tail _ (List.Mem.tail _ (List.Mem.tail _ (List.Mem.head _)))), (List.forall_mem_cons.mpr ⟨(List.Mem.head _), (List.forall_mem_cons.mpr ⟨(List.Mem.tail _ (List.Mem.tail _ (List.Mem.tail _ (List.Mem.tail _ (List.Mem.head _))))), (fun _ h => absurd h List.not_mem_nil)⟩)⟩)⟩)⟩)⟩), (show ([3, 0, 1, 2, 5] : List Nat).Nodup from by decide)⟩ w
    · replace w := w.2 (Decidable.of_not_not q)
      exact ab_fin.lv ⟨(List.forall_mem_cons.mpr ⟨(List.Mem.tail _ (List.Mem.head _)), (List.forall_mem_cons.mpr ⟨(List.Mem.tail _ (List.Mem.tail _ (List.Mem.head _))), (List.forall_mem_cons.mpr ⟨(List.Mem.tail _ (List.Mem.tail _ (List.Mem.tail _ (List.Mem.head _)))), (List.forall_mem_cons.mpr ⟨(List.Mem.head _), (List.forall_mem_cons.mpr ⟨(List.Mem.tail _ (List.Mem.tail _ (List.Mem.tail _ (List.Mem.tail _ (List.Mem.head _))))), (fun _ h => absurd h List.not_mem_nil)⟩)⟩)⟩)⟩)⟩), (show ([3, 0, 1, 2, 5] : List Nat).Nodup from by decide)⟩ w
theorem T_X7_readProduct_89 {Z : zT} {d : Nat} {σ : Sg} {l1 : Int32} {l2 : Int32} {l3 : Int32} {l5 : Int32} {K : kS} (F : FX ΦC σ.sh σ.r) (w : C_X7_readProduct_94 Z (d + 1) σ l1 l2 l3 l5 1 K) : C_X7_readProduct_89 Z (d + 1) σ l1 l2 l3 l5 K := by
  unfold C_X7_readProduct_89
  refine ab_fin.s1i (i := .iconst 1) (k := 1) (pc' := 90) (n := 1) (by decide +kernel) rfl (by decide +kernel) rfl ?_
  refine ab_fin.s3 (i := .goto 4) (k := 3) (t := 94) (st' := [.int 1]) (by decide +kernel) (ab_gto (by decide +kernel)) ?_
  exact ab_fin.lv ⟨(List.forall_mem_cons.mpr ⟨(List.Mem.head _), (List.forall_mem_cons.mpr ⟨(List.Mem.tail _ (List.Mem.head _)), (List.forall_mem_cons.mpr ⟨(List.Mem.tail _ (List.Mem.tail _ (List.Mem.head _))), (List.forall_mem_cons.mpr ⟨(List.Mem.tail _ (List.Mem.tail _ (List.Mem.tail _ (List.Mem.head _)))), (List.forall_mem_cons.mpr ⟨(List.Mem.tail _ (List.Mem.tail _ (List.Mem.tail _ (List.Mem.tail _ (List.Mem.head _))))), (fun _ h => absurd h List.not_mem_nil)⟩)⟩)⟩)⟩)⟩), (show ([0, 1, 2, 3, 5] : List Nat).Nodup from by decide)⟩ w
theorem T_X7_readProduct_94 {Z : zT} {d : Nat} {σ : Sg} {l1 : Int32} {l2 : Int32} {l3 : Int32} {l5 : Int32} {s0 : Int32} {K : kS} (F : FX ΦC σ.sh σ.r) (w : (s0 = 0 → C_X7_readProduct_19 Z (d + 1) σ l1 l2 l3 s0 (l5 + 1) K) ∧ (¬ s0 = 0 → C_X7_addNode_0 Z d σ (σ.i 40 3) l2 (yN K fun τ1 => C_X7_take_0 Z d τ1 l3 (yN K fun τ3 => C_X7_readProduct_19 Z (d + 1) τ3 l1 l2 l3 s0 (l5 + 1) K)))) : C_X7_readProduct_94 Z (d + 1) σ l1 l2 l3 l5 s0 K := by
  unfold C_X7_readProduct_94
  refine ab_fin.s2 (i := .istore 4) (k := 2) (pc' := 96) (lv' := [(4, .int s0), (0, .ref 40), (1, .int l1), (2, .int l2), (3, .int l3), (5, .int l5)]) (st' := []) (by decide +kernel) rfl rfl ?_
  refine ab_fin.s2 (i := .iload 4) (k := 2) (pc' := 98) (lv' := [(4, .int s0), (0, .ref 40), (1, .int l1), (2, .int l2), (3, .int l3), (5, .int l5)]) (st' := [.int s0]) (by decide +kernel) rfl rfl ?_
  refine ab_fin.br (c := s0 = 0) (i := .ifCond .eq 17) (off := 17) (t := 115) (pc' := 101) (r := []) (by decide +kernel) rfl (by decide +kernel) rfl (fun q => ?_) (fun q => ?_)
  · replace w := w.1 q
    refine ab_fin.q_inc (n := 5) (c := 1) (pc' := 118) (lv' := [(5, .int (l5 + 1)), (4, .int s0), (0, .ref 40), (1, .int l1), (2, .int l2), (3, .int l3)]) (by decide +kernel) (by decide) rfl rfl rfl rfl ?_
    refine ab_fin.s3 (i := .goto (-99)) (k := 3) (t := 19) (st' := []) (by decide +kernel) (ab_gto (by decide +kernel)) ?_
    exact ab_fin.lv ⟨(List.forall_mem_cons.mpr ⟨(List.Mem.tail _ (List.Mem.tail _ (List.Mem.head _))), (List.forall_mem_cons.mpr ⟨(List.Mem.tail _ (List.Mem.tail _ (List.Mem.tail _ (List.Mem.head _)))), (List.forall_mem_cons.mpr ⟨(List.Mem.tail _ (List.Mem.tail _ (List.Mem.tail _ (List.Mem.tail _ (List.Mem.head _))))), (List.forall_mem_cons.mpr ⟨(List.Mem.tail _ (List.Mem.tail _ (List.Mem.tail _ (List.Mem.tail _ (List.Mem.tail _ (List.Mem.head _)))))), (List.forall_mem_cons.mpr ⟨(List.Mem.tail _ (List.Mem.head _)), (List.forall_mem_cons.mpr ⟨(List.Mem.head _), (fun _ h => absurd h List.not_mem_nil)⟩)⟩)⟩)⟩)⟩)⟩), (show ([5, 4, 0, 1, 2, 3] : List Nat).Nodup from by decide)⟩ w
  · replace w := w.2 q
    refine ab_fin.s2 (i := .aload_n 0) (k := 1) (pc' := 102) (lv' := [(4, .int s0), (0, .ref 40), (1, .int l1), (2, .int l2), (3, .int l3), (5, .int l5)]) (st' := [.ref 40]) (by decide +kernel) rfl rfl ?_
    refine ab_fin.s2 (i := .aload_n 0) (k := 1) (pc' := 103) (lv' := [(4, .int s0), (0, .ref 40), (1, .int l1), (2, .int l2), (3, .int l3), (5, .int l5)]) (st' := [.ref 40, .ref 40]) (by decide +kernel) rfl rfl ?_
    refine ab_fin.q_rI (x := (σ.i 40 3)) (ix := 97) (ci := 8) (k := 3) (pc' := 106) (by decide +kernel) rfl (c_rI (F.s t0_40) rfl) rfl ?_
    refine ab_fin.s2 (i := .iload_n 2) (k := 1) (pc' := 107) (lv' := [(4, .int s0), (0, .ref 40), (1, .int l1), (2, .int l2), (3, .int l3), (5, .int l5)]) (st' := [.int l2, .int (σ.i 40 3), .ref 40]) (by decide +kernel) rfl rfl ?_
    refine ab_fin.q_yN (i := .invokevirtual 289) (k := 3) (y := 1815) (As := [.ref 40, .int (σ.i 40 3), .int l2]) (rest := []) (M' := (mX7_addNode, [])) (lv2 := [(0, .ref 40), (1, .int (σ.i 40 3)), (2, .int l2)]) (pc' := 110) (X := K) (by decide +kernel) (ab_cv rfl rfl (conc_get (σ := σ) (F.s t0_40)) ⟨(Nat.le_of_ble_eq_true rfl), (Nat.le_of_ble_eq_true rfl)⟩ rfl) rfl (Nat.le_of_ble_eq_true rfl) rfl rfl (hY_no fun E => rfl) w (fun τ1 F2 w => ?_)
    refine ab_fin.s2 (i := .aload_n 0) (k := 1) (pc' := 111) (lv' := [(4, .int s0), (0, .ref 40), (1, .int l1), (2, .int l2), (3, .int l3), (5, .int l5)]) (st' := [.ref 40]) (by decide +kernel) rfl rfl ?_
    refine ab_fin.s2 (i := .iload_n 3) (k := 1) (pc' := 112) (lv' := [(4, .int s0), (0, .ref 40), (1, .int l1), (2, .int l2), (3, .int l3), (5, .int l5)]) (st' := [.int l3, .ref 40]) (by decide +kernel) rfl rfl ?_
    refine ab_fin.q_yN (i := .invokevirtual 57) (k := 3) (y := 1799) (As := [.ref 40, .int l3]) (rest := []) (M' := (mX7_take, [])) (lv2 := [(0, .ref 40), (1, .int l3)]) (pc' := 115) (X := K) (by decide +kernel) (ab_cv rfl rfl (conc_get (σ := τ1) (F2.s t0_40)) ⟨(Nat.le_of_ble_eq_true rfl), (Nat.le_of_ble_eq_true rfl)⟩ rfl) rfl (Nat.le_of_ble_eq_true rfl) rfl rfl (hY_no fun E => rfl) w (fun τ3 F4 w => ?_)
    refine ab_fin.q_inc (n := 5) (c := 1) (pc' := 118) (lv' := [(5, .int (l5 + 1)), (4, .int s0), (0, .ref 40), (1, .int l1), (2, .int l2), (3, .int l3)]) (by decide +kernel) (by decide) rfl rfl rfl rfl ?_
    refine ab_fin.s3 (i := .goto (-99)) (k := 3) (t := 19) (st' := []) (by decide +kernel) (ab_gto (by decide +kernel)) ?_
    exact ab_fin.lv ⟨(List.forall_mem_cons.mpr ⟨(List.Mem.tail _ (List.Mem.tail _ (List.Mem.head _))), (List.forall_mem_cons.mpr ⟨(List.Mem.tail _ (List.Mem.tail _ (List.Mem.tail _ (List.Mem.head _)))), (List.forall_mem_cons.mpr ⟨(List.Mem.tail _ (List.Mem.tail _ (List.Mem.tail _ (List.Mem.tail _ (List.Mem.head _))))), (List.forall_mem_cons.mpr ⟨(List.Mem.tail _ (List.Mem.tail _ (List.Mem.tail _ (List.Mem.tail _ (List.Mem.tail _ (List.Mem.head _)))))), (List.forall_mem_cons.mpr ⟨(List.Mem.tail _ (List.Mem.head _)), (List.forall_mem_cons.mpr ⟨(List.Mem.head _), (fun _ h => absurd h List.not_mem_nil)⟩)⟩)⟩)⟩)⟩)⟩), (show ([5, 4, 0, 1, 2, 3] : List Nat).Nodup from by decide)⟩ w
theorem T_X7_readP_0 {Z : zT} {d : Nat} {σ : Sg} {l1 : Int32} {K : kS} (F : FX ΦC σ.sh σ.r) (w : (l1 ≤ 12 → C_X7_sign_0 Z d σ  (yI K fun v3 τ1 => (v3 = 2 → C_X7_readNamed_0 Z d τ1 l1 (yN K fun τ4 => K (.inl none) τ4)) ∧ (v3 = 3 → C_X7_addNode_0 Z d τ1 (τ1.i 40 3) (τ1.i 24 3) (yN K fun τ6 => C_X7_takeNumber_0 Z d τ6  (yI K fun v10 τ8 => C_X1_emit_0 Z d τ8 0 v10 (yN K fun τ11 => K (.inl none) τ11)))) ∧ (v3 = 4 → C_X7_take_0 Z d τ1 4 (yN K fun τ13 => C_X7_readE_0 Z d τ13 (l1 + (1 : Int32)) (yN K fun τ15 => C_X7_take_0 Z d τ15 5 (yN K fun τ17 => K (.inl none) τ17)))) ∧ (v3 = 10 → C_X7_addNode_0 Z d τ1 (τ1.i 40 3) (τ1.i 24 3) (yN K fun τ19 => C_X7_takeNumber_0 Z d τ19  (yI K fun v23 τ21 => C_X1_emit_0 Z d τ21 0 v23 (yN K fun τ24 => K (.inl none) τ24)))) ∧ (v3 = 13 → C_X7_addNode_0 Z d τ1 (τ1.i 40 3) (τ1.i 24 3) (yN K fun τ26 => C_X7_take_0 Z d τ26 13 (yN K fun τ28 => C_X7_readP_0 Z d τ28 (l1 + (1 : Int32)) (yN K fun τ30 => C_X1_emit_0 Z d τ30 3 0 (yN K fun τ32 => K (.inl none) τ32))))) ∧ (v3 = 52 → C_X7_readNext_0 Z d τ1 l1 (yN K fun τ34 => K (.inl none) τ34)) ∧ (¬ v3 = 2 → ¬ v3 = 3 → ¬ v3 = 4 → ¬ v3 = 10 → ¬ v3 = 13 → ¬ v3 = 52 → C_X7_take_0 Z d τ1 (-1) (yN K fun τ36 => K (.inl none) τ36)))) ∧ (¬ l1 ≤ 12 → C_X7_take_0 Z d σ (-1) (yN K fun τ38 => K (.inl none) τ38))) : C_X7_readP_0 Z (d + 1) σ l1 K := by
  unfold C_X7_readP_0
  refine ab_fin.s2 (i := .iload_n 1) (k := 1) (pc' := 1) (lv' := [(0, .ref 40), (1, .int l1)]) (st' := [.int l1]) (by decide +kernel) rfl rfl ?_
  refine ab_fin.s1i (i := .bipush 12) (k := 2) (pc' := 3) (n := 12) (by decide +kernel) rfl (by decide +kernel) rfl ?_
  refine ab_fin.br (c := l1 ≤ 12) (i := .if_icmp .le 9) (off := 9) (t := 12) (pc' := 6) (r := []) (by decide +kernel) rfl (by decide +kernel) rfl (fun q => ?_) (fun q => ?_)
  · replace w := w.1 q
    refine ab_fin.s2 (i := .aload_n 0) (k := 1) (pc' := 13) (lv' := [(0, .ref 40), (1, .int l1)]) (st' := [.ref 40]) (by decide +kernel) rfl rfl ?_
    refine ab_fin.q_yI (i := .invokevirtual 41) (k := 3) (y := 1798) (As := [.ref 40]) (rest := []) (M' := (mX7_sign, [])) (lv2 := [(0, .ref 40)]) (pc' := 16) (X := K) (by decide +kernel) (ab_cv rfl rfl (conc_get (σ := σ) (F.s t0_40)) ⟨(Nat.le_of_ble_eq_true rfl), (Nat.le_of_ble_eq_true rfl)⟩ rfl) rfl (Nat.le_of_ble_eq_true rfl) rfl rfl (hY_no fun E => rfl) w (fun v3 τ1 F2 w => ?_)
    by_cases q0 : v3 = 2
    · refine ab_fin.s3 (i := .lookupswitch 178 #[(2, 96), (3, 60), (4, 158), (10, 60), (13, 112), (52, 104)]) (k := 60) (t := 112) (st' := []) (by decide +kernel) (by rw [q0]; exact ab_lsw (by decide +kernel) (by decide +kernel)) ?_
      replace w := w.1 q0
      refine ab_fin.s2 (i := .aload_n 0) (k := 1) (pc' := 113) (lv' := [(0, .ref 40), (1, .int l1)]) (st' := [.ref 40]) (by decide +kernel) rfl rfl ?_
      refine ab_fin.s2 (i := .iload_n 1) (k := 1) (pc' := 114) (lv' := [(0, .ref 40), (1, .int l1)]) (st' := [.int l1, .ref 40]) (by decide +kernel) rfl rfl ?_
      refine ab_fin.q_yN (i := .invokevirtual 310) (k := 3) (y := 1826) (As := [.ref 40, .int l1]) (rest := []) (M' := (mX7_readNamed, [])) (lv2 := [(0, .ref 40), (1, .int l1)]) (pc' := 117) (X := K) (by decide +kernel) (ab_cv rfl rfl (conc_get (σ := τ1) (F2.s t0_40)) ⟨(Nat.le_of_ble_eq_true rfl), (Nat.le_of_ble_eq_true rfl)⟩ rfl) rfl (Nat.le_of_ble_eq_true rfl) rfl rfl (hY_no fun E => rfl) w (fun τ4 F5 w => ?_)
      refine ab_fin.s3 (i := .goto 82) (k := 3) (t := 199) (st' := []) (by decide +kernel) (ab_gto (by decide +kernel)) ?_
      exact ab_fin.q_ret (i := .return_) (k := 1) (v := none) (by decide +kernel) rfl F5 w
    by_cases q1 : v3 = 3
    · refine ab_fin.s3 (i := .lookupswitch 178 #[(2, 96), (3, 60), (4, 158), (10, 60), (13, 112), (52, 104)]) (k := 60) (t := 76) (st' := []) (by decide +kernel) (by rw [q1]; exact ab_lsw (by decide +kernel) (by decide +kernel)) ?_
      replace w := w.2.1 q1
      refine ab_fin.s2 (i := .aload_n 0) (k := 1) (pc' := 77) (lv' := [(0, .ref 40), (1, .int l1)]) (st' := [.ref 40]) (by decide +kernel) rfl rfl ?_
      refine ab_fin.s2 (i := .aload_n 0) (k := 1) (pc' := 78) (lv' := [(0, .ref 40), (1, .int l1)]) (st' := [.ref 40, .ref 40]) (by decide +kernel) rfl rfl ?_
      refine ab_fin.q_rI (x := (τ1.i 40 3)) (ix := 97) (ci := 8) (k := 3) (pc' := 81) (by decide +kernel) rfl (c_rI (F2.s t0_40) rfl) rfl ?_
      refine ab_fin.s2 (i := .aload_n 0) (k := 1) (pc' := 82) (lv' := [(0, .ref 40), (1, .int l1)]) (st' := [.ref 40, .int (τ1.i 40 3), .ref 40]) (by decide +kernel) rfl rfl ?_
      refine ab_fin.q_rA (b := 1) (ix := 18) (ci := 8) (k := 0) (pc' := 85) (by decide +kernel) rfl (c_rA (F2.s t0_40) rfl (rC_8_0 F2 t0_40)) rfl ?_
      refine ab_fin.q_rA (b := 24) (ix := 74) (ci := 12) (k := 2) (pc' := 88) (by decide +kernel) rfl (c_rA (F2.s t0_1) rfl (rC_12_2 F2 t0_1)) rfl ?_
      refine ab_fin.q_rI (x := (τ1.i 24 3)) (ix := 78) (ci := 2) (k := 3) (pc' := 91) (by decide +kernel) rfl (c_rI (F2.s t0_24) rfl) rfl ?_
      refine ab_fin.q_yN (i := .invokevirtual 289) (k := 3) (y := 1815) (As := [.ref 40, .int (τ1.i 40 3), .int (τ1.i 24 3)]) (rest := []) (M' := (mX7_addNode, [])) (lv2 := [(0, .ref 40), (1, .int (τ1.i 40 3)), (2, .int (τ1.i 24 3))]) (pc' := 94) (X := K) (by decide +kernel) (ab_cv rfl rfl (conc_get (σ := τ1) (F2.s t0_40)) ⟨(Nat.le_of_ble_eq_true rfl), (Nat.le_of_ble_eq_true rfl)⟩ rfl) rfl (Nat.le_of_ble_eq_true rfl) rfl rfl (hY_no fun E => rfl) w (fun τ6 F7 w => ?_)
      refine ab_fin.s2 (i := .aload_n 0) (k := 1) (pc' := 95) (lv' := [(0, .ref 40), (1, .int l1)]) (st' := [.ref 40]) (by decide +kernel) rfl rfl ?_
      refine ab_fin.q_rA (b := 1) (ix := 18) (ci := 8) (k := 0) (pc' := 98) (by decide +kernel) rfl (c_rA (F7.s t0_40) rfl (rC_8_0 F7 t0_40)) rfl ?_
      refine ab_fin.q_rA (b := 24) (ix := 74) (ci := 12) (k := 2) (pc' := 101) (by decide +kernel) rfl (c_rA (F7.s t0_1) rfl (rC_12_2 F7 t0_1)) rfl ?_
      refine ab_fin.s1i (i := .iconst 0) (k := 1) (pc' := 102) (n := 0) (by decide +kernel) rfl (by decide +kernel) rfl ?_
      refine ab_fin.s2 (i := .aload_n 0) (k := 1) (pc' := 103) (lv' := [(0, .ref 40), (1, .int l1)]) (st' := [.ref 40, .int 0, .ref 24]) (by decide +kernel) rfl rfl ?_
      refine ab_fin.q_yI (i := .invokevirtual 222) (k := 3) (y := 1809) (As := [.ref 40]) (rest := [.int 0, .ref 24]) (M' := (mX7_takeNumber, [])) (lv2 := [(0, .ref 40)]) (pc' := 106) (X := K) (by decide +kernel) (ab_cv rfl rfl (conc_get (σ := τ6) (F7.s t0_40)) ⟨(Nat.le_of_ble_eq_true rfl), (Nat.le_of_ble_eq_true rfl)⟩ rfl) rfl (Nat.le_of_ble_eq_true rfl) rfl rfl (hY_no fun E => rfl) w (fun v10 τ8 F9 w => ?_)
      refine ab_fin.q_yN (i := .invokevirtual 271) (k := 3) (y := 258) (As := [.ref 24, .int 0, .int v10]) (rest := []) (M' := (mX1_emit, [])) (lv2 := [(0, .ref 24), (1, .int 0), (2, .int v10)]) (pc' := 109) (X := K) (by decide +kernel) (ab_cv rfl rfl (conc_get (σ := τ8) (F9.s t0_24)) ⟨(Nat.le_of_ble_eq_true rfl), (Nat.le_of_ble_eq_true rfl)⟩ rfl) rfl (Nat.le_of_ble_eq_true rfl) rfl rfl (hY_no fun E => rfl) w (fun τ11 F12 w => ?_)
      refine ab_fin.s3 (i := .goto 90) (k := 3) (t := 199) (st' := []) (by decide +kernel) (ab_gto (by decide +kernel)) ?_
      exact ab_fin.q_ret (i := .return_) (k := 1) (v := none) (by decide +kernel) rfl F12 w
    by_cases q2 : v3 = 4
    · refine ab_fin.s3 (i := .lookupswitch 178 #[(2, 96), (3, 60), (4, 158), (10, 60), (13, 112), (52, 104)]) (k := 60) (t := 174) (st' := []) (by decide +kernel) (by rw [q2]; exact ab_lsw (by decide +kernel) (by decide +kernel)) ?_
      replace w := w.2.2.1 q2
      refine ab_fin.s2 (i := .aload_n 0) (k := 1) (pc' := 175) (lv' := [(0, .ref 40), (1, .int l1)]) (st' := [.ref 40]) (by decide +kernel) rfl rfl ?_
      refine ab_fin.s1i (i := .iconst 4) (k := 1) (pc' := 176) (n := 4) (by decide +kernel) rfl (by decide +kernel) rfl ?_
      refine ab_fin.q_yN (i := .invokevirtual 57) (k := 3) (y := 1799) (As := [.ref 40, .int 4]) (rest := []) (M' := (mX7_take, [])) (lv2 := [(0, .ref 40), (1, .int 4)]) (pc' := 179) (X := K) (by decide +kernel) (ab_cv rfl rfl (conc_get (σ := τ1) (F2.s t0_40)) ⟨(Nat.le_of_ble_eq_true rfl), (Nat.le_of_ble_eq_true rfl)⟩ rfl) rfl (Nat.le_of_ble_eq_true rfl) rfl rfl (hY_no fun E => rfl) w (fun τ13 F14 w => ?_)
      refine ab_fin.s2 (i := .aload_n 0) (k := 1) (pc' := 180) (lv' := [(0, .ref 40), (1, .int l1)]) (st' := [.ref 40]) (by decide +kernel) rfl rfl ?_
      refine ab_fin.s2 (i := .iload_n 1) (k := 1) (pc' := 181) (lv' := [(0, .ref 40), (1, .int l1)]) (st' := [.int l1, .ref 40]) (by decide +kernel) rfl rfl ?_
      refine ab_fin.s1i (i := .iconst 1) (k := 1) (pc' := 182) (n := 1) (by decide +kernel) rfl (by decide +kernel) rfl ?_
      refine ab_fin.s1 (i := .iadd) (k := 1) (pc' := 183) (st' := [.int (l1 + (1 : Int32)), .ref 40]) (by decide +kernel) rfl rfl ?_
      refine ab_fin.q_yN (i := .invokevirtual 268) (k := 3) (y := 1816) (As := [.ref 40, .int (l1 + (1 : Int32))]) (rest := []) (M' := (mX7_readE, [])) (lv2 := [(0, .ref 40), (1, .int (l1 + (1 : Int32)))]) (pc' := 186) (X := K) (by decide +kernel) (ab_cv rfl rfl (conc_get (σ := τ13) (F14.s t0_40)) ⟨(Nat.le_of_ble_eq_true rfl), (Nat.le_of_ble_eq_true rfl)⟩ rfl) rfl (Nat.le_of_ble_eq_true rfl) rfl rfl (hY_no fun E => rfl) w (fun τ15 F16 w => ?_)
      refine ab_fin.s2 (i := .aload_n 0) (k := 1) (pc' := 187) (lv' := [(0, .ref 40), (1, .int l1)]) (st' := [.ref 40]) (by decide +kernel) rfl rfl ?_
      refine ab_fin.s1i (i := .iconst 5) (k := 1) (pc' := 188) (n := 5) (by decide +kernel) rfl (by decide +kernel) rfl ?_
      refine ab_fin.q_yN (i := .invokevirtual 57) (k := 3) (y := 1799) (As := [.ref 40, .int 5]) (rest := []) (M' := (mX7_take, [])) (lv2 := [(0, .ref 40), (1, .int 5)]) (pc' := 191) (X := K) (by decide +kernel) (ab_cv rfl rfl (conc_get (σ := τ15) (F16.s t0_40)) ⟨(Nat.le_of_ble_eq_true rfl), (Nat.le_of_ble_eq_true rfl)⟩ rfl) rfl (Nat.le_of_ble_eq_true rfl) rfl rfl (hY_no fun E => rfl) w (fun τ17 F18 w => ?_)
      refine ab_fin.s3 (i := .goto 8) (k := 3) (t := 199) (st' := []) (by decide +kernel) (ab_gto (by decide +kernel)) ?_
      exact ab_fin.q_ret (i := .return_) (k := 1) (v := none) (by decide +kernel) rfl F18 w
    by_cases q3 : v3 = 10
    · refine ab_fin.s3 (i := .lookupswitch 178 #[(2, 96), (3, 60), (4, 158), (10, 60), (13, 112), (52, 104)]) (k := 60) (t := 76) (st' := []) (by decide +kernel) (by rw [q3]; exact ab_lsw (by decide +kernel) (by decide +kernel)) ?_
      replace w := w.2.2.2.1 q3
      refine ab_fin.s2 (i := .aload_n 0) (k := 1) (pc' := 77) (lv' := [(0, .ref 40), (1, .int l1)]) (st' := [.ref 40]) (by decide +kernel) rfl rfl ?_
      refine ab_fin.s2 (i := .aload_n 0) (k := 1) (pc' := 78) (lv' := [(0, .ref 40), (1, .int l1)]) (st' := [.ref 40, .ref 40]) (by decide +kernel) rfl rfl ?_
      refine ab_fin.q_rI (x := (τ1.i 40 3)) (ix := 97) (ci := 8) (k := 3) (pc' := 81) (by decide +kernel) rfl (c_rI (F2.s t0_40) rfl) rfl ?_
      refine ab_fin.s2 (i := .aload_n 0) (k := 1) (pc' := 82) (lv' := [(0, .ref 40), (1, .int l1)]) (st' := [.ref 40, .int (τ1.i 40 3), .ref 40]) (by decide +kernel) rfl rfl ?_
      refine ab_fin.q_rA (b := 1) (ix := 18) (ci := 8) (k := 0) (pc' := 85) (by decide +kernel) rfl (c_rA (F2.s t0_40) rfl (rC_8_0 F2 t0_40)) rfl ?_
      refine ab_fin.q_rA (b := 24) (ix := 74) (ci := 12) (k := 2) (pc' := 88) (by decide +kernel) rfl (c_rA (F2.s t0_1) rfl (rC_12_2 F2 t0_1)) rfl ?_
      refine ab_fin.q_rI (x := (τ1.i 24 3)) (ix := 78) (ci := 2) (k := 3) (pc' := 91) (by decide +kernel) rfl (c_rI (F2.s t0_24) rfl) rfl ?_
      refine ab_fin.q_yN (i := .invokevirtual 289) (k := 3) (y := 1815) (As := [.ref 40, .int (τ1.i 40 3), .int (τ1.i 24 3)]) (rest := []) (M' := (mX7_addNode, [])) (lv2 := [(0, .ref 40), (1, .int (τ1.i 40 3)), (2, .int (τ1.i 24 3))]) (pc' := 94) (X := K) (by decide +kernel) (ab_cv rfl rfl (conc_get (σ := τ1) (F2.s t0_40)) ⟨(Nat.le_of_ble_eq_true rfl), (Nat.le_of_ble_eq_true rfl)⟩ rfl) rfl (Nat.le_of_ble_eq_true rfl) rfl rfl (hY_no fun E => rfl) w (fun τ19 F20 w => ?_)
      refine ab_fin.s2 (i := .aload_n 0) (k := 1) (pc' := 95) (lv' := [(0, .ref 40), (1, .int l1)]) (st' := [.ref 40]) (by decide +kernel) rfl rfl ?_
      refine ab_fin.q_rA (b := 1) (ix := 18) (ci := 8) (k := 0) (pc' := 98) (by decide +kernel) rfl (c_rA (F20.s t0_40) rfl (rC_8_0 F20 t0_40)) rfl ?_
      refine ab_fin.q_rA (b := 24) (ix := 74) (ci := 12) (k := 2) (pc' := 101) (by decide +kernel) rfl (c_rA (F20.s t0_1) rfl (rC_12_2 F20 t0_1)) rfl ?_
      refine ab_fin.s1i (i := .iconst 0) (k := 1) (pc' := 102) (n := 0) (by decide +kernel) rfl (by decide +kernel) rfl ?_
      refine ab_fin.s2 (i := .aload_n 0) (k := 1) (pc' := 103) (lv' := [(0, .ref 40), (1, .int l1)]) (st' := [.ref 40, .int 0, .ref 24]) (by decide +kernel) rfl rfl ?_
      refine ab_fin.q_yI (i := .invokevirtual 222) (k := 3) (y := 1809) (As := [.ref 40]) (rest := [.int 0, .ref 24]) (M' := (mX7_takeNumber, [])) (lv2 := [(0, .ref 40)]) (pc' := 106) (X := K) (by decide +kernel) (ab_cv rfl rfl (conc_get (σ := τ19) (F20.s t0_40)) ⟨(Nat.le_of_ble_eq_true rfl), (Nat.le_of_ble_eq_true rfl)⟩ rfl) rfl (Nat.le_of_ble_eq_true rfl) rfl rfl (hY_no fun E => rfl) w (fun v23 τ21 F22 w => ?_)
      refine ab_fin.q_yN (i := .invokevirtual 271) (k := 3) (y := 258) (As := [.ref 24, .int 0, .int v23]) (rest := []) (M' := (mX1_emit, [])) (lv2 := [(0, .ref 24), (1, .int 0), (2, .int v23)]) (pc' := 109) (X := K) (by decide +kernel) (ab_cv rfl rfl (conc_get (σ := τ21) (F22.s t0_24)) ⟨(Nat.le_of_ble_eq_true rfl), (Nat.le_of_ble_eq_true rfl)⟩ rfl) rfl (Nat.le_of_ble_eq_true rfl) rfl rfl (hY_no fun E => rfl) w (fun τ24 F25 w => ?_)
      refine ab_fin.s3 (i := .goto 90) (k := 3) (t := 199) (st' := []) (by decide +kernel) (ab_gto (by decide +kernel)) ?_
      exact ab_fin.q_ret (i := .return_) (k := 1) (v := none) (by decide +kernel) rfl F25 w
    by_cases q4 : v3 = 13
    · refine ab_fin.s3 (i := .lookupswitch 178 #[(2, 96), (3, 60), (4, 158), (10, 60), (13, 112), (52, 104)]) (k := 60) (t := 128) (st' := []) (by decide +kernel) (by rw [q4]; exact ab_lsw (by decide +kernel) (by decide +kernel)) ?_
      replace w := w.2.2.2.2.1 q4
      refine ab_fin.s2 (i := .aload_n 0) (k := 1) (pc' := 129) (lv' := [(0, .ref 40), (1, .int l1)]) (st' := [.ref 40]) (by decide +kernel) rfl rfl ?_
      refine ab_fin.s2 (i := .aload_n 0) (k := 1) (pc' := 130) (lv' := [(0, .ref 40), (1, .int l1)]) (st' := [.ref 40, .ref 40]) (by decide +kernel) rfl rfl ?_
      refine ab_fin.q_rI (x := (τ1.i 40 3)) (ix := 97) (ci := 8) (k := 3) (pc' := 133) (by decide +kernel) rfl (c_rI (F2.s t0_40) rfl) rfl ?_
      refine ab_fin.s2 (i := .aload_n 0) (k := 1) (pc' := 134) (lv' := [(0, .ref 40), (1, .int l1)]) (st' := [.ref 40, .int (τ1.i 40 3), .ref 40]) (by decide +kernel) rfl rfl ?_
      refine ab_fin.q_rA (b := 1) (ix := 18) (ci := 8) (k := 0) (pc' := 137) (by decide +kernel) rfl (c_rA (F2.s t0_40) rfl (rC_8_0 F2 t0_40)) rfl ?_
      refine ab_fin.q_rA (b := 24) (ix := 74) (ci := 12) (k := 2) (pc' := 140) (by decide +kernel) rfl (c_rA (F2.s t0_1) rfl (rC_12_2 F2 t0_1)) rfl ?_
      refine ab_fin.q_rI (x := (τ1.i 24 3)) (ix := 78) (ci := 2) (k := 3) (pc' := 143) (by decide +kernel) rfl (c_rI (F2.s t0_24) rfl) rfl ?_
      refine ab_fin.q_yN (i := .invokevirtual 289) (k := 3) (y := 1815) (As := [.ref 40, .int (τ1.i 40 3), .int (τ1.i 24 3)]) (rest := []) (M' := (mX7_addNode, [])) (lv2 := [(0, .ref 40), (1, .int (τ1.i 40 3)), (2, .int (τ1.i 24 3))]) (pc' := 146) (X := K) (by decide +kernel) (ab_cv rfl rfl (conc_get (σ := τ1) (F2.s t0_40)) ⟨(Nat.le_of_ble_eq_true rfl), (Nat.le_of_ble_eq_true rfl)⟩ rfl) rfl (Nat.le_of_ble_eq_true rfl) rfl rfl (hY_no fun E => rfl) w (fun τ26 F27 w => ?_)
      refine ab_fin.s2 (i := .aload_n 0) (k := 1) (pc' := 147) (lv' := [(0, .ref 40), (1, .int l1)]) (st' := [.ref 40]) (by decide +kernel) rfl rfl ?_
      refine ab_fin.s1i (i := .bipush 13) (k := 2) (pc' := 149) (n := 13) (by decide +kernel) rfl (by decide +kernel) rfl ?_
      refine ab_fin.q_yN (i := .invokevirtual 57) (k := 3) (y := 1799) (As := [.ref 40, .int 13]) (rest := []) (M' := (mX7_take, [])) (lv2 := [(0, .ref 40), (1, .int 13)]) (pc' := 152) (X := K) (by decide +kernel) (ab_cv rfl rfl (conc_get (σ := τ26) (F27.s t0_40)) ⟨(Nat.le_of_ble_eq_true rfl), (Nat.le_of_ble_eq_true rfl)⟩ rfl) rfl (Nat.le_of_ble_eq_true rfl) rfl rfl (hY_no fun E => rfl) w (fun τ28 F29 w => ?_)
      refine ab_fin.s2 (i := .aload_n 0) (k := 1) (pc' := 153) (lv' := [(0, .ref 40), (1, .int l1)]) (st' := [.ref 40]) (by decide +kernel) rfl rfl ?_
      refine ab_fin.s2 (i := .iload_n 1) (k := 1) (pc' := 154) (lv' := [(0, .ref 40), (1, .int l1)]) (st' := [.int l1, .ref 40]) (by decide +kernel) rfl rfl ?_
      refine ab_fin.s1i (i := .iconst 1) (k := 1) (pc' := 155) (n := 1) (by decide +kernel) rfl (by decide +kernel) rfl ?_
      refine ab_fin.s1 (i := .iadd) (k := 1) (pc' := 156) (st' := [.int (l1 + (1 : Int32)), .ref 40]) (by decide +kernel) rfl rfl ?_
      refine ab_fin.q_yN (i := .invokevirtual 307) (k := 3) (y := 1825) (As := [.ref 40, .int (l1 + (1 : Int32))]) (rest := []) (M' := (mX7_readP, [])) (lv2 := [(0, .ref 40), (1, .int (l1 + (1 : Int32)))]) (pc' := 159) (X := K) (by decide +kernel) (ab_cv rfl rfl (conc_get (σ := τ28) (F29.s t0_40)) ⟨(Nat.le_of_ble_eq_true rfl), (Nat.le_of_ble_eq_true rfl)⟩ rfl) rfl (Nat.le_of_ble_eq_true rfl) rfl rfl (hY_no fun E => rfl) w (fun τ30 F31 w => ?_)
      refine ab_fin.s2 (i := .aload_n 0) (k := 1) (pc' := 160) (lv' := [(0, .ref 40), (1, .int l1)]) (st' := [.ref 40]) (by decide +kernel) rfl rfl ?_
      refine ab_fin.q_rA (b := 1) (ix := 18) (ci := 8) (k := 0) (pc' := 163) (by decide +kernel) rfl (c_rA (F31.s t0_40) rfl (rC_8_0 F31 t0_40)) rfl ?_
      refine ab_fin.q_rA (b := 24) (ix := 74) (ci := 12) (k := 2) (pc' := 166) (by decide +kernel) rfl (c_rA (F31.s t0_1) rfl (rC_12_2 F31 t0_1)) rfl ?_
      refine ab_fin.s1i (i := .iconst 3) (k := 1) (pc' := 167) (n := 3) (by decide +kernel) rfl (by decide +kernel) rfl ?_
      refine ab_fin.s1i (i := .iconst 0) (k := 1) (pc' := 168) (n := 0) (by decide +kernel) rfl (by decide +kernel) rfl ?_
      refine ab_fin.q_yN (i := .invokevirtual 271) (k := 3) (y := 258) (As := [.ref 24, .int 3, .int 0]) (rest := []) (M' := (mX1_emit, [])) (lv2 := [(0, .ref 24), (1, .int 3), (2, .int 0)]) (pc' := 171) (X := K) (by decide +kernel) (ab_cv rfl rfl (conc_get (σ := τ30) (F31.s t0_24)) ⟨(Nat.le_of_ble_eq_true rfl), (Nat.le_of_ble_eq_true rfl)⟩ rfl) rfl (Nat.le_of_ble_eq_true rfl) rfl rfl (hY_no fun E => rfl) w (fun τ32 F33 w => ?_)
      refine ab_fin.s3 (i := .goto 28) (k := 3) (t := 199) (st' := []) (by decide +kernel) (ab_gto (by decide +kernel)) ?_
      exact ab_fin.q_ret (i := .return_) (k := 1) (v := none) (by decide +kernel) rfl F33 w
    by_cases q5 : v3 = 52
    · refine ab_fin.s3 (i := .lookupswitch 178 #[(2, 96), (3, 60), (4, 158), (10, 60), (13, 112), (52, 104)]) (k := 60) (t := 120) (st' := []) (by decide +kernel) (by rw [q5]; exact ab_lsw (by decide +kernel) (by decide +kernel)) ?_
      replace w := w.2.2.2.2.2.1 q5
      refine ab_fin.s2 (i := .aload_n 0) (k := 1) (pc' := 121) (lv' := [(0, .ref 40), (1, .int l1)]) (st' := [.ref 40]) (by decide +kernel) rfl rfl ?_
      refine ab_fin.s2 (i := .iload_n 1) (k := 1) (pc' := 122) (lv' := [(0, .ref 40), (1, .int l1)]) (st' := [.int l1, .ref 40]) (by decide +kernel) rfl rfl ?_
      refine ab_fin.q_yN (i := .invokevirtual 313) (k := 3) (y := 1827) (As := [.ref 40, .int l1]) (rest := []) (M' := (mX7_readNext, [])) (lv2 := [(0, .ref 40), (1, .int l1)]) (pc' := 125) (X := K) (by decide +kernel) (ab_cv rfl rfl (conc_get (σ := τ1) (F2.s t0_40)) ⟨(Nat.le_of_ble_eq_true rfl), (Nat.le_of_ble_eq_true rfl)⟩ rfl) rfl (Nat.le_of_ble_eq_true rfl) rfl rfl (hY_no fun E => rfl) w (fun τ34 F35 w => ?_)
      refine ab_fin.s3 (i := .goto 74) (k := 3) (t := 199) (st' := []) (by decide +kernel) (ab_gto (by decide +kernel)) ?_
      exact ab_fin.q_ret (i := .return_) (k := 1) (v := none) (by decide +kernel) rfl F35 w
    refine ab_fin.s3 (i := .lookupswitch 178 #[(2, 96), (3, 60), (4, 158), (10, 60), (13, 112), (52, 104)]) (k := 60) (t := 194) (st' := []) (by decide +kernel) (ab_lsw (by decide +kernel) (by rw [lsw_df (by intro p hp; simp only [List.mem_cons, List.not_mem_nil, or_false] at hp; rcases hp with rfl | rfl | rfl | rfl | rfl | rfl <;> intro z <;> first | exact q0 (Int32.toInt_inj.mp (z.symm.trans (rfl : (2 : Int) = Int32.toInt 2))) | exact q1 (Int32.toInt_inj.mp (z.symm.trans (rfl : (3 : Int) = Int32.toInt 3))) | exact q2 (Int32.toInt_inj.mp (z.symm.trans (rfl : (4 : Int) = Int32.toInt 4))) | exact q3 (Int32.toInt_inj.mp (z.symm.trans (rfl : (10 : Int) = Int32.toInt 10))) | exact q4 (Int32.toInt_inj.mp (z.symm.trans (rfl : (13 : Int) = Int32.toInt 13))) | exact q5 (Int32.toInt_inj.mp (z.symm.trans (rfl : (52 : Int) = Int32.toInt 52))))]; decide +kernel)) ?_
    replace w := w.2.2.2.2.2.2 q0 q1 q2 q3 q4 q5
    refine ab_fin.s2 (i := .aload_n 0) (k := 1) (pc' := 195) (lv' := [(0, .ref 40), (1, .int l1)]) (st' := [.ref 40]) (by decide +kernel) rfl rfl ?_
    refine ab_fin.s1i (i := .iconst (-1)) (k := 1) (pc' := 196) (n := (-1)) (by decide +kernel) rfl (by decide +kernel) rfl ?_
    refine ab_fin.q_yN (i := .invokevirtual 57) (k := 3) (y := 1799) (As := [.ref 40, .int (-1)]) (rest := []) (M' := (mX7_take, [])) (lv2 := [(0, .ref 40), (1, .int (-1))]) (pc' := 199) (X := K) (by decide +kernel) (ab_cv rfl rfl (conc_get (σ := τ1) (F2.s t0_40)) ⟨(Nat.le_of_ble_eq_true rfl), (Nat.le_of_ble_eq_true rfl)⟩ rfl) rfl (Nat.le_of_ble_eq_true rfl) rfl rfl (hY_no fun E => rfl) w (fun τ36 F37 w => ?_)
    exact ab_fin.q_ret (i := .return_) (k := 1) (v := none) (by decide +kernel) rfl F37 w
  · replace w := w.2 q
    refine ab_fin.s2 (i := .aload_n 0) (k := 1) (pc' := 7) (lv' := [(0, .ref 40), (1, .int l1)]) (st' := [.ref 40]) (by decide +kernel) rfl rfl ?_
    refine ab_fin.s1i (i := .iconst (-1)) (k := 1) (pc' := 8) (n := (-1)) (by decide +kernel) rfl (by decide +kernel) rfl ?_
    refine ab_fin.q_yN (i := .invokevirtual 57) (k := 3) (y := 1799) (As := [.ref 40, .int (-1)]) (rest := []) (M' := (mX7_take, [])) (lv2 := [(0, .ref 40), (1, .int (-1))]) (pc' := 11) (X := K) (by decide +kernel) (ab_cv rfl rfl (conc_get (σ := σ) (F.s t0_40)) ⟨(Nat.le_of_ble_eq_true rfl), (Nat.le_of_ble_eq_true rfl)⟩ rfl) rfl (Nat.le_of_ble_eq_true rfl) rfl rfl (hY_no fun E => rfl) w (fun τ38 F39 w => ?_)
    exact ab_fin.q_ret (i := .return_) (k := 1) (v := none) (by decide +kernel) rfl F39 w
theorem T_X7_readNamed_0 {Z : zT} {d : Nat} {σ : Sg} {l1 : Int32} {K : kS} (F : FX ΦC σ.sh σ.r) (w : ∃ b1, (σ.r 41 2) = Rf.ptr b1 ∧ (∃ n4, σ.sh[b1]? = some (Sh.arr 1 n4) ∧ (ib (σ.i 40 3) n4 ∧ (∃ b6, (σ.r 41 3) = Rf.ptr b6 ∧ (∃ n9, σ.sh[b6]? = some (Sh.arr 1 n9) ∧ (ib (σ.i 40 3) n9 ∧ (C_X7_addNode_0 Z d σ (σ.i 40 3) (σ.i 24 3) (yN K fun τ11 => C_X7_take_0 Z d τ11 2 (yN K fun τ13 => C_X7_sign_0 Z d τ13  (yI K fun v17 τ15 => (v17 = 4 → C_X11_find_0 Z d τ15 0 (σ.l b1 ((σ.i 40 3).toNatClampNeg)) (σ.l b6 ((σ.i 40 3).toNatClampNeg)) (yI K fun v20 τ18 => C_X11_find_0 Z d τ18 1 (σ.l b1 ((σ.i 40 3).toNatClampNeg)) (σ.l b6 ((σ.i 40 3).toNatClampNeg)) (yI K fun v23 τ21 => (v20 < 0 → (0 ≤ v23 → C_X7_readNamed_179 Z (d + 1) τ21 l1 v23 K) ∧ (¬ 0 ≤ v23 → C_X7_breakRule_0 Z d τ21 3 (σ.i 40 3) (yN K fun τ24 => C_X7_readNamed_179 Z (d + 1) τ24 l1 v23 K))) ∧ (¬ v20 < 0 → ib v20 24 ∧ (((τ21.i 3 v20.toNatClampNeg) = 0 → C_X7_readNamed_146 Z (d + 1) τ21 l1 v20 K) ∧ (¬ (τ21.i 3 v20.toNatClampNeg) = 0 → C_X7_breakRule_0 Z d τ21 6 (σ.i 40 3) (yN K fun τ27 => C_X7_readNamed_146 Z (d + 1) τ27 l1 v20 K))))))) ∧ (¬ v17 = 4 → C_X11_find_0 Z d τ15 3 (σ.l b1 ((σ.i 40 3).toNatClampNeg)) (σ.l b6 ((σ.i 40 3).toNatClampNeg)) (yI K fun v31 τ29 => (0 ≤ v31 → C_X1_emit_0 Z d τ29 1 v31 (yN K fun τ32 => K (.inl none) τ32)) ∧ (¬ 0 ≤ v31 → C_X7_breakRule_0 Z d τ29 3 (σ.i 40 3) (yN K fun τ34 => C_X1_emit_0 Z d τ34 1 v31 (yN K fun τ36 => K (.inl none) τ36))))))))))))))) : C_X7_readNamed_0 Z (d + 1) σ l1 K := by
  unfold C_X7_readNamed_0
  refine ab_fin.s2 (i := .aload_n 0) (k := 1) (pc' := 1) (lv' := [(0, .ref 40), (1, .int l1)]) (st' := [.ref 40]) (by decide +kernel) rfl rfl ?_
  refine ab_fin.q_rI (x := (σ.i 40 3)) (ix := 97) (ci := 8) (k := 3) (pc' := 4) (by decide +kernel) rfl (c_rI (F.s t0_40) rfl) rfl ?_
  refine ab_fin.s2 (i := .istore_n 2) (k := 1) (pc' := 5) (lv' := [(2, .int (σ.i 40 3)), (0, .ref 40), (1, .int l1)]) (st' := []) (by decide +kernel) rfl rfl ?_
  refine ab_fin.s2 (i := .aload_n 0) (k := 1) (pc' := 6) (lv' := [(2, .int (σ.i 40 3)), (0, .ref 40), (1, .int l1)]) (st' := [.ref 40]) (by decide +kernel) rfl rfl ?_
  refine ab_fin.q_rA (b := 41) (ix := 12) (ci := 8) (k := 1) (pc' := 9) (by decide +kernel) rfl (c_rA (F.s t0_40) rfl (rC_8_1 F t0_40)) rfl ?_
  obtain ⟨b1, e2, w⟩ := w
  refine ab_fin.q_rA (b := b1) (ix := 115) (ci := 9) (k := 2) (pc' := 12) (by decide +kernel) rfl (c_rA (F.s t0_41) rfl e2) rfl ?_
  refine ab_fin.s2 (i := .iload_n 2) (k := 1) (pc' := 13) (lv' := [(2, .int (σ.i 40 3)), (0, .ref 40), (1, .int l1)]) (st' := [.int (σ.i 40 3), .ref b1]) (by decide +kernel) rfl rfl ?_
  obtain ⟨n4, e3, w⟩ := w
  obtain ⟨e5, w⟩ := w
  refine ab_fin.q_eL (x := (σ.l b1 ((σ.i 40 3).toNatClampNeg))) (pc' := 14) (by decide +kernel) (c_eL' e3 e5 rfl) rfl ?_
  refine ab_fin.s2 (i := .lstore_n 3) (k := 1) (pc' := 15) (lv' := [(3, .long (σ.l b1 ((σ.i 40 3).toNatClampNeg))), (2, .int (σ.i 40 3)), (0, .ref 40), (1, .int l1)]) (st' := []) (by decide +kernel) rfl rfl ?_
  refine ab_fin.s2 (i := .aload_n 0) (k := 1) (pc' := 16) (lv' := [(3, .long (σ.l b1 ((σ.i 40 3).toNatClampNeg))), (2, .int (σ.i 40 3)), (0, .ref 40), (1, .int l1)]) (st' := [.ref 40]) (by decide +kernel) rfl rfl ?_
  refine ab_fin.q_rA (b := 41) (ix := 12) (ci := 8) (k := 1) (pc' := 19) (by decide +kernel) rfl (c_rA (F.s t0_40) rfl (rC_8_1 F t0_40)) rfl ?_
  obtain ⟨b6, e7, w⟩ := w
  refine ab_fin.q_rA (b := b6) (ix := 119) (ci := 9) (k := 3) (pc' := 22) (by decide +kernel) rfl (c_rA (F.s t0_41) rfl e7) rfl ?_
  refine ab_fin.s2 (i := .iload_n 2) (k := 1) (pc' := 23) (lv' := [(3, .long (σ.l b1 ((σ.i 40 3).toNatClampNeg))), (2, .int (σ.i 40 3)), (0, .ref 40), (1, .int l1)]) (st' := [.int (σ.i 40 3), .ref b6]) (by decide +kernel) rfl rfl ?_
  obtain ⟨n9, e8, w⟩ := w
  obtain ⟨e10, w⟩ := w
  refine ab_fin.q_eL (x := (σ.l b6 ((σ.i 40 3).toNatClampNeg))) (pc' := 24) (by decide +kernel) (c_eL' e8 e10 rfl) rfl ?_
  refine ab_fin.s2 (i := .lstore 5) (k := 2) (pc' := 26) (lv' := [(5, .long (σ.l b6 ((σ.i 40 3).toNatClampNeg))), (3, .long (σ.l b1 ((σ.i 40 3).toNatClampNeg))), (2, .int (σ.i 40 3)), (0, .ref 40), (1, .int l1)]) (st' := []) (by decide +kernel) rfl rfl ?_
  refine ab_fin.s2 (i := .aload_n 0) (k := 1) (pc' := 27) (lv' := [(5, .long (σ.l b6 ((σ.i 40 3).toNatClampNeg))), (3, .long (σ.l b1 ((σ.i 40 3).toNatClampNeg))), (2, .int (σ.i 40 3)), (0, .ref 40), (1, .int l1)]) (st' := [.ref 40]) (by decide +kernel) rfl rfl ?_
  refine ab_fin.s2 (i := .iload_n 2) (k := 1) (pc' := 28) (lv' := [(5, .long (σ.l b6 ((σ.i 40 3).toNatClampNeg))), (3, .long (σ.l b1 ((σ.i 40 3).toNatClampNeg))), (2, .int (σ.i 40 3)), (0, .ref 40), (1, .int l1)]) (st' := [.int (σ.i 40 3), .ref 40]) (by decide +kernel) rfl rfl ?_
  refine ab_fin.s2 (i := .aload_n 0) (k := 1) (pc' := 29) (lv' := [(5, .long (σ.l b6 ((σ.i 40 3).toNatClampNeg))), (3, .long (σ.l b1 ((σ.i 40 3).toNatClampNeg))), (2, .int (σ.i 40 3)), (0, .ref 40), (1, .int l1)]) (st' := [.ref 40, .int (σ.i 40 3), .ref 40]) (by decide +kernel) rfl rfl ?_
  refine ab_fin.q_rA (b := 1) (ix := 18) (ci := 8) (k := 0) (pc' := 32) (by decide +kernel) rfl (c_rA (F.s t0_40) rfl (rC_8_0 F t0_40)) rfl ?_
  refine ab_fin.q_rA (b := 24) (ix := 74) (ci := 12) (k := 2) (pc' := 35) (by decide +kernel) rfl (c_rA (F.s t0_1) rfl (rC_12_2 F t0_1)) rfl ?_
  refine ab_fin.q_rI (x := (σ.i 24 3)) (ix := 78) (ci := 2) (k := 3) (pc' := 38) (by decide +kernel) rfl (c_rI (F.s t0_24) rfl) rfl ?_
  refine ab_fin.q_yN (i := .invokevirtual 289) (k := 3) (y := 1815) (As := [.ref 40, .int (σ.i 40 3), .int (σ.i 24 3)]) (rest := []) (M' := (mX7_addNode, [])) (lv2 := [(0, .ref 40), (1, .int (σ.i 40 3)), (2, .int (σ.i 24 3))]) (pc' := 41) (X := K) (by decide +kernel) (ab_cv rfl rfl (conc_get (σ := σ) (F.s t0_40)) ⟨(Nat.le_of_ble_eq_true rfl), (Nat.le_of_ble_eq_true rfl)⟩ rfl) rfl (Nat.le_of_ble_eq_true rfl) rfl rfl (hY_no fun E => rfl) w (fun τ11 F12 w => ?_)
  refine ab_fin.s2 (i := .aload_n 0) (k := 1) (pc' := 42) (lv' := [(5, .long (σ.l b6 ((σ.i 40 3).toNatClampNeg))), (3, .long (σ.l b1 ((σ.i 40 3).toNatClampNeg))), (2, .int (σ.i 40 3)), (0, .ref 40), (1, .int l1)]) (st' := [.ref 40]) (by decide +kernel) rfl rfl ?_
  refine ab_fin.s1i (i := .iconst 2) (k := 1) (pc' := 43) (n := 2) (by decide +kernel) rfl (by decide +kernel) rfl ?_
  refine ab_fin.q_yN (i := .invokevirtual 57) (k := 3) (y := 1799) (As := [.ref 40, .int 2]) (rest := []) (M' := (mX7_take, [])) (lv2 := [(0, .ref 40), (1, .int 2)]) (pc' := 46) (X := K) (by decide +kernel) (ab_cv rfl rfl (conc_get (σ := τ11) (F12.s t0_40)) ⟨(Nat.le_of_ble_eq_true rfl), (Nat.le_of_ble_eq_true rfl)⟩ rfl) rfl (Nat.le_of_ble_eq_true rfl) rfl rfl (hY_no fun E => rfl) w (fun τ13 F14 w => ?_)
  refine ab_fin.s2 (i := .aload_n 0) (k := 1) (pc' := 47) (lv' := [(5, .long (σ.l b6 ((σ.i 40 3).toNatClampNeg))), (3, .long (σ.l b1 ((σ.i 40 3).toNatClampNeg))), (2, .int (σ.i 40 3)), (0, .ref 40), (1, .int l1)]) (st' := [.ref 40]) (by decide +kernel) rfl rfl ?_
  refine ab_fin.q_yI (i := .invokevirtual 41) (k := 3) (y := 1798) (As := [.ref 40]) (rest := []) (M' := (mX7_sign, [])) (lv2 := [(0, .ref 40)]) (pc' := 50) (X := K) (by decide +kernel) (ab_cv rfl rfl (conc_get (σ := τ13) (F14.s t0_40)) ⟨(Nat.le_of_ble_eq_true rfl), (Nat.le_of_ble_eq_true rfl)⟩ rfl) rfl (Nat.le_of_ble_eq_true rfl) rfl rfl (hY_no fun E => rfl) w (fun v17 τ15 F16 w => ?_)
  refine ab_fin.s1i (i := .iconst 4) (k := 1) (pc' := 51) (n := 4) (by decide +kernel) rfl (by decide +kernel) rfl ?_
  refine ab_fin.br (c := v17 = 4) (i := .if_icmp .eq 41) (off := 41) (t := 92) (pc' := 54) (r := []) (by decide +kernel) rfl (by decide +kernel) rfl (fun q => ?_) (fun q => ?_)
  · replace w := w.1 q
    refine ab_fin.s2 (i := .aload_n 0) (k := 1) (pc' := 93) (lv' := [(5, .long (σ.l b6 ((σ.i 40 3).toNatClampNeg))), (3, .long (σ.l b1 ((σ.i 40 3).toNatClampNeg))), (2, .int (σ.i 40 3)), (0, .ref 40), (1, .int l1)]) (st' := [.ref 40]) (by decide +kernel) rfl rfl ?_
    refine ab_fin.q_rA (b := 1) (ix := 18) (ci := 8) (k := 0) (pc' := 96) (by decide +kernel) rfl (c_rA (F16.s t0_40) rfl (rC_8_0 F16 t0_40)) rfl ?_
    refine ab_fin.s1i (i := .iconst 0) (k := 1) (pc' := 97) (n := 0) (by decide +kernel) rfl (by decide +kernel) rfl ?_
    refine ab_fin.s2 (i := .lload_n 3) (k := 1) (pc' := 98) (lv' := [(5, .long (σ.l b6 ((σ.i 40 3).toNatClampNeg))), (3, .long (σ.l b1 ((σ.i 40 3).toNatClampNeg))), (2, .int (σ.i 40 3)), (0, .ref 40), (1, .int l1)]) (st' := [.long (σ.l b1 ((σ.i 40 3).toNatClampNeg)), .int 0, .ref 1]) (by decide +kernel) rfl rfl ?_
    refine ab_fin.s2 (i := .lload 5) (k := 2) (pc' := 100) (lv' := [(5, .long (σ.l b6 ((σ.i 40 3).toNatClampNeg))), (3, .long (σ.l b1 ((σ.i 40 3).toNatClampNeg))), (2, .int (σ.i 40 3)), (0, .ref 40), (1, .int l1)]) (st' := [.long (σ.l b6 ((σ.i 40 3).toNatClampNeg)), .long (σ.l b1 ((σ.i 40 3).toNatClampNeg)), .int 0, .ref 1]) (by decide +kernel) rfl rfl ?_
    refine ab_fin.q_yI (i := .invokevirtual 134) (k := 3) (y := 2818) (As := [.ref 1, .int 0, .long (σ.l b1 ((σ.i 40 3).toNatClampNeg)), .long (σ.l b6 ((σ.i 40 3).toNatClampNeg))]) (rest := []) (M' := (mX11_find, [])) (lv2 := [(0, .ref 1), (1, .int 0), (2, .long (σ.l b1 ((σ.i 40 3).toNatClampNeg))), (4, .long (σ.l b6 ((σ.i 40 3).toNatClampNeg)))]) (pc' := 103) (X := K) (by decide +kernel) (ab_cv rfl rfl (conc_get (σ := τ15) (F16.s t0_1)) ⟨(Nat.le_of_ble_eq_true rfl), (Nat.le_of_ble_eq_true rfl)⟩ rfl) rfl (Nat.le_of_ble_eq_true rfl) rfl rfl (hY_no fun E => rfl) w (fun v20 τ18 F19 w => ?_)
    refine ab_fin.s2 (i := .istore 7) (k := 2) (pc' := 105) (lv' := [(7, .int v20), (5, .long (σ.l b6 ((σ.i 40 3).toNatClampNeg))), (3, .long (σ.l b1 ((σ.i 40 3).toNatClampNeg))), (2, .int (σ.i 40 3)), (0, .ref 40), (1, .int l1)]) (st' := []) (by decide +kernel) rfl rfl ?_
    refine ab_fin.s2 (i := .aload_n 0) (k := 1) (pc' := 106) (lv' := [(7, .int v20), (5, .long (σ.l b6 ((σ.i 40 3).toNatClampNeg))), (3, .long (σ.l b1 ((σ.i 40 3).toNatClampNeg))), (2, .int (σ.i 40 3)), (0, .ref 40), (1, .int l1)]) (st' := [.ref 40]) (by decide +kernel) rfl rfl ?_
    refine ab_fin.q_rA (b := 1) (ix := 18) (ci := 8) (k := 0) (pc' := 109) (by decide +kernel) rfl (c_rA (F19.s t0_40) rfl (rC_8_0 F19 t0_40)) rfl ?_
    refine ab_fin.s1i (i := .iconst 1) (k := 1) (pc' := 110) (n := 1) (by decide +kernel) rfl (by decide +kernel) rfl ?_
    refine ab_fin.s2 (i := .lload_n 3) (k := 1) (pc' := 111) (lv' := [(7, .int v20), (5, .long (σ.l b6 ((σ.i 40 3).toNatClampNeg))), (3, .long (σ.l b1 ((σ.i 40 3).toNatClampNeg))), (2, .int (σ.i 40 3)), (0, .ref 40), (1, .int l1)]) (st' := [.long (σ.l b1 ((σ.i 40 3).toNatClampNeg)), .int 1, .ref 1]) (by decide +kernel) rfl rfl ?_
    refine ab_fin.s2 (i := .lload 5) (k := 2) (pc' := 113) (lv' := [(7, .int v20), (5, .long (σ.l b6 ((σ.i 40 3).toNatClampNeg))), (3, .long (σ.l b1 ((σ.i 40 3).toNatClampNeg))), (2, .int (σ.i 40 3)), (0, .ref 40), (1, .int l1)]) (st' := [.long (σ.l b6 ((σ.i 40 3).toNatClampNeg)), .long (σ.l b1 ((σ.i 40 3).toNatClampNeg)), .int 1, .ref 1]) (by decide +kernel) rfl rfl ?_
    refine ab_fin.q_yI (i := .invokevirtual 134) (k := 3) (y := 2818) (As := [.ref 1, .int 1, .long (σ.l b1 ((σ.i 40 3).toNatClampNeg)), .long (σ.l b6 ((σ.i 40 3).toNatClampNeg))]) (rest := []) (M' := (mX11_find, [])) (lv2 := [(0, .ref 1), (1, .int 1), (2, .long (σ.l b1 ((σ.i 40 3).toNatClampNeg))), (4, .long (σ.l b6 ((σ.i 40 3).toNatClampNeg)))]) (pc' := 116) (X := K) (by decide +kernel) (ab_cv rfl rfl (conc_get (σ := τ18) (F19.s t0_1)) ⟨(Nat.le_of_ble_eq_true rfl), (Nat.le_of_ble_eq_true rfl)⟩ rfl) rfl (Nat.le_of_ble_eq_true rfl) rfl rfl (hY_no fun E => rfl) w (fun v23 τ21 F22 w => ?_)
    refine ab_fin.s2 (i := .istore 8) (k := 2) (pc' := 118) (lv' := [(8, .int v23), (7, .int v20), (5, .long (σ.l b6 ((σ.i 40 3).toNatClampNeg))), (3, .long (σ.l b1 ((σ.i 40 3).toNatClampNeg))), (2, .int (σ.i 40 3)), (0, .ref 40), (1, .int l1)]) (st' := []) (by decide +kernel) rfl rfl ?_
    refine ab_fin.s2 (i := .iload 7) (k := 2) (pc' := 120) (lv' := [(8, .int v23), (7, .int v20), (5, .long (σ.l b6 ((σ.i 40 3).toNatClampNeg))), (3, .long (σ.l b1 ((σ.i 40 3).toNatClampNeg))), (2, .int (σ.i 40 3)), (0, .ref 40), (1, .int l1)]) (st' := [.int v20]) (by decide +kernel) rfl rfl ?_
    refine ab_fin.br (c := v20 < 0) (i := .ifCond .lt 48) (off := 48) (t := 168) (pc' := 123) (r := []) (by decide +kernel) rfl (by decide +kernel) rfl (fun q => ?_) (fun q => ?_)
    · replace w := w.1 q
      refine ab_fin.s2 (i := .iload 8) (k := 2) (pc' := 170) (lv' := [(8, .int v23), (7, .int v20), (5, .long (σ.l b6 ((σ.i 40 3).toNatClampNeg))), (3, .long (σ.l b1 ((σ.i 40 3).toNatClampNeg))), (2, .int (σ.i 40 3)), (0, .ref 40), (1, .int l1)]) (st' := [.int v23]) (by decide +kernel) rfl rfl ?_
      refine ab_fin.br (c := 0 ≤ v23) (i := .ifCond .ge 9) (off := 9) (t := 179) (pc' := 173) (r := []) (by decide +kernel) rfl (by decide +kernel) rfl (fun q => ?_) (fun q => ?_)
      · replace w := w.1 q
        exact ab_fin.lv ⟨(List.forall_mem_cons.mpr ⟨(List.Mem.tail _ (List.Mem.tail _ (List.Mem.tail _ (List.Mem.tail _ (List.Mem.tail _ (List.Mem.head _)))))), (List.forall_mem_cons.mpr ⟨(List.Mem.tail _ (List.Mem.tail _ (List.Mem.tail _ (List.Mem.tail _ (List.Mem.tail _ (List.Mem.tail _ (List.Mem.head _))))))), (List.forall_mem_cons.mpr ⟨(List.Mem.head _), (fun _ h => absurd h List.not_mem_nil)⟩)⟩)⟩), (show ([8, 7, 5, 3, 2, 0, 1] : List Nat).Nodup from by decide)⟩ w
      · replace w := w.2 q
        refine ab_fin.s2 (i := .aload_n 0) (k := 1) (pc' := 174) (lv' := [(8, .int v23), (7, .int v20), (5, .long (σ.l b6 ((σ.i 40 3).toNatClampNeg))), (3, .long (σ.l b1 ((σ.i 40 3).toNatClampNeg))), (2, .int (σ.i 40 3)), (0, .ref 40), (1, .int l1)]) (st' := [.ref 40]) (by decide +kernel) rfl rfl ?_
        refine ab_fin.s1i (i := .iconst 3) (k := 1) (pc' := 175) (n := 3) (by decide +kernel) rfl (by decide +kernel) rfl ?_
        refine ab_fin.s2 (i := .iload_n 2) (k := 1) (pc' := 176) (lv' := [(8, .int v23), (7, .int v20), (5, .long (σ.l b6 ((σ.i 40 3).toNatClampNeg))), (3, .long (σ.l b1 ((σ.i 40 3).toNatClampNeg))), (2, .int (σ.i 40 3)), (0, .ref 40), (1, .int l1)]) (st' := [.int (σ.i 40 3), .int 3, .ref 40]) (by decide +kernel) rfl rfl ?_
        refine ab_fin.q_yN (i := .invokevirtual 126) (k := 3) (y := 1800) (As := [.ref 40, .int 3, .int (σ.i 40 3)]) (rest := []) (M' := (mX7_breakRule, [])) (lv2 := [(0, .ref 40), (1, .int 3), (2, .int (σ.i 40 3))]) (pc' := 179) (X := K) (by decide +kernel) (ab_cv rfl rfl (conc_get (σ := τ21) (F22.s t0_40)) ⟨(Nat.le_of_ble_eq_true rfl), (Nat.le_of_ble_eq_true rfl)⟩ rfl) rfl (Nat.le_of_ble_eq_true rfl) rfl rfl (hY_no fun E => rfl) w (fun τ24 F25 w => ?_)
        exact ab_fin.lv ⟨(List.forall_mem_cons.mpr ⟨(List.Mem.tail _ (List.Mem.tail _ (List.Mem.tail _ (List.Mem.tail _ (List.Mem.tail _ (List.Mem.head _)))))), (List.forall_mem_cons.mpr ⟨(List.Mem.tail _ (List.Mem.tail _ (List.Mem.tail _ (List.Mem.tail _ (List.Mem.tail _ (List.Mem.tail _ (List.Mem.head _))))))), (List.forall_mem_cons.mpr ⟨(List.Mem.head _), (fun _ h => absurd h List.not_mem_nil)⟩)⟩)⟩), (show ([8, 7, 5, 3, 2, 0, 1] : List Nat).Nodup from by decide)⟩ w
    · replace w := w.2 q
      refine ab_fin.s2 (i := .aload_n 0) (k := 1) (pc' := 124) (lv' := [(8, .int v23), (7, .int v20), (5, .long (σ.l b6 ((σ.i 40 3).toNatClampNeg))), (3, .long (σ.l b1 ((σ.i 40 3).toNatClampNeg))), (2, .int (σ.i 40 3)), (0, .ref 40), (1, .int l1)]) (st' := [.ref 40]) (by decide +kernel) rfl rfl ?_
      refine ab_fin.q_rA (b := 1) (ix := 18) (ci := 8) (k := 0) (pc' := 127) (by decide +kernel) rfl (c_rA (F22.s t0_40) rfl (rC_8_0 F22 t0_40)) rfl ?_
      refine ab_fin.q_rA (b := 2) (ix := 142) (ci := 12) (k := 0) (pc' := 130) (by decide +kernel) rfl (c_rA (F22.s t0_1) rfl (rC_12_0 F22 t0_1)) rfl ?_
      refine ab_fin.q_rA (b := 3) (ix := 316) (ci := 3) (k := 0) (pc' := 133) (by decide +kernel) rfl (c_rA (F22.s t0_2) rfl (rC_3_0 F22 t0_2)) rfl ?_
      refine ab_fin.s2 (i := .iload 7) (k := 2) (pc' := 135) (lv' := [(8, .int v23), (7, .int v20), (5, .long (σ.l b6 ((σ.i 40 3).toNatClampNeg))), (3, .long (σ.l b1 ((σ.i 40 3).toNatClampNeg))), (2, .int (σ.i 40 3)), (0, .ref 40), (1, .int l1)]) (st' := [.int v20, .ref 3]) (by decide +kernel) rfl rfl ?_
      obtain ⟨e26, w⟩ := w
      refine ab_fin.q_eB (x := (τ21.i 3 v20.toNatClampNeg)) (pc' := 136) (by decide +kernel) (c_eB3' (F22.s t0_3) e26 rfl) rfl ?_
      refine ab_fin.br (c := (τ21.i 3 v20.toNatClampNeg) = 0) (i := .ifCond .eq 10) (off := 10) (t := 146) (pc' := 139) (r := []) (by decide +kernel) rfl (by decide +kernel) rfl (fun q => ?_) (fun q => ?_)
      · replace w := w.1 q
        exact ab_fin.lv ⟨(List.forall_mem_cons.mpr ⟨(List.Mem.tail _ (List.Mem.tail _ (List.Mem.tail _ (List.Mem.tail _ (List.Mem.tail _ (List.Mem.head _)))))), (List.forall_mem_cons.mpr ⟨(List.Mem.tail _ (List.Mem.tail _ (List.Mem.tail _ (List.Mem.tail _ (List.Mem.tail _ (List.Mem.tail _ (List.Mem.head _))))))), (List.forall_mem_cons.mpr ⟨(List.Mem.tail _ (List.Mem.head _)), (fun _ h => absurd h List.not_mem_nil)⟩)⟩)⟩), (show ([8, 7, 5, 3, 2, 0, 1] : List Nat).Nodup from by decide)⟩ w
      · replace w := w.2 q
        refine ab_fin.s2 (i := .aload_n 0) (k := 1) (pc' := 140) (lv' := [(8, .int v23), (7, .int v20), (5, .long (σ.l b6 ((σ.i 40 3).toNatClampNeg))), (3, .long (σ.l b1 ((σ.i 40 3).toNatClampNeg))), (2, .int (σ.i 40 3)), (0, .ref 40), (1, .int l1)]) (st' := [.ref 40]) (by decide +kernel) rfl rfl ?_
        refine ab_fin.s1i (i := .bipush 6) (k := 2) (pc' := 142) (n := 6) (by decide +kernel) rfl (by decide +kernel) rfl ?_
        refine ab_fin.s2 (i := .iload_n 2) (k := 1) (pc' := 143) (lv' := [(8, .int v23), (7, .int v20), (5, .long (σ.l b6 ((σ.i 40 3).toNatClampNeg))), (3, .long (σ.l b1 ((σ.i 40 3).toNatClampNeg))), (2, .int (σ.i 40 3)), (0, .ref 40), (1, .int l1)]) (st' := [.int (σ.i 40 3), .int 6, .ref 40]) (by decide +kernel) rfl rfl ?_
        refine ab_fin.q_yN (i := .invokevirtual 126) (k := 3) (y := 1800) (As := [.ref 40, .int 6, .int (σ.i 40 3)]) (rest := []) (M' := (mX7_breakRule, [])) (lv2 := [(0, .ref 40), (1, .int 6), (2, .int (σ.i 40 3))]) (pc' := 146) (X := K) (by decide +kernel) (ab_cv rfl rfl (conc_get (σ := τ21) (F22.s t0_40)) ⟨(Nat.le_of_ble_eq_true rfl), (Nat.le_of_ble_eq_true rfl)⟩ rfl) rfl (Nat.le_of_ble_eq_true rfl) rfl rfl (hY_no fun E => rfl) w (fun τ27 F28 w => ?_)
        exact ab_fin.lv ⟨(List.forall_mem_cons.mpr ⟨(List.Mem.tail _ (List.Mem.tail _ (List.Mem.tail _ (List.Mem.tail _ (List.Mem.tail _ (List.Mem.head _)))))), (List.forall_mem_cons.mpr ⟨(List.Mem.tail _ (List.Mem.tail _ (List.Mem.tail _ (List.Mem.tail _ (List.Mem.tail _ (List.Mem.tail _ (List.Mem.head _))))))), (List.forall_mem_cons.mpr ⟨(List.Mem.tail _ (List.Mem.head _)), (fun _ h => absurd h List.not_mem_nil)⟩)⟩)⟩), (show ([8, 7, 5, 3, 2, 0, 1] : List Nat).Nodup from by decide)⟩ w
  · replace w := w.2 q
    refine ab_fin.s2 (i := .aload_n 0) (k := 1) (pc' := 55) (lv' := [(5, .long (σ.l b6 ((σ.i 40 3).toNatClampNeg))), (3, .long (σ.l b1 ((σ.i 40 3).toNatClampNeg))), (2, .int (σ.i 40 3)), (0, .ref 40), (1, .int l1)]) (st' := [.ref 40]) (by decide +kernel) rfl rfl ?_
    refine ab_fin.q_rA (b := 1) (ix := 18) (ci := 8) (k := 0) (pc' := 58) (by decide +kernel) rfl (c_rA (F16.s t0_40) rfl (rC_8_0 F16 t0_40)) rfl ?_
    refine ab_fin.s1i (i := .iconst 3) (k := 1) (pc' := 59) (n := 3) (by decide +kernel) rfl (by decide +kernel) rfl ?_
    refine ab_fin.s2 (i := .lload_n 3) (k := 1) (pc' := 60) (lv' := [(5, .long (σ.l b6 ((σ.i 40 3).toNatClampNeg))), (3, .long (σ.l b1 ((σ.i 40 3).toNatClampNeg))), (2, .int (σ.i 40 3)), (0, .ref 40), (1, .int l1)]) (st' := [.long (σ.l b1 ((σ.i 40 3).toNatClampNeg)), .int 3, .ref 1]) (by decide +kernel) rfl rfl ?_
    refine ab_fin.s2 (i := .lload 5) (k := 2) (pc' := 62) (lv' := [(5, .long (σ.l b6 ((σ.i 40 3).toNatClampNeg))), (3, .long (σ.l b1 ((σ.i 40 3).toNatClampNeg))), (2, .int (σ.i 40 3)), (0, .ref 40), (1, .int l1)]) (st' := [.long (σ.l b6 ((σ.i 40 3).toNatClampNeg)), .long (σ.l b1 ((σ.i 40 3).toNatClampNeg)), .int 3, .ref 1]) (by decide +kernel) rfl rfl ?_
    refine ab_fin.q_yI (i := .invokevirtual 134) (k := 3) (y := 2818) (As := [.ref 1, .int 3, .long (σ.l b1 ((σ.i 40 3).toNatClampNeg)), .long (σ.l b6 ((σ.i 40 3).toNatClampNeg))]) (rest := []) (M' := (mX11_find, [])) (lv2 := [(0, .ref 1), (1, .int 3), (2, .long (σ.l b1 ((σ.i 40 3).toNatClampNeg))), (4, .long (σ.l b6 ((σ.i 40 3).toNatClampNeg)))]) (pc' := 65) (X := K) (by decide +kernel) (ab_cv rfl rfl (conc_get (σ := τ15) (F16.s t0_1)) ⟨(Nat.le_of_ble_eq_true rfl), (Nat.le_of_ble_eq_true rfl)⟩ rfl) rfl (Nat.le_of_ble_eq_true rfl) rfl rfl (hY_no fun E => rfl) w (fun v31 τ29 F30 w => ?_)
    refine ab_fin.s2 (i := .istore 7) (k := 2) (pc' := 67) (lv' := [(7, .int v31), (5, .long (σ.l b6 ((σ.i 40 3).toNatClampNeg))), (3, .long (σ.l b1 ((σ.i 40 3).toNatClampNeg))), (2, .int (σ.i 40 3)), (0, .ref 40), (1, .int l1)]) (st' := []) (by decide +kernel) rfl rfl ?_
    refine ab_fin.s2 (i := .iload 7) (k := 2) (pc' := 69) (lv' := [(7, .int v31), (5, .long (σ.l b6 ((σ.i 40 3).toNatClampNeg))), (3, .long (σ.l b1 ((σ.i 40 3).toNatClampNeg))), (2, .int (σ.i 40 3)), (0, .ref 40), (1, .int l1)]) (st' := [.int v31]) (by decide +kernel) rfl rfl ?_
    refine ab_fin.br (c := 0 ≤ v31) (i := .ifCond .ge 9) (off := 9) (t := 78) (pc' := 72) (r := []) (by decide +kernel) rfl (by decide +kernel) rfl (fun q => ?_) (fun q => ?_)
    · replace w := w.1 q
      refine ab_fin.s2 (i := .aload_n 0) (k := 1) (pc' := 79) (lv' := [(7, .int v31), (5, .long (σ.l b6 ((σ.i 40 3).toNatClampNeg))), (3, .long (σ.l b1 ((σ.i 40 3).toNatClampNeg))), (2, .int (σ.i 40 3)), (0, .ref 40), (1, .int l1)]) (st' := [.ref 40]) (by decide +kernel) rfl rfl ?_
      refine ab_fin.q_rA (b := 1) (ix := 18) (ci := 8) (k := 0) (pc' := 82) (by decide +kernel) rfl (c_rA (F30.s t0_40) rfl (rC_8_0 F30 t0_40)) rfl ?_
      refine ab_fin.q_rA (b := 24) (ix := 74) (ci := 12) (k := 2) (pc' := 85) (by decide +kernel) rfl (c_rA (F30.s t0_1) rfl (rC_12_2 F30 t0_1)) rfl ?_
      refine ab_fin.s1i (i := .iconst 1) (k := 1) (pc' := 86) (n := 1) (by decide +kernel) rfl (by decide +kernel) rfl ?_
      refine ab_fin.s2 (i := .iload 7) (k := 2) (pc' := 88) (lv' := [(7, .int v31), (5, .long (σ.l b6 ((σ.i 40 3).toNatClampNeg))), (3, .long (σ.l b1 ((σ.i 40 3).toNatClampNeg))), (2, .int (σ.i 40 3)), (0, .ref 40), (1, .int l1)]) (st' := [.int v31, .int 1, .ref 24]) (by decide +kernel) rfl rfl ?_
      refine ab_fin.q_yN (i := .invokevirtual 271) (k := 3) (y := 258) (As := [.ref 24, .int 1, .int v31]) (rest := []) (M' := (mX1_emit, [])) (lv2 := [(0, .ref 24), (1, .int 1), (2, .int v31)]) (pc' := 91) (X := K) (by decide +kernel) (ab_cv rfl rfl (conc_get (σ := τ29) (F30.s t0_24)) ⟨(Nat.le_of_ble_eq_true rfl), (Nat.le_of_ble_eq_true rfl)⟩ rfl) rfl (Nat.le_of_ble_eq_true rfl) rfl rfl (hY_no fun E => rfl) w (fun τ32 F33 w => ?_)
      exact ab_fin.q_ret (i := .return_) (k := 1) (v := none) (by decide +kernel) rfl F33 w
    · replace w := w.2 q
      refine ab_fin.s2 (i := .aload_n 0) (k := 1) (pc' := 73) (lv' := [(7, .int v31), (5, .long (σ.l b6 ((σ.i 40 3).toNatClampNeg))), (3, .long (σ.l b1 ((σ.i 40 3).toNatClampNeg))), (2, .int (σ.i 40 3)), (0, .ref 40), (1, .int l1)]) (st' := [.ref 40]) (by decide +kernel) rfl rfl ?_
      refine ab_fin.s1i (i := .iconst 3) (k := 1) (pc' := 74) (n := 3) (by decide +kernel) rfl (by decide +kernel) rfl ?_
      refine ab_fin.s2 (i := .iload_n 2) (k := 1) (pc' := 75) (lv' := [(7, .int v31), (5, .long (σ.l b6 ((σ.i 40 3).toNatClampNeg))), (3, .long (σ.l b1 ((σ.i 40 3).toNatClampNeg))), (2, .int (σ.i 40 3)), (0, .ref 40), (1, .int l1)]) (st' := [.int (σ.i 40 3), .int 3, .ref 40]) (by decide +kernel) rfl rfl ?_
      refine ab_fin.q_yN (i := .invokevirtual 126) (k := 3) (y := 1800) (As := [.ref 40, .int 3, .int (σ.i 40 3)]) (rest := []) (M' := (mX7_breakRule, [])) (lv2 := [(0, .ref 40), (1, .int 3), (2, .int (σ.i 40 3))]) (pc' := 78) (X := K) (by decide +kernel) (ab_cv rfl rfl (conc_get (σ := τ29) (F30.s t0_40)) ⟨(Nat.le_of_ble_eq_true rfl), (Nat.le_of_ble_eq_true rfl)⟩ rfl) rfl (Nat.le_of_ble_eq_true rfl) rfl rfl (hY_no fun E => rfl) w (fun τ34 F35 w => ?_)
      refine ab_fin.s2 (i := .aload_n 0) (k := 1) (pc' := 79) (lv' := [(7, .int v31), (5, .long (σ.l b6 ((σ.i 40 3).toNatClampNeg))), (3, .long (σ.l b1 ((σ.i 40 3).toNatClampNeg))), (2, .int (σ.i 40 3)), (0, .ref 40), (1, .int l1)]) (st' := [.ref 40]) (by decide +kernel) rfl rfl ?_
      refine ab_fin.q_rA (b := 1) (ix := 18) (ci := 8) (k := 0) (pc' := 82) (by decide +kernel) rfl (c_rA (F35.s t0_40) rfl (rC_8_0 F35 t0_40)) rfl ?_
      refine ab_fin.q_rA (b := 24) (ix := 74) (ci := 12) (k := 2) (pc' := 85) (by decide +kernel) rfl (c_rA (F35.s t0_1) rfl (rC_12_2 F35 t0_1)) rfl ?_
      refine ab_fin.s1i (i := .iconst 1) (k := 1) (pc' := 86) (n := 1) (by decide +kernel) rfl (by decide +kernel) rfl ?_
      refine ab_fin.s2 (i := .iload 7) (k := 2) (pc' := 88) (lv' := [(7, .int v31), (5, .long (σ.l b6 ((σ.i 40 3).toNatClampNeg))), (3, .long (σ.l b1 ((σ.i 40 3).toNatClampNeg))), (2, .int (σ.i 40 3)), (0, .ref 40), (1, .int l1)]) (st' := [.int v31, .int 1, .ref 24]) (by decide +kernel) rfl rfl ?_
      refine ab_fin.q_yN (i := .invokevirtual 271) (k := 3) (y := 258) (As := [.ref 24, .int 1, .int v31]) (rest := []) (M' := (mX1_emit, [])) (lv2 := [(0, .ref 24), (1, .int 1), (2, .int v31)]) (pc' := 91) (X := K) (by decide +kernel) (ab_cv rfl rfl (conc_get (σ := τ34) (F35.s t0_24)) ⟨(Nat.le_of_ble_eq_true rfl), (Nat.le_of_ble_eq_true rfl)⟩ rfl) rfl (Nat.le_of_ble_eq_true rfl) rfl rfl (hY_no fun E => rfl) w (fun τ36 F37 w => ?_)
      exact ab_fin.q_ret (i := .return_) (k := 1) (v := none) (by decide +kernel) rfl F37 w
theorem T_X7_readNamed_146 {Z : zT} {d : Nat} {σ : Sg} {l1 : Int32} {l7 : Int32} {K : kS} (F : FX ΦC σ.sh σ.r) (w : C_X7_readArguments_0 Z d σ 1 l1 (yN K fun τ1 => C_X1_emit_0 Z d τ1 2 l7 (yN K fun τ3 => K (.inl none) τ3))) : C_X7_readNamed_146 Z (d + 1) σ l1 l7 K := by
  unfold C_X7_readNamed_146
  refine ab_fin.s2 (i := .aload_n 0) (k := 1) (pc' := 147) (lv' := [(0, .ref 40), (1, .int l1), (7, .int l7)]) (st' := [.ref 40]) (by decide +kernel) rfl rfl ?_
  refine ab_fin.s1i (i := .iconst 1) (k := 1) (pc' := 148) (n := 1) (by decide +kernel) rfl (by decide +kernel) rfl ?_
  refine ab_fin.s2 (i := .iload_n 1) (k := 1) (pc' := 149) (lv' := [(0, .ref 40), (1, .int l1), (7, .int l7)]) (st' := [.int l1, .int 1, .ref 40]) (by decide +kernel) rfl rfl ?_
  refine ab_fin.q_yN (i := .invokevirtual 319) (k := 3) (y := 1828) (As := [.ref 40, .int 1, .int l1]) (rest := []) (M' := (mX7_readArguments, [])) (lv2 := [(0, .ref 40), (1, .int 1), (2, .int l1)]) (pc' := 152) (X := K) (by decide +kernel) (ab_cv rfl rfl (conc_get (σ := σ) (F.s t0_40)) ⟨(Nat.le_of_ble_eq_true rfl), (Nat.le_of_ble_eq_true rfl)⟩ rfl) rfl (Nat.le_of_ble_eq_true rfl) rfl rfl (hY_no fun E => rfl) w (fun τ1 F2 w => ?_)
  refine ab_fin.s2 (i := .aload_n 0) (k := 1) (pc' := 153) (lv' := [(0, .ref 40), (1, .int l1), (7, .int l7)]) (st' := [.ref 40]) (by decide +kernel) rfl rfl ?_
  refine ab_fin.q_rA (b := 1) (ix := 18) (ci := 8) (k := 0) (pc' := 156) (by decide +kernel) rfl (c_rA (F2.s t0_40) rfl (rC_8_0 F2 t0_40)) rfl ?_
  refine ab_fin.q_rA (b := 24) (ix := 74) (ci := 12) (k := 2) (pc' := 159) (by decide +kernel) rfl (c_rA (F2.s t0_1) rfl (rC_12_2 F2 t0_1)) rfl ?_
  refine ab_fin.s1i (i := .iconst 2) (k := 1) (pc' := 160) (n := 2) (by decide +kernel) rfl (by decide +kernel) rfl ?_
  refine ab_fin.s2 (i := .iload 7) (k := 2) (pc' := 162) (lv' := [(0, .ref 40), (1, .int l1), (7, .int l7)]) (st' := [.int l7, .int 2, .ref 24]) (by decide +kernel) rfl rfl ?_
  refine ab_fin.q_yN (i := .invokevirtual 271) (k := 3) (y := 258) (As := [.ref 24, .int 2, .int l7]) (rest := []) (M' := (mX1_emit, [])) (lv2 := [(0, .ref 24), (1, .int 2), (2, .int l7)]) (pc' := 165) (X := K) (by decide +kernel) (ab_cv rfl rfl (conc_get (σ := τ1) (F2.s t0_24)) ⟨(Nat.le_of_ble_eq_true rfl), (Nat.le_of_ble_eq_true rfl)⟩ rfl) rfl (Nat.le_of_ble_eq_true rfl) rfl rfl (hY_no fun E => rfl) w (fun τ3 F4 w => ?_)
  refine ab_fin.s3 (i := .goto 52) (k := 3) (t := 217) (st' := []) (by decide +kernel) (ab_gto (by decide +kernel)) ?_
  exact ab_fin.q_ret (i := .return_) (k := 1) (v := none) (by decide +kernel) rfl F4 w
theorem T_X7_readNamed_179 {Z : zT} {d : Nat} {σ : Sg} {l1 : Int32} {l8 : Int32} {K : kS} (F : FX ΦC σ.sh σ.r) (w : (0 ≤ l8 → ib l8 24 ∧ (C_X7_readArguments_0 Z d σ (σ.i 31 l8.toNatClampNeg) l1 (yN K fun τ2 => C_X1_emit_0 Z d τ2 22 l8 (yN K fun τ4 => K (.inl none) τ4)))) ∧ (¬ 0 ≤ l8 → C_X7_readArguments_0 Z d σ (-1) l1 (yN K fun τ6 => C_X1_emit_0 Z d τ6 22 l8 (yN K fun τ8 => K (.inl none) τ8)))) : C_X7_readNamed_179 Z (d + 1) σ l1 l8 K := by
  unfold C_X7_readNamed_179
  refine ab_fin.s2 (i := .aload_n 0) (k := 1) (pc' := 180) (lv' := [(0, .ref 40), (1, .int l1), (8, .int l8)]) (st' := [.ref 40]) (by decide +kernel) rfl rfl ?_
  refine ab_fin.s2 (i := .iload 8) (k := 2) (pc' := 182) (lv' := [(0, .ref 40), (1, .int l1), (8, .int l8)]) (st' := [.int l8, .ref 40]) (by decide +kernel) rfl rfl ?_
  refine ab_fin.br (c := 0 ≤ l8) (i := .ifCond .ge 7) (off := 7) (t := 189) (pc' := 185) (r := [.ref 40]) (by decide +kernel) rfl (by decide +kernel) rfl (fun q => ?_) (fun q => ?_)
  · replace w := w.1 q
    refine ab_fin.s2 (i := .aload_n 0) (k := 1) (pc' := 190) (lv' := [(0, .ref 40), (1, .int l1), (8, .int l8)]) (st' := [.ref 40, .ref 40]) (by decide +kernel) rfl rfl ?_
    refine ab_fin.q_rA (b := 1) (ix := 18) (ci := 8) (k := 0) (pc' := 193) (by decide +kernel) rfl (c_rA (F.s t0_40) rfl (rC_8_0 F t0_40)) rfl ?_
    refine ab_fin.q_rA (b := 31) (ix := 170) (ci := 12) (k := 6) (pc' := 196) (by decide +kernel) rfl (c_rA (F.s t0_1) rfl (rC_12_6 F t0_1)) rfl ?_
    refine ab_fin.s2 (i := .iload 8) (k := 2) (pc' := 198) (lv' := [(0, .ref 40), (1, .int l1), (8, .int l8)]) (st' := [.int l8, .ref 31, .ref 40]) (by decide +kernel) rfl rfl ?_
    obtain ⟨e1, w⟩ := w
    refine ab_fin.q_eI (x := (σ.i 31 l8.toNatClampNeg)) (pc' := 199) (by decide +kernel) (c_eI' (F.s t0_31) e1 rfl) rfl ?_
    refine ab_fin.s2 (i := .iload_n 1) (k := 1) (pc' := 200) (lv' := [(0, .ref 40), (1, .int l1), (8, .int l8)]) (st' := [.int l1, .int (σ.i 31 l8.toNatClampNeg), .ref 40]) (by decide +kernel) rfl rfl ?_
    refine ab_fin.q_yN (i := .invokevirtual 319) (k := 3) (y := 1828) (As := [.ref 40, .int (σ.i 31 l8.toNatClampNeg), .int l1]) (rest := []) (M' := (mX7_readArguments, [])) (lv2 := [(0, .ref 40), (1, .int (σ.i 31 l8.toNatClampNeg)), (2, .int l1)]) (pc' := 203) (X := K) (by decide +kernel) (ab_cv rfl rfl (conc_get (σ := σ) (F.s t0_40)) ⟨(Nat.le_of_ble_eq_true rfl), (Nat.le_of_ble_eq_true rfl)⟩ rfl) rfl (Nat.le_of_ble_eq_true rfl) rfl rfl (hY_no fun E => rfl) w (fun τ2 F3 w => ?_)
    refine ab_fin.s2 (i := .aload_n 0) (k := 1) (pc' := 204) (lv' := [(0, .ref 40), (1, .int l1), (8, .int l8)]) (st' := [.ref 40]) (by decide +kernel) rfl rfl ?_
    refine ab_fin.q_rA (b := 1) (ix := 18) (ci := 8) (k := 0) (pc' := 207) (by decide +kernel) rfl (c_rA (F3.s t0_40) rfl (rC_8_0 F3 t0_40)) rfl ?_
    refine ab_fin.q_rA (b := 24) (ix := 74) (ci := 12) (k := 2) (pc' := 210) (by decide +kernel) rfl (c_rA (F3.s t0_1) rfl (rC_12_2 F3 t0_1)) rfl ?_
    refine ab_fin.s1i (i := .bipush 22) (k := 2) (pc' := 212) (n := 22) (by decide +kernel) rfl (by decide +kernel) rfl ?_
    refine ab_fin.s2 (i := .iload 8) (k := 2) (pc' := 214) (lv' := [(0, .ref 40), (1, .int l1), (8, .int l8)]) (st' := [.int l8, .int 22, .ref 24]) (by decide +kernel) rfl rfl ?_
    refine ab_fin.q_yN (i := .invokevirtual 271) (k := 3) (y := 258) (As := [.ref 24, .int 22, .int l8]) (rest := []) (M' := (mX1_emit, [])) (lv2 := [(0, .ref 24), (1, .int 22), (2, .int l8)]) (pc' := 217) (X := K) (by decide +kernel) (ab_cv rfl rfl (conc_get (σ := τ2) (F3.s t0_24)) ⟨(Nat.le_of_ble_eq_true rfl), (Nat.le_of_ble_eq_true rfl)⟩ rfl) rfl (Nat.le_of_ble_eq_true rfl) rfl rfl (hY_no fun E => rfl) w (fun τ4 F5 w => ?_)
    exact ab_fin.q_ret (i := .return_) (k := 1) (v := none) (by decide +kernel) rfl F5 w
  · replace w := w.2 q
    refine ab_fin.s1i (i := .iconst (-1)) (k := 1) (pc' := 186) (n := (-1)) (by decide +kernel) rfl (by decide +kernel) rfl ?_
    refine ab_fin.s3 (i := .goto 13) (k := 3) (t := 199) (st' := [.int (-1), .ref 40]) (by decide +kernel) (ab_gto (by decide +kernel)) ?_
    refine ab_fin.s2 (i := .iload_n 1) (k := 1) (pc' := 200) (lv' := [(0, .ref 40), (1, .int l1), (8, .int l8)]) (st' := [.int l1, .int (-1), .ref 40]) (by decide +kernel) rfl rfl ?_
    refine ab_fin.q_yN (i := .invokevirtual 319) (k := 3) (y := 1828) (As := [.ref 40, .int (-1), .int l1]) (rest := []) (M' := (mX7_readArguments, [])) (lv2 := [(0, .ref 40), (1, .int (-1)), (2, .int l1)]) (pc' := 203) (X := K) (by decide +kernel) (ab_cv rfl rfl (conc_get (σ := σ) (F.s t0_40)) ⟨(Nat.le_of_ble_eq_true rfl), (Nat.le_of_ble_eq_true rfl)⟩ rfl) rfl (Nat.le_of_ble_eq_true rfl) rfl rfl (hY_no fun E => rfl) w (fun τ6 F7 w => ?_)
    refine ab_fin.s2 (i := .aload_n 0) (k := 1) (pc' := 204) (lv' := [(0, .ref 40), (1, .int l1), (8, .int l8)]) (st' := [.ref 40]) (by decide +kernel) rfl rfl ?_
    refine ab_fin.q_rA (b := 1) (ix := 18) (ci := 8) (k := 0) (pc' := 207) (by decide +kernel) rfl (c_rA (F7.s t0_40) rfl (rC_8_0 F7 t0_40)) rfl ?_
    refine ab_fin.q_rA (b := 24) (ix := 74) (ci := 12) (k := 2) (pc' := 210) (by decide +kernel) rfl (c_rA (F7.s t0_1) rfl (rC_12_2 F7 t0_1)) rfl ?_
    refine ab_fin.s1i (i := .bipush 22) (k := 2) (pc' := 212) (n := 22) (by decide +kernel) rfl (by decide +kernel) rfl ?_
    refine ab_fin.s2 (i := .iload 8) (k := 2) (pc' := 214) (lv' := [(0, .ref 40), (1, .int l1), (8, .int l8)]) (st' := [.int l8, .int 22, .ref 24]) (by decide +kernel) rfl rfl ?_
    refine ab_fin.q_yN (i := .invokevirtual 271) (k := 3) (y := 258) (As := [.ref 24, .int 22, .int l8]) (rest := []) (M' := (mX1_emit, [])) (lv2 := [(0, .ref 24), (1, .int 22), (2, .int l8)]) (pc' := 217) (X := K) (by decide +kernel) (ab_cv rfl rfl (conc_get (σ := τ6) (F7.s t0_24)) ⟨(Nat.le_of_ble_eq_true rfl), (Nat.le_of_ble_eq_true rfl)⟩ rfl) rfl (Nat.le_of_ble_eq_true rfl) rfl rfl (hY_no fun E => rfl) w (fun τ8 F9 w => ?_)
    exact ab_fin.q_ret (i := .return_) (k := 1) (v := none) (by decide +kernel) rfl F9 w
theorem T_X7_readNext_0 {Z : zT} {d : Nat} {σ : Sg} {l1 : Int32} {K : kS} (F : FX ΦC σ.sh σ.r) (w : (¬ (σ.i 40 7) = 0 → C_X7_readNext_16 Z (d + 1) σ l1 K) ∧ ((σ.i 40 7) = 0 → C_X7_breakRule_0 Z d σ 3 (σ.i 40 3) (yN K fun τ1 => C_X7_readNext_16 Z (d + 1) τ1 l1 K))) : C_X7_readNext_0 Z (d + 1) σ l1 K := by
  unfold C_X7_readNext_0
  refine ab_fin.s2 (i := .aload_n 0) (k := 1) (pc' := 1) (lv' := [(0, .ref 40), (1, .int l1)]) (st' := [.ref 40]) (by decide +kernel) rfl rfl ?_
  refine ab_fin.q_rI (x := (σ.i 40 7)) (ix := 83) (ci := 8) (k := 7) (pc' := 4) (by decide +kernel) rfl (c_rI (F.s t0_40) rfl) rfl ?_
  refine ab_fin.br (c := ¬ (σ.i 40 7) = 0) (i := .ifCond .ne 12) (off := 12) (t := 16) (pc' := 7) (r := []) (by decide +kernel) rfl (by decide +kernel) rfl (fun q => ?_) (fun q => ?_)
  · replace w := w.1 q
    exact ab_fin.lv ⟨(List.forall_mem_cons.mpr ⟨(List.Mem.head _), (List.forall_mem_cons.mpr ⟨(List.Mem.tail _ (List.Mem.head _)), (fun _ h => absurd h List.not_mem_nil)⟩)⟩), (show ([0, 1] : List Nat).Nodup from by decide)⟩ w
  · replace w := w.2 (Decidable.of_not_not q)
    refine ab_fin.s2 (i := .aload_n 0) (k := 1) (pc' := 8) (lv' := [(0, .ref 40), (1, .int l1)]) (st' := [.ref 40]) (by decide +kernel) rfl rfl ?_
    refine ab_fin.s1i (i := .iconst 3) (k := 1) (pc' := 9) (n := 3) (by decide +kernel) rfl (by decide +kernel) rfl ?_
    refine ab_fin.s2 (i := .aload_n 0) (k := 1) (pc' := 10) (lv' := [(0, .ref 40), (1, .int l1)]) (st' := [.ref 40, .int 3, .ref 40]) (by decide +kernel) rfl rfl ?_
    refine ab_fin.q_rI (x := (σ.i 40 3)) (ix := 97) (ci := 8) (k := 3) (pc' := 13) (by decide +kernel) rfl (c_rI (F.s t0_40) rfl) rfl ?_
    refine ab_fin.q_yN (i := .invokevirtual 126) (k := 3) (y := 1800) (As := [.ref 40, .int 3, .int (σ.i 40 3)]) (rest := []) (M' := (mX7_breakRule, [])) (lv2 := [(0, .ref 40), (1, .int 3), (2, .int (σ.i 40 3))]) (pc' := 16) (X := K) (by decide +kernel) (ab_cv rfl rfl (conc_get (σ := σ) (F.s t0_40)) ⟨(Nat.le_of_ble_eq_true rfl), (Nat.le_of_ble_eq_true rfl)⟩ rfl) rfl (Nat.le_of_ble_eq_true rfl) rfl rfl (hY_no fun E => rfl) w (fun τ1 F2 w => ?_)
    exact ab_fin.lv ⟨(List.forall_mem_cons.mpr ⟨(List.Mem.head _), (List.forall_mem_cons.mpr ⟨(List.Mem.tail _ (List.Mem.head _)), (fun _ h => absurd h List.not_mem_nil)⟩)⟩), (show ([0, 1] : List Nat).Nodup from by decide)⟩ w
theorem T_X7_readNext_16 {Z : zT} {d : Nat} {σ : Sg} {l1 : Int32} {K : kS} (F : FX ΦC σ.sh σ.r) (w : C_X7_addNode_0 Z d σ (σ.i 40 3) (σ.i 24 3) (yN K fun τ1 => C_X7_take_0 Z d τ1 52 (yN K fun τ3 => C_X7_sign_0 Z d τ3  (yI K fun v7 τ5 => (¬ v7 = 4 → C_X1_emit_0 Z d τ5 23 0 (yN K fun τ8 => K (.inl none) τ8)) ∧ (v7 = 4 → (0 ≤ (τ5.i 40 8) → ib (τ5.i 40 8) 24 ∧ (C_X7_readArguments_0 Z d τ5 (τ5.i 31 ((τ5.i 40 8).toNatClampNeg)) l1 (yN K fun τ11 => C_X1_emit_0 Z d τ11 24 0 (yN K fun τ13 => K (.inl none) τ13)))) ∧ (¬ 0 ≤ (τ5.i 40 8) → C_X7_readArguments_0 Z d τ5 (-1) l1 (yN K fun τ15 => C_X1_emit_0 Z d τ15 24 0 (yN K fun τ17 => K (.inl none) τ17)))))))) : C_X7_readNext_16 Z (d + 1) σ l1 K := by
  unfold C_X7_readNext_16
  refine ab_fin.s2 (i := .aload_n 0) (k := 1) (pc' := 17) (lv' := [(0, .ref 40), (1, .int l1)]) (st' := [.ref 40]) (by decide +kernel) rfl rfl ?_
  refine ab_fin.s2 (i := .aload_n 0) (k := 1) (pc' := 18) (lv' := [(0, .ref 40), (1, .int l1)]) (st' := [.ref 40, .ref 40]) (by decide +kernel) rfl rfl ?_
  refine ab_fin.q_rI (x := (σ.i 40 3)) (ix := 97) (ci := 8) (k := 3) (pc' := 21) (by decide +kernel) rfl (c_rI (F.s t0_40) rfl) rfl ?_
  refine ab_fin.s2 (i := .aload_n 0) (k := 1) (pc' := 22) (lv' := [(0, .ref 40), (1, .int l1)]) (st' := [.ref 40, .int (σ.i 40 3), .ref 40]) (by decide +kernel) rfl rfl ?_
  refine ab_fin.q_rA (b := 1) (ix := 18) (ci := 8) (k := 0) (pc' := 25) (by decide +kernel) rfl (c_rA (F.s t0_40) rfl (rC_8_0 F t0_40)) rfl ?_
  refine ab_fin.q_rA (b := 24) (ix := 74) (ci := 12) (k := 2) (pc' := 28) (by decide +kernel) rfl (c_rA (F.s t0_1) rfl (rC_12_2 F t0_1)) rfl ?_
  refine ab_fin.q_rI (x := (σ.i 24 3)) (ix := 78) (ci := 2) (k := 3) (pc' := 31) (by decide +kernel) rfl (c_rI (F.s t0_24) rfl) rfl ?_
  refine ab_fin.q_yN (i := .invokevirtual 289) (k := 3) (y := 1815) (As := [.ref 40, .int (σ.i 40 3), .int (σ.i 24 3)]) (rest := []) (M' := (mX7_addNode, [])) (lv2 := [(0, .ref 40), (1, .int (σ.i 40 3)), (2, .int (σ.i 24 3))]) (pc' := 34) (X := K) (by decide +kernel) (ab_cv rfl rfl (conc_get (σ := σ) (F.s t0_40)) ⟨(Nat.le_of_ble_eq_true rfl), (Nat.le_of_ble_eq_true rfl)⟩ rfl) rfl (Nat.le_of_ble_eq_true rfl) rfl rfl (hY_no fun E => rfl) w (fun τ1 F2 w => ?_)
  refine ab_fin.s2 (i := .aload_n 0) (k := 1) (pc' := 35) (lv' := [(0, .ref 40), (1, .int l1)]) (st' := [.ref 40]) (by decide +kernel) rfl rfl ?_
  refine ab_fin.s1i (i := .bipush 52) (k := 2) (pc' := 37) (n := 52) (by decide +kernel) rfl (by decide +kernel) rfl ?_
  refine ab_fin.q_yN (i := .invokevirtual 57) (k := 3) (y := 1799) (As := [.ref 40, .int 52]) (rest := []) (M' := (mX7_take, [])) (lv2 := [(0, .ref 40), (1, .int 52)]) (pc' := 40) (X := K) (by decide +kernel) (ab_cv rfl rfl (conc_get (σ := τ1) (F2.s t0_40)) ⟨(Nat.le_of_ble_eq_true rfl), (Nat.le_of_ble_eq_true rfl)⟩ rfl) rfl (Nat.le_of_ble_eq_true rfl) rfl rfl (hY_no fun E => rfl) w (fun τ3 F4 w => ?_)
  refine ab_fin.s2 (i := .aload_n 0) (k := 1) (pc' := 41) (lv' := [(0, .ref 40), (1, .int l1)]) (st' := [.ref 40]) (by decide +kernel) rfl rfl ?_
  refine ab_fin.q_yI (i := .invokevirtual 41) (k := 3) (y := 1798) (As := [.ref 40]) (rest := []) (M' := (mX7_sign, [])) (lv2 := [(0, .ref 40)]) (pc' := 44) (X := K) (by decide +kernel) (ab_cv rfl rfl (conc_get (σ := τ3) (F4.s t0_40)) ⟨(Nat.le_of_ble_eq_true rfl), (Nat.le_of_ble_eq_true rfl)⟩ rfl) rfl (Nat.le_of_ble_eq_true rfl) rfl rfl (hY_no fun E => rfl) w (fun v7 τ5 F6 w => ?_)
  refine ab_fin.s1i (i := .iconst 4) (k := 1) (pc' := 45) (n := 4) (by decide +kernel) rfl (by decide +kernel) rfl ?_
  refine ab_fin.br (c := ¬ v7 = 4) (i := .if_icmp .ne 47) (off := 47) (t := 92) (pc' := 48) (r := []) (by decide +kernel) rfl (by decide +kernel) rfl (fun q => ?_) (fun q => ?_)
  · replace w := w.1 q
    refine ab_fin.s2 (i := .aload_n 0) (k := 1) (pc' := 93) (lv' := [(0, .ref 40), (1, .int l1)]) (st' := [.ref 40]) (by decide +kernel) rfl rfl ?_
    refine ab_fin.q_rA (b := 1) (ix := 18) (ci := 8) (k := 0) (pc' := 96) (by decide +kernel) rfl (c_rA (F6.s t0_40) rfl (rC_8_0 F6 t0_40)) rfl ?_
    refine ab_fin.q_rA (b := 24) (ix := 74) (ci := 12) (k := 2) (pc' := 99) (by decide +kernel) rfl (c_rA (F6.s t0_1) rfl (rC_12_2 F6 t0_1)) rfl ?_
    refine ab_fin.s1i (i := .bipush 23) (k := 2) (pc' := 101) (n := 23) (by decide +kernel) rfl (by decide +kernel) rfl ?_
    refine ab_fin.s1i (i := .iconst 0) (k := 1) (pc' := 102) (n := 0) (by decide +kernel) rfl (by decide +kernel) rfl ?_
    refine ab_fin.q_yN (i := .invokevirtual 271) (k := 3) (y := 258) (As := [.ref 24, .int 23, .int 0]) (rest := []) (M' := (mX1_emit, [])) (lv2 := [(0, .ref 24), (1, .int 23), (2, .int 0)]) (pc' := 105) (X := K) (by decide +kernel) (ab_cv rfl rfl (conc_get (σ := τ5) (F6.s t0_24)) ⟨(Nat.le_of_ble_eq_true rfl), (Nat.le_of_ble_eq_true rfl)⟩ rfl) rfl (Nat.le_of_ble_eq_true rfl) rfl rfl (hY_no fun E => rfl) w (fun τ8 F9 w => ?_)
    exact ab_fin.q_ret (i := .return_) (k := 1) (v := none) (by decide +kernel) rfl F9 w
  · replace w := w.2 (Decidable.of_not_not q)
    refine ab_fin.s2 (i := .aload_n 0) (k := 1) (pc' := 49) (lv' := [(0, .ref 40), (1, .int l1)]) (st' := [.ref 40]) (by decide +kernel) rfl rfl ?_
    refine ab_fin.s2 (i := .aload_n 0) (k := 1) (pc' := 50) (lv' := [(0, .ref 40), (1, .int l1)]) (st' := [.ref 40, .ref 40]) (by decide +kernel) rfl rfl ?_
    refine ab_fin.q_rI (x := (τ5.i 40 8)) (ix := 87) (ci := 8) (k := 8) (pc' := 53) (by decide +kernel) rfl (c_rI (F6.s t0_40) rfl) rfl ?_
    refine ab_fin.br (c := 0 ≤ (τ5.i 40 8)) (i := .ifCond .ge 7) (off := 7) (t := 60) (pc' := 56) (r := [.ref 40]) (by decide +kernel) rfl (by decide +kernel) rfl (fun q => ?_) (fun q => ?_)
    · replace w := w.1 q
      refine ab_fin.s2 (i := .aload_n 0) (k := 1) (pc' := 61) (lv' := [(0, .ref 40), (1, .int l1)]) (st' := [.ref 40, .ref 40]) (by decide +kernel) rfl rfl ?_
      refine ab_fin.q_rA (b := 1) (ix := 18) (ci := 8) (k := 0) (pc' := 64) (by decide +kernel) rfl (c_rA (F6.s t0_40) rfl (rC_8_0 F6 t0_40)) rfl ?_
      refine ab_fin.q_rA (b := 31) (ix := 170) (ci := 12) (k := 6) (pc' := 67) (by decide +kernel) rfl (c_rA (F6.s t0_1) rfl (rC_12_6 F6 t0_1)) rfl ?_
      refine ab_fin.s2 (i := .aload_n 0) (k := 1) (pc' := 68) (lv' := [(0, .ref 40), (1, .int l1)]) (st' := [.ref 40, .ref 31, .ref 40]) (by decide +kernel) rfl rfl ?_
      refine ab_fin.q_rI (x := (τ5.i 40 8)) (ix := 87) (ci := 8) (k := 8) (pc' := 71) (by decide +kernel) rfl (c_rI (F6.s t0_40) rfl) rfl ?_
      obtain ⟨e10, w⟩ := w
      refine ab_fin.q_eI (x := (τ5.i 31 ((τ5.i 40 8).toNatClampNeg))) (pc' := 72) (by decide +kernel) (c_eI' (F6.s t0_31) e10 rfl) rfl ?_
      refine ab_fin.s2 (i := .iload_n 1) (k := 1) (pc' := 73) (lv' := [(0, .ref 40), (1, .int l1)]) (st' := [.int l1, .int (τ5.i 31 ((τ5.i 40 8).toNatClampNeg)), .ref 40]) (by decide +kernel) rfl rfl ?_
      refine ab_fin.q_yN (i := .invokevirtual 319) (k := 3) (y := 1828) (As := [.ref 40, .int (τ5.i 31 ((τ5.i 40 8).toNatClampNeg)), .int l1]) (rest := []) (M' := (mX7_readArguments, [])) (lv2 := [(0, .ref 40), (1, .int (τ5.i 31 ((τ5.i 40 8).toNatClampNeg))), (2, .int l1)]) (pc' := 76) (X := K) (by decide +kernel) (ab_cv rfl rfl (conc_get (σ := τ5) (F6.s t0_40)) ⟨(Nat.le_of_ble_eq_true rfl), (Nat.le_of_ble_eq_true rfl)⟩ rfl) rfl (Nat.le_of_ble_eq_true rfl) rfl rfl (hY_no fun E => rfl) w (fun τ11 F12 w => ?_)
      refine ab_fin.s2 (i := .aload_n 0) (k := 1) (pc' := 77) (lv' := [(0, .ref 40), (1, .int l1)]) (st' := [.ref 40]) (by decide +kernel) rfl rfl ?_
      refine ab_fin.q_rA (b := 1) (ix := 18) (ci := 8) (k := 0) (pc' := 80) (by decide +kernel) rfl (c_rA (F12.s t0_40) rfl (rC_8_0 F12 t0_40)) rfl ?_
      refine ab_fin.q_rA (b := 24) (ix := 74) (ci := 12) (k := 2) (pc' := 83) (by decide +kernel) rfl (c_rA (F12.s t0_1) rfl (rC_12_2 F12 t0_1)) rfl ?_
      refine ab_fin.s1i (i := .bipush 24) (k := 2) (pc' := 85) (n := 24) (by decide +kernel) rfl (by decide +kernel) rfl ?_
      refine ab_fin.s1i (i := .iconst 0) (k := 1) (pc' := 86) (n := 0) (by decide +kernel) rfl (by decide +kernel) rfl ?_
      refine ab_fin.q_yN (i := .invokevirtual 271) (k := 3) (y := 258) (As := [.ref 24, .int 24, .int 0]) (rest := []) (M' := (mX1_emit, [])) (lv2 := [(0, .ref 24), (1, .int 24), (2, .int 0)]) (pc' := 89) (X := K) (by decide +kernel) (ab_cv rfl rfl (conc_get (σ := τ11) (F12.s t0_24)) ⟨(Nat.le_of_ble_eq_true rfl), (Nat.le_of_ble_eq_true rfl)⟩ rfl) rfl (Nat.le_of_ble_eq_true rfl) rfl rfl (hY_no fun E => rfl) w (fun τ13 F14 w => ?_)
      refine ab_fin.s3 (i := .goto 16) (k := 3) (t := 105) (st' := []) (by decide +kernel) (ab_gto (by decide +kernel)) ?_
      exact ab_fin.q_ret (i := .return_) (k := 1) (v := none) (by decide +kernel) rfl F14 w
    · replace w := w.2 q
      refine ab_fin.s1i (i := .iconst (-1)) (k := 1) (pc' := 57) (n := (-1)) (by decide +kernel) rfl (by decide +kernel) rfl ?_
      refine ab_fin.s3 (i := .goto 15) (k := 3) (t := 72) (st' := [.int (-1), .ref 40]) (by decide +kernel) (ab_gto (by decide +kernel)) ?_
      refine ab_fin.s2 (i := .iload_n 1) (k := 1) (pc' := 73) (lv' := [(0, .ref 40), (1, .int l1)]) (st' := [.int l1, .int (-1), .ref 40]) (by decide +kernel) rfl rfl ?_
      refine ab_fin.q_yN (i := .invokevirtual 319) (k := 3) (y := 1828) (As := [.ref 40, .int (-1), .int l1]) (rest := []) (M' := (mX7_readArguments, [])) (lv2 := [(0, .ref 40), (1, .int (-1)), (2, .int l1)]) (pc' := 76) (X := K) (by decide +kernel) (ab_cv rfl rfl (conc_get (σ := τ5) (F6.s t0_40)) ⟨(Nat.le_of_ble_eq_true rfl), (Nat.le_of_ble_eq_true rfl)⟩ rfl) rfl (Nat.le_of_ble_eq_true rfl) rfl rfl (hY_no fun E => rfl) w (fun τ15 F16 w => ?_)
      refine ab_fin.s2 (i := .aload_n 0) (k := 1) (pc' := 77) (lv' := [(0, .ref 40), (1, .int l1)]) (st' := [.ref 40]) (by decide +kernel) rfl rfl ?_
      refine ab_fin.q_rA (b := 1) (ix := 18) (ci := 8) (k := 0) (pc' := 80) (by decide +kernel) rfl (c_rA (F16.s t0_40) rfl (rC_8_0 F16 t0_40)) rfl ?_
      refine ab_fin.q_rA (b := 24) (ix := 74) (ci := 12) (k := 2) (pc' := 83) (by decide +kernel) rfl (c_rA (F16.s t0_1) rfl (rC_12_2 F16 t0_1)) rfl ?_
      refine ab_fin.s1i (i := .bipush 24) (k := 2) (pc' := 85) (n := 24) (by decide +kernel) rfl (by decide +kernel) rfl ?_
      refine ab_fin.s1i (i := .iconst 0) (k := 1) (pc' := 86) (n := 0) (by decide +kernel) rfl (by decide +kernel) rfl ?_
      refine ab_fin.q_yN (i := .invokevirtual 271) (k := 3) (y := 258) (As := [.ref 24, .int 24, .int 0]) (rest := []) (M' := (mX1_emit, [])) (lv2 := [(0, .ref 24), (1, .int 24), (2, .int 0)]) (pc' := 89) (X := K) (by decide +kernel) (ab_cv rfl rfl (conc_get (σ := τ15) (F16.s t0_24)) ⟨(Nat.le_of_ble_eq_true rfl), (Nat.le_of_ble_eq_true rfl)⟩ rfl) rfl (Nat.le_of_ble_eq_true rfl) rfl rfl (hY_no fun E => rfl) w (fun τ17 F18 w => ?_)
      refine ab_fin.s3 (i := .goto 16) (k := 3) (t := 105) (st' := []) (by decide +kernel) (ab_gto (by decide +kernel)) ?_
      exact ab_fin.q_ret (i := .return_) (k := 1) (v := none) (by decide +kernel) rfl F18 w
theorem T_X7_readArguments_0 {Z : zT} {d : Nat} {σ : Sg} {l1 : Int32} {l2 : Int32} {K : kS} (F : FX ΦC σ.sh σ.r) (w : C_X7_take_0 Z d σ 4 (yN K fun τ1 => C_X7_readArguments_13 Z (d + 1) τ1 l1 l2 1 0 0 K)) : C_X7_readArguments_0 Z (d + 1) σ l1 l2 K := by
  unfold C_X7_readArguments_0
  refine ab_fin.s2 (i := .aload_n 0) (k := 1) (pc' := 1) (lv' := [(0, .ref 40), (1, .int l1), (2, .int l2)]) (st' := [.ref 40]) (by decide +kernel) rfl rfl ?_
  refine ab_fin.s1i (i := .iconst 4) (k := 1) (pc' := 2) (n := 4) (by decide +kernel) rfl (by decide +kernel) rfl ?_
  refine ab_fin.q_yN (i := .invokevirtual 57) (k := 3) (y := 1799) (As := [.ref 40, .int 4]) (rest := []) (M' := (mX7_take, [])) (lv2 := [(0, .ref 40), (1, .int 4)]) (pc' := 5) (X := K) (by decide +kernel) (ab_cv rfl rfl (conc_get (σ := σ) (F.s t0_40)) ⟨(Nat.le_of_ble_eq_true rfl), (Nat.le_of_ble_eq_true rfl)⟩ rfl) rfl (Nat.le_of_ble_eq_true rfl) rfl rfl (hY_no fun E => rfl) w (fun τ1 F2 w => ?_)
  refine ab_fin.s1i (i := .iconst 1) (k := 1) (pc' := 6) (n := 1) (by decide +kernel) rfl (by decide +kernel) rfl ?_
  refine ab_fin.s2 (i := .istore_n 3) (k := 1) (pc' := 7) (lv' := [(3, .int 1), (0, .ref 40), (1, .int l1), (2, .int l2)]) (st' := []) (by decide +kernel) rfl rfl ?_
  refine ab_fin.s1i (i := .iconst 0) (k := 1) (pc' := 8) (n := 0) (by decide +kernel) rfl (by decide +kernel) rfl ?_
  refine ab_fin.s2 (i := .istore 4) (k := 2) (pc' := 10) (lv' := [(4, .int 0), (3, .int 1), (0, .ref 40), (1, .int l1), (2, .int l2)]) (st' := []) (by decide +kernel) rfl rfl ?_
  refine ab_fin.s1i (i := .iconst 0) (k := 1) (pc' := 11) (n := 0) (by decide +kernel) rfl (by decide +kernel) rfl ?_
  refine ab_fin.s2 (i := .istore 5) (k := 2) (pc' := 13) (lv' := [(5, .int 0), (4, .int 0), (3, .int 1), (0, .ref 40), (1, .int l1), (2, .int l2)]) (st' := []) (by decide +kernel) rfl rfl ?_
  exact ab_fin.lv ⟨(List.forall_mem_cons.mpr ⟨(List.Mem.tail _ (List.Mem.tail _ (List.Mem.tail _ (List.Mem.head _)))), (List.forall_mem_cons.mpr ⟨(List.Mem.tail _ (List.Mem.tail _ (List.Mem.tail _ (List.Mem.tail _ (List.Mem.head _))))), (List.forall_mem_cons.mpr ⟨(List.Mem.tail _ (List.Mem.tail _ (List.Mem.tail _ (List.Mem.tail _ (List.Mem.tail _ (List.Mem.head _)))))), (List.forall_mem_cons.mpr ⟨(List.Mem.tail _ (List.Mem.tail _ (List.Mem.head _))), (List.forall_mem_cons.mpr ⟨(List.Mem.tail _ (List.Mem.head _)), (List.forall_mem_cons.mpr ⟨(List.Mem.head _), (fun _ h => absurd h List.not_mem_nil)⟩)⟩)⟩)⟩)⟩)⟩), (show ([5, 4, 3, 0, 1, 2] : List Nat).Nodup from by decide)⟩ w
theorem T_X7_readArguments_13 {Z : zT} {d : Nat} {σ : Sg} {l1 : Int32} {l2 : Int32} {l3 : Int32} {l4 : Int32} {l5 : Int32} {K : kS} (F : FX ΦC σ.sh σ.r) (w : ((σ.i 41 4) ≤ l5 → C_X7_readArguments_85 Z (d + 1) σ l1 l4 K) ∧ (¬ (σ.i 41 4) ≤ l5 → (l3 = 0 → C_X7_readArguments_85 Z (d + 1) σ l1 l4 K) ∧ (¬ l3 = 0 → (¬ l4 = l1 → C_X7_readArguments_44 Z (d + 1) σ l1 l2 l4 l5 K) ∧ (l4 = l1 → C_X7_breakRule_0 Z d σ 4 (σ.i 40 3) (yN K fun τ1 => C_X7_readArguments_44 Z (d + 1) τ1 l1 l2 l4 l5 K))))) : C_X7_readArguments_13 Z (d + 1) σ l1 l2 l3 l4 l5 K := by
  unfold C_X7_readArguments_13
  refine ab_fin.s2 (i := .iload 5) (k := 2) (pc' := 15) (lv' := [(0, .ref 40), (1, .int l1), (2, .int l2), (3, .int l3), (4, .int l4), (5, .int l5)]) (st' := [.int l5]) (by decide +kernel) rfl rfl ?_
  refine ab_fin.s2 (i := .aload_n 0) (k := 1) (pc' := 16) (lv' := [(0, .ref 40), (1, .int l1), (2, .int l2), (3, .int l3), (4, .int l4), (5, .int l5)]) (st' := [.ref 40, .int l5]) (by decide +kernel) rfl rfl ?_
  refine ab_fin.q_rA (b := 41) (ix := 12) (ci := 8) (k := 1) (pc' := 19) (by decide +kernel) rfl (c_rA (F.s t0_40) rfl (rC_8_1 F t0_40)) rfl ?_
  refine ab_fin.q_rI (x := (σ.i 41 4)) (ix := 34) (ci := 9) (k := 4) (pc' := 22) (by decide +kernel) rfl (c_rI (F.s t0_41) rfl) rfl ?_
  refine ab_fin.br (c := (σ.i 41 4) ≤ l5) (i := .if_icmp .ge 63) (off := 63) (t := 85) (pc' := 25) (r := []) (by decide +kernel) rfl (by decide +kernel) rfl (fun q => ?_) (fun q => ?_)
  · replace w := w.1 q
    exact ab_fin.lv ⟨(List.forall_mem_cons.mpr ⟨(List.Mem.head _), (List.forall_mem_cons.mpr ⟨(List.Mem.tail _ (List.Mem.head _)), (List.forall_mem_cons.mpr ⟨(List.Mem.tail _ (List.Mem.tail _ (List.Mem.tail _ (List.Mem.tail _ (List.Mem.head _))))), (fun _ h => absurd h List.not_mem_nil)⟩)⟩)⟩), (show ([0, 1, 2, 3, 4, 5] : List Nat).Nodup from by decide)⟩ w
  · replace w := w.2 q
    refine ab_fin.s2 (i := .iload_n 3) (k := 1) (pc' := 26) (lv' := [(0, .ref 40), (1, .int l1), (2, .int l2), (3, .int l3), (4, .int l4), (5, .int l5)]) (st' := [.int l3]) (by decide +kernel) rfl rfl ?_
    refine ab_fin.br (c := l3 = 0) (i := .ifCond .eq 59) (off := 59) (t := 85) (pc' := 29) (r := []) (by decide +kernel) rfl (by decide +kernel) rfl (fun q => ?_) (fun q => ?_)
    · replace w := w.1 q
      exact ab_fin.lv ⟨(List.forall_mem_cons.mpr ⟨(List.Mem.head _), (List.forall_mem_cons.mpr ⟨(List.Mem.tail _ (List.Mem.head _)), (List.forall_mem_cons.mpr ⟨(List.Mem.tail _ (List.Mem.tail _ (List.Mem.tail _ (List.Mem.tail _ (List.Mem.head _))))), (fun _ h => absurd h List.not_mem_nil)⟩)⟩)⟩), (show ([0, 1, 2, 3, 4, 5] : List Nat).Nodup from by decide)⟩ w
    · replace w := w.2 q
      refine ab_fin.s2 (i := .iload 4) (k := 2) (pc' := 31) (lv' := [(0, .ref 40), (1, .int l1), (2, .int l2), (3, .int l3), (4, .int l4), (5, .int l5)]) (st' := [.int l4]) (by decide +kernel) rfl rfl ?_
      refine ab_fin.s2 (i := .iload_n 1) (k := 1) (pc' := 32) (lv' := [(0, .ref 40), (1, .int l1), (2, .int l2), (3, .int l3), (4, .int l4), (5, .int l5)]) (st' := [.int l1, .int l4]) (by decide +kernel) rfl rfl ?_
      refine ab_fin.br (c := ¬ l4 = l1) (i := .if_icmp .ne 12) (off := 12) (t := 44) (pc' := 35) (r := []) (by decide +kernel) rfl (by decide +kernel) rfl (fun q => ?_) (fun q => ?_)
      · replace w := w.1 q
        exact ab_fin.lv ⟨(List.forall_mem_cons.mpr ⟨(List.Mem.head _), (List.forall_mem_cons.mpr ⟨(List.Mem.tail _ (List.Mem.head _)), (List.forall_mem_cons.mpr ⟨(List.Mem.tail _ (List.Mem.tail _ (List.Mem.head _))), (List.forall_mem_cons.mpr ⟨(List.Mem.tail _ (List.Mem.tail _ (List.Mem.tail _ (List.Mem.tail _ (List.Mem.head _))))), (List.forall_mem_cons.mpr ⟨(List.Mem.tail _ (List.Mem.tail _ (List.Mem.tail _ (List.Mem.tail _ (List.Mem.tail _ (List.Mem.head _)))))), (fun _ h => absurd h List.not_mem_nil)⟩)⟩)⟩)⟩)⟩), (show ([0, 1, 2, 3, 4, 5] : List Nat).Nodup from by decide)⟩ w
      · replace w := w.2 (Decidable.of_not_not q)
        refine ab_fin.s2 (i := .aload_n 0) (k := 1) (pc' := 36) (lv' := [(0, .ref 40), (1, .int l1), (2, .int l2), (3, .int l3), (4, .int l4), (5, .int l5)]) (st' := [.ref 40]) (by decide +kernel) rfl rfl ?_
        refine ab_fin.s1i (i := .iconst 4) (k := 1) (pc' := 37) (n := 4) (by decide +kernel) rfl (by decide +kernel) rfl ?_
        refine ab_fin.s2 (i := .aload_n 0) (k := 1) (pc' := 38) (lv' := [(0, .ref 40), (1, .int l1), (2, .int l2), (3, .int l3), (4, .int l4), (5, .int l5)]) (st' := [.ref 40, .int 4, .ref 40]) (by decide +kernel) rfl rfl ?_
        refine ab_fin.q_rI (x := (σ.i 40 3)) (ix := 97) (ci := 8) (k := 3) (pc' := 41) (by decide +kernel) rfl (c_rI (F.s t0_40) rfl) rfl ?_
        refine ab_fin.q_yN (i := .invokevirtual 126) (k := 3) (y := 1800) (As := [.ref 40, .int 4, .int (σ.i 40 3)]) (rest := []) (M' := (mX7_breakRule, [])) (lv2 := [(0, .ref 40), (1, .int 4), (2, .int (σ.i 40 3))]) (pc' := 44) (X := K) (by decide +kernel) (ab_cv rfl rfl (conc_get (σ := σ) (F.s t0_40)) ⟨(Nat.le_of_ble_eq_true rfl), (Nat.le_of_ble_eq_true rfl)⟩ rfl) rfl (Nat.le_of_ble_eq_true rfl) rfl rfl (hY_no fun E => rfl) w (fun τ1 F2 w => ?_)
        exact ab_fin.lv ⟨(List.forall_mem_cons.mpr ⟨(List.Mem.head _), (List.forall_mem_cons.mpr ⟨(List.Mem.tail _ (List.Mem.head _)), (List.forall_mem_cons.mpr ⟨(List.Mem.tail _ (List.Mem.tail _ (List.Mem.head _))), (List.forall_mem_cons.mpr ⟨(List.Mem.tail _ (List.Mem.tail _ (List.Mem.tail _ (List.Mem.tail _ (List.Mem.head _))))), (List.forall_mem_cons.mpr ⟨(List.Mem.tail _ (List.Mem.tail _ (List.Mem.tail _ (List.Mem.tail _ (List.Mem.tail _ (List.Mem.head _)))))), (fun _ h => absurd h List.not_mem_nil)⟩)⟩)⟩)⟩)⟩), (show ([0, 1, 2, 3, 4, 5] : List Nat).Nodup from by decide)⟩ w
theorem T_X7_readArguments_44 {Z : zT} {d : Nat} {σ : Sg} {l1 : Int32} {l2 : Int32} {l4 : Int32} {l5 : Int32} {K : kS} (F : FX ΦC σ.sh σ.r) (w : C_X7_readE_0 Z d σ (l2 + (1 : Int32)) (yN K fun τ1 => C_X7_sign_0 Z d τ1  (yI K fun v5 τ3 => (¬ v5 = 6 → ((0 : Int32) = 0 → C_X7_readArguments_13 Z (d + 1) τ3 l1 l2 0 (l4 + 1) (l5 + 1) K) ∧ (¬ (0 : Int32) = 0 → C_X7_take_0 Z d τ3 6 (yN K fun τ6 => C_X7_readArguments_13 Z (d + 1) τ6 l1 l2 0 (l4 + 1) (l5 + 1) K))) ∧ (v5 = 6 → ((1 : Int32) = 0 → C_X7_readArguments_13 Z (d + 1) τ3 l1 l2 1 (l4 + 1) (l5 + 1) K) ∧ (¬ (1 : Int32) = 0 → C_X7_take_0 Z d τ3 6 (yN K fun τ8 => C_X7_readArguments_13 Z (d + 1) τ8 l1 l2 1 (l4 + 1) (l5 + 1) K)))))) : C_X7_readArguments_44 Z (d + 1) σ l1 l2 l4 l5 K := by
  unfold C_X7_readArguments_44
  refine ab_fin.s2 (i := .aload_n 0) (k := 1) (pc' := 45) (lv' := [(0, .ref 40), (1, .int l1), (2, .int l2), (4, .int l4), (5, .int l5)]) (st' := [.ref 40]) (by decide +kernel) rfl rfl ?_
  refine ab_fin.s2 (i := .iload_n 2) (k := 1) (pc' := 46) (lv' := [(0, .ref 40), (1, .int l1), (2, .int l2), (4, .int l4), (5, .int l5)]) (st' := [.int l2, .ref 40]) (by decide +kernel) rfl rfl ?_
  refine ab_fin.s1i (i := .iconst 1) (k := 1) (pc' := 47) (n := 1) (by decide +kernel) rfl (by decide +kernel) rfl ?_
  refine ab_fin.s1 (i := .iadd) (k := 1) (pc' := 48) (st' := [.int (l2 + (1 : Int32)), .ref 40]) (by decide +kernel) rfl rfl ?_
  refine ab_fin.q_yN (i := .invokevirtual 268) (k := 3) (y := 1816) (As := [.ref 40, .int (l2 + (1 : Int32))]) (rest := []) (M' := (mX7_readE, [])) (lv2 := [(0, .ref 40), (1, .int (l2 + (1 : Int32)))]) (pc' := 51) (X := K) (by decide +kernel) (ab_cv rfl rfl (conc_get (σ := σ) (F.s t0_40)) ⟨(Nat.le_of_ble_eq_true rfl), (Nat.le_of_ble_eq_true rfl)⟩ rfl) rfl (Nat.le_of_ble_eq_true rfl) rfl rfl (hY_no fun E => rfl) w (fun τ1 F2 w => ?_)
  refine ab_fin.q_inc (n := 4) (c := 1) (pc' := 54) (lv' := [(4, .int (l4 + 1)), (0, .ref 40), (1, .int l1), (2, .int l2), (5, .int l5)]) (by decide +kernel) (by decide) rfl rfl rfl rfl ?_
  refine ab_fin.s2 (i := .aload_n 0) (k := 1) (pc' := 55) (lv' := [(4, .int (l4 + 1)), (0, .ref 40), (1, .int l1), (2, .int l2), (5, .int l5)]) (st' := [.ref 40]) (by decide +kernel) rfl rfl ?_
  refine ab_fin.q_yI (i := .invokevirtual 41) (k := 3) (y := 1798) (As := [.ref 40]) (rest := []) (M' := (mX7_sign, [])) (lv2 := [(0, .ref 40)]) (pc' := 58) (X := K) (by decide +kernel) (ab_cv rfl rfl (conc_get (σ := τ1) (F2.s t0_40)) ⟨(Nat.le_of_ble_eq_true rfl), (Nat.le_of_ble_eq_true rfl)⟩ rfl) rfl (Nat.le_of_ble_eq_true rfl) rfl rfl (hY_no fun E => rfl) w (fun v5 τ3 F4 w => ?_)
  refine ab_fin.s1i (i := .bipush 6) (k := 2) (pc' := 60) (n := 6) (by decide +kernel) rfl (by decide +kernel) rfl ?_
  refine ab_fin.br (c := ¬ v5 = 6) (i := .if_icmp .ne 7) (off := 7) (t := 67) (pc' := 63) (r := []) (by decide +kernel) rfl (by decide +kernel) rfl (fun q => ?_) (fun q => ?_)
  · replace w := w.1 q
    refine ab_fin.s1i (i := .iconst 0) (k := 1) (pc' := 68) (n := 0) (by decide +kernel) rfl (by decide +kernel) rfl ?_
    refine ab_fin.s2 (i := .istore_n 3) (k := 1) (pc' := 69) (lv' := [(3, .int 0), (4, .int (l4 + 1)), (0, .ref 40), (1, .int l1), (2, .int l2), (5, .int l5)]) (st' := []) (by decide +kernel) rfl rfl ?_
    refine ab_fin.s2 (i := .iload_n 3) (k := 1) (pc' := 70) (lv' := [(3, .int 0), (4, .int (l4 + 1)), (0, .ref 40), (1, .int l1), (2, .int l2), (5, .int l5)]) (st' := [.int 0]) (by decide +kernel) rfl rfl ?_
    refine ab_fin.br (c := (0 : Int32) = 0) (i := .ifCond .eq 9) (off := 9) (t := 79) (pc' := 73) (r := []) (by decide +kernel) rfl (by decide +kernel) rfl (fun q => ?_) (fun q => ?_)
    · replace w := w.1 q
      refine ab_fin.q_inc (n := 5) (c := 1) (pc' := 82) (lv' := [(5, .int (l5 + 1)), (3, .int 0), (4, .int (l4 + 1)), (0, .ref 40), (1, .int l1), (2, .int l2)]) (by decide +kernel) (by decide) rfl rfl rfl rfl ?_
      refine ab_fin.s3 (i := .goto (-69)) (k := 3) (t := 13) (st' := []) (by decide +kernel) (ab_gto (by decide +kernel)) ?_
      exact ab_fin.lv ⟨(List.forall_mem_cons.mpr ⟨(List.Mem.tail _ (List.Mem.tail _ (List.Mem.tail _ (List.Mem.head _)))), (List.forall_mem_cons.mpr ⟨(List.Mem.tail _ (List.Mem.tail _ (List.Mem.tail _ (List.Mem.tail _ (List.Mem.head _))))), (List.forall_mem_cons.mpr ⟨(List.Mem.tail _ (List.Mem.tail _ (List.Mem.tail _ (List.Mem.tail _ (List.Mem.tail _ (List.Mem.head _)))))), (List.forall_mem_cons.mpr ⟨(List.Mem.tail _ (List.Mem.head _)), (List.forall_mem_cons.mpr ⟨(List.Mem.tail _ (List.Mem.tail _ (List.Mem.head _))), (List.forall_mem_cons.mpr ⟨(List.Mem.head _), (fun _ h => absurd h List.not_mem_nil)⟩)⟩)⟩)⟩)⟩)⟩), (show ([5, 3, 4, 0, 1, 2] : List Nat).Nodup from by decide)⟩ w
    · replace w := w.2 q
      refine ab_fin.s2 (i := .aload_n 0) (k := 1) (pc' := 74) (lv' := [(3, .int 0), (4, .int (l4 + 1)), (0, .ref 40), (1, .int l1), (2, .int l2), (5, .int l5)]) (st' := [.ref 40]) (by decide +kernel) rfl rfl ?_
      refine ab_fin.s1i (i := .bipush 6) (k := 2) (pc' := 76) (n := 6) (by decide +kernel) rfl (by decide +kernel) rfl ?_
      refine ab_fin.q_yN (i := .invokevirtual 57) (k := 3) (y := 1799) (As := [.ref 40, .int 6]) (rest := []) (M' := (mX7_take, [])) (lv2 := [(0, .ref 40), (1, .int 6)]) (pc' := 79) (X := K) (by decide +kernel) (ab_cv rfl rfl (conc_get (σ := τ3) (F4.s t0_40)) ⟨(Nat.le_of_ble_eq_true rfl), (Nat.le_of_ble_eq_true rfl)⟩ rfl) rfl (Nat.le_of_ble_eq_true rfl) rfl rfl (hY_no fun E => rfl) w (fun τ6 F7 w => ?_)
      refine ab_fin.q_inc (n := 5) (c := 1) (pc' := 82) (lv' := [(5, .int (l5 + 1)), (3, .int 0), (4, .int (l4 + 1)), (0, .ref 40), (1, .int l1), (2, .int l2)]) (by decide +kernel) (by decide) rfl rfl rfl rfl ?_
      refine ab_fin.s3 (i := .goto (-69)) (k := 3) (t := 13) (st' := []) (by decide +kernel) (ab_gto (by decide +kernel)) ?_
      exact ab_fin.lv ⟨(List.forall_mem_cons.mpr ⟨(List.Mem.tail _ (List.Mem.tail _ (List.Mem.tail _ (List.Mem.head _)))), (List.forall_mem_cons.mpr ⟨(List.Mem.tail _ (List.Mem.tail _ (List.Mem.tail _ (List.Mem.tail _ (List.Mem.head _))))), (List.forall_mem_cons.mpr ⟨(List.Mem.tail _ (List.Mem.tail _ (List.Mem.tail _ (List.Mem.tail _ (List.Mem.tail _ (List.Mem.head _)))))), (List.forall_mem_cons.mpr ⟨(List.Mem.tail _ (List.Mem.head _)), (List.forall_mem_cons.mpr ⟨(List.Mem.tail _ (List.Mem.tail _ (List.Mem.head _))), (List.forall_mem_cons.mpr ⟨(List.Mem.head _), (fun _ h => absurd h List.not_mem_nil)⟩)⟩)⟩)⟩)⟩)⟩), (show ([5, 3, 4, 0, 1, 2] : List Nat).Nodup from by decide)⟩ w
  · replace w := w.2 (Decidable.of_not_not q)
    refine ab_fin.s1i (i := .iconst 1) (k := 1) (pc' := 64) (n := 1) (by decide +kernel) rfl (by decide +kernel) rfl ?_
    refine ab_fin.s3 (i := .goto 4) (k := 3) (t := 68) (st' := [.int 1]) (by decide +kernel) (ab_gto (by decide +kernel)) ?_
    refine ab_fin.s2 (i := .istore_n 3) (k := 1) (pc' := 69) (lv' := [(3, .int 1), (4, .int (l4 + 1)), (0, .ref 40), (1, .int l1), (2, .int l2), (5, .int l5)]) (st' := []) (by decide +kernel) rfl rfl ?_
    refine ab_fin.s2 (i := .iload_n 3) (k := 1) (pc' := 70) (lv' := [(3, .int 1), (4, .int (l4 + 1)), (0, .ref 40), (1, .int l1), (2, .int l2), (5, .int l5)]) (st' := [.int 1]) (by decide +kernel) rfl rfl ?_
    refine ab_fin.br (c := (1 : Int32) = 0) (i := .ifCond .eq 9) (off := 9) (t := 79) (pc' := 73) (r := []) (by decide +kernel) rfl (by decide +kernel) rfl (fun q => ?_) (fun q => ?_)
    · replace w := w.1 q
      refine ab_fin.q_inc (n := 5) (c := 1) (pc' := 82) (lv' := [(5, .int (l5 + 1)), (3, .int 1), (4, .int (l4 + 1)), (0, .ref 40), (1, .int l1), (2, .int l2)]) (by decide +kernel) (by decide) rfl rfl rfl rfl ?_
      refine ab_fin.s3 (i := .goto (-69)) (k := 3) (t := 13) (st' := []) (by decide +kernel) (ab_gto (by decide +kernel)) ?_
      exact ab_fin.lv ⟨(List.forall_mem_cons.mpr ⟨(List.Mem.tail _ (List.Mem.tail _ (List.Mem.tail _ (List.Mem.head _)))), (List.forall_mem_cons.mpr ⟨(List.Mem.tail _ (List.Mem.tail _ (List.Mem.tail _ (List.Mem.tail _ (List.Mem.head _))))), (List.forall_mem_cons.mpr ⟨(List.Mem.tail _ (List.Mem.tail _ (List.Mem.tail _ (List.Mem.tail _ (List.Mem.tail _ (List.Mem.head _)))))), (List.forall_mem_cons.mpr ⟨(List.Mem.tail _ (List.Mem.head _)), (List.forall_mem_cons.mpr ⟨(List.Mem.tail _ (List.Mem.tail _ (List.Mem.head _))), (List.forall_mem_cons.mpr ⟨(List.Mem.head _), (fun _ h => absurd h List.not_mem_nil)⟩)⟩)⟩)⟩)⟩)⟩), (show ([5, 3, 4, 0, 1, 2] : List Nat).Nodup from by decide)⟩ w
    · replace w := w.2 q
      refine ab_fin.s2 (i := .aload_n 0) (k := 1) (pc' := 74) (lv' := [(3, .int 1), (4, .int (l4 + 1)), (0, .ref 40), (1, .int l1), (2, .int l2), (5, .int l5)]) (st' := [.ref 40]) (by decide +kernel) rfl rfl ?_
      refine ab_fin.s1i (i := .bipush 6) (k := 2) (pc' := 76) (n := 6) (by decide +kernel) rfl (by decide +kernel) rfl ?_
      refine ab_fin.q_yN (i := .invokevirtual 57) (k := 3) (y := 1799) (As := [.ref 40, .int 6]) (rest := []) (M' := (mX7_take, [])) (lv2 := [(0, .ref 40), (1, .int 6)]) (pc' := 79) (X := K) (by decide +kernel) (ab_cv rfl rfl (conc_get (σ := τ3) (F4.s t0_40)) ⟨(Nat.le_of_ble_eq_true rfl), (Nat.le_of_ble_eq_true rfl)⟩ rfl) rfl (Nat.le_of_ble_eq_true rfl) rfl rfl (hY_no fun E => rfl) w (fun τ8 F9 w => ?_)
      refine ab_fin.q_inc (n := 5) (c := 1) (pc' := 82) (lv' := [(5, .int (l5 + 1)), (3, .int 1), (4, .int (l4 + 1)), (0, .ref 40), (1, .int l1), (2, .int l2)]) (by decide +kernel) (by decide) rfl rfl rfl rfl ?_
      refine ab_fin.s3 (i := .goto (-69)) (k := 3) (t := 13) (st' := []) (by decide +kernel) (ab_gto (by decide +kernel)) ?_
      exact ab_fin.lv ⟨(List.forall_mem_cons.mpr ⟨(List.Mem.tail _ (List.Mem.tail _ (List.Mem.tail _ (List.Mem.head _)))), (List.forall_mem_cons.mpr ⟨(List.Mem.tail _ (List.Mem.tail _ (List.Mem.tail _ (List.Mem.tail _ (List.Mem.head _))))), (List.forall_mem_cons.mpr ⟨(List.Mem.tail _ (List.Mem.tail _ (List.Mem.tail _ (List.Mem.tail _ (List.Mem.tail _ (List.Mem.head _)))))), (List.forall_mem_cons.mpr ⟨(List.Mem.tail _ (List.Mem.head _)), (List.forall_mem_cons.mpr ⟨(List.Mem.tail _ (List.Mem.tail _ (List.Mem.head _))), (List.forall_mem_cons.mpr ⟨(List.Mem.head _), (fun _ h => absurd h List.not_mem_nil)⟩)⟩)⟩)⟩)⟩)⟩), (show ([5, 3, 4, 0, 1, 2] : List Nat).Nodup from by decide)⟩ w

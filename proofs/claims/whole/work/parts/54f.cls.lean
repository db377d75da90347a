/-! THE CLASS, PIECE BY PIECE (printed by sgen.py), 6 -/
theorem T_X7_readKind_0 {Z : zT} {d : Nat} {σ : Sg}  {K : kS} (F : FX ΦC σ.sh σ.r) (w : C_X7_take_0 Z d σ 20 (yN K fun τ1 => C_X7_takeNewName_0 Z d τ1 0 (yI K fun v5 τ3 => C_X7_sign_0 Z d (τ3.wi 2 4 (0 : Int32))  (yI K fun v8 τ6 => (¬ v8 = 15 → C_X7_readKind_43 Z (d + 1) τ6 v5 0 0 K) ∧ (v8 = 15 → C_X7_readKind_43 Z (d + 1) τ6 v5 1 0 K))))) : C_X7_readKind_0 Z (d + 1) σ  K := by
  unfold C_X7_readKind_0
  refine ab_fin.s2 (i := .aload_n 0) (k := 1) (pc' := 1) (lv' := [(0, .ref 40)]) (st' := [.ref 40]) (by decide +kernel) rfl rfl ?_
  refine ab_fin.s1i (i := .bipush 20) (k := 2) (pc' := 3) (n := 20) (by decide +kernel) rfl (by decide +kernel) rfl ?_
  refine ab_fin.q_yN (i := .invokevirtual 57) (k := 3) (y := 1799) (As := [.ref 40, .int 20]) (rest := []) (M' := (mX7_take, [])) (lv2 := [(0, .ref 40), (1, .int 20)]) (pc' := 6) (X := K) (by decide +kernel) (ab_cv rfl rfl (conc_get (σ := σ) (F.s t0_40)) ⟨(Nat.le_of_ble_eq_true rfl), (Nat.le_of_ble_eq_true rfl)⟩ rfl) rfl (Nat.le_of_ble_eq_true rfl) rfl rfl (hY_no fun E => rfl) w (fun τ1 F2 w => ?_)
  refine ab_fin.s2 (i := .aload_n 0) (k := 1) (pc' := 7) (lv' := [(0, .ref 40)]) (st' := [.ref 40]) (by decide +kernel) rfl rfl ?_
  refine ab_fin.s1i (i := .iconst 0) (k := 1) (pc' := 8) (n := 0) (by decide +kernel) rfl (by decide +kernel) rfl ?_
  refine ab_fin.q_yI (i := .invokevirtual 138) (k := 3) (y := 1801) (As := [.ref 40, .int 0]) (rest := []) (M' := (mX7_takeNewName, [])) (lv2 := [(0, .ref 40), (1, .int 0)]) (pc' := 11) (X := K) (by decide +kernel) (ab_cv rfl rfl (conc_get (σ := τ1) (F2.s t0_40)) ⟨(Nat.le_of_ble_eq_true rfl), (Nat.le_of_ble_eq_true rfl)⟩ rfl) rfl (Nat.le_of_ble_eq_true rfl) rfl rfl (hY_no fun E => rfl) w (fun v5 τ3 F4 w => ?_)
  refine ab_fin.s2 (i := .istore_n 1) (k := 1) (pc' := 12) (lv' := [(1, .int v5), (0, .ref 40)]) (st' := []) (by decide +kernel) rfl rfl ?_
  refine ab_fin.s2 (i := .aload_n 0) (k := 1) (pc' := 13) (lv' := [(1, .int v5), (0, .ref 40)]) (st' := [.ref 40]) (by decide +kernel) rfl rfl ?_
  refine ab_fin.q_rA (b := 1) (ix := 18) (ci := 8) (k := 0) (pc' := 16) (by decide +kernel) rfl (c_rA (F4.s t0_40) rfl (rC_8_0 F4 t0_40)) rfl ?_
  refine ab_fin.q_rA (b := 2) (ix := 142) (ci := 12) (k := 0) (pc' := 19) (by decide +kernel) rfl (c_rA (F4.s t0_1) rfl (rC_12_0 F4 t0_1)) rfl ?_
  refine ab_fin.s2 (i := .astore_n 2) (k := 1) (pc' := 20) (lv' := [(2, .ref 2), (1, .int v5), (0, .ref 40)]) (st' := []) (by decide +kernel) rfl rfl ?_
  refine ab_fin.s2 (i := .aload_n 2) (k := 1) (pc' := 21) (lv' := [(2, .ref 2), (1, .int v5), (0, .ref 40)]) (st' := [.ref 2]) (by decide +kernel) rfl rfl ?_
  refine ab_fin.s1i (i := .iconst 0) (k := 1) (pc' := 22) (n := 0) (by decide +kernel) rfl (by decide +kernel) rfl ?_
  refine ab_fin.q_pF (ix := 146) (ci := 3) (k := 4) (h1 := conc (τ3.wi 2 4 (0 : Int32))) (pc' := 25) (by decide +kernel) rfl (c_pI (v := 0) (F4.s t0_2) rfl) rfl rfl rfl ?_
  refine ab_fin.s2 (i := .aload_n 0) (k := 1) (pc' := 26) (lv' := [(2, .ref 2), (1, .int v5), (0, .ref 40)]) (st' := [.ref 40]) (by decide +kernel) rfl rfl ?_
  refine ab_fin.q_yI (i := .invokevirtual 41) (k := 3) (y := 1798) (As := [.ref 40]) (rest := []) (M' := (mX7_sign, [])) (lv2 := [(0, .ref 40)]) (pc' := 29) (X := K) (by decide +kernel) (ab_cv rfl rfl (conc_get (σ := (τ3.wi 2 4 (0 : Int32))) (F4.s t0_40)) ⟨(Nat.le_of_ble_eq_true rfl), (Nat.le_of_ble_eq_true rfl)⟩ rfl) rfl (Nat.le_of_ble_eq_true rfl) rfl rfl (hY_no fun E => rfl) w (fun v8 τ6 F7 w => ?_)
  refine ab_fin.s1i (i := .bipush 15) (k := 2) (pc' := 31) (n := 15) (by decide +kernel) rfl (by decide +kernel) rfl ?_
  refine ab_fin.br (c := ¬ v8 = 15) (i := .if_icmp .ne 7) (off := 7) (t := 38) (pc' := 34) (r := []) (by decide +kernel) rfl (by decide +kernel) rfl (fun q => ?_) (fun q => ?_)
  · replace w := w.1 q
    refine ab_fin.s1i (i := .iconst 0) (k := 1) (pc' := 39) (n := 0) (by decide +kernel) rfl (by decide +kernel) rfl ?_
    refine ab_fin.s2 (i := .istore_n 3) (k := 1) (pc' := 40) (lv' := [(3, .int 0), (2, .ref 2), (1, .int v5), (0, .ref 40)]) (st' := []) (by decide +kernel) rfl rfl ?_
    refine ab_fin.s1i (i := .iconst 0) (k := 1) (pc' := 41) (n := 0) (by decide +kernel) rfl (by decide +kernel) rfl ?_
    refine ab_fin.s2 (i := .istore 4) (k := 2) (pc' := 43) (lv' := [(4, .int 0), (3, .int 0), (2, .ref 2), (1, .int v5), (0, .ref 40)]) (st' := []) (by decide +kernel) rfl rfl ?_
    exact ab_fin.lv ⟨(List.forall_mem_cons.mpr ⟨(List.Mem.tail _ (List.Mem.tail _ (List.Mem.tail _ (List.Mem.tail _ (List.Mem.head _))))), (List.forall_mem_cons.mpr ⟨(List.Mem.tail _ (List.Mem.tail _ (List.Mem.tail _ (List.Mem.head _)))), (List.forall_mem_cons.mpr ⟨(List.Mem.tail _ (List.Mem.tail _ (List.Mem.head _))), (List.forall_mem_cons.mpr ⟨(List.Mem.tail _ (List.Mem.head _)), (List.forall_mem_cons.mpr ⟨(List.Mem.head _), (fun _ h => absurd h List.not_mem_nil)⟩)⟩)⟩)⟩)⟩), (show ([4, 3, 2, 1, 0] : List Nat).Nodup from by decide)⟩ w
  · replace w := w.2 (Decidable.of_not_not q)
    refine ab_fin.s1i (i := .iconst 1) (k := 1) (pc' := 35) (n := 1) (by decide +kernel) rfl (by decide +kernel) rfl ?_
    refine ab_fin.s3 (i := .goto 4) (k := 3) (t := 39) (st' := [.int 1]) (by decide +kernel) (ab_gto (by decide +kernel)) ?_
    refine ab_fin.s2 (i := .istore_n 3) (k := 1) (pc' := 40) (lv' := [(3, .int 1), (2, .ref 2), (1, .int v5), (0, .ref 40)]) (st' := []) (by decide +kernel) rfl rfl ?_
    refine ab_fin.s1i (i := .iconst 0) (k := 1) (pc' := 41) (n := 0) (by decide +kernel) rfl (by decide +kernel) rfl ?_
    refine ab_fin.s2 (i := .istore 4) (k := 2) (pc' := 43) (lv' := [(4, .int 0), (3, .int 1), (2, .ref 2), (1, .int v5), (0, .ref 40)]) (st' := []) (by decide +kernel) rfl rfl ?_
    exact ab_fin.lv ⟨(List.forall_mem_cons.mpr ⟨(List.Mem.tail _ (List.Mem.tail _ (List.Mem.tail _ (List.Mem.tail _ (List.Mem.head _))))), (List.forall_mem_cons.mpr ⟨(List.Mem.tail _ (List.Mem.tail _ (List.Mem.tail _ (List.Mem.head _)))), (List.forall_mem_cons.mpr ⟨(List.Mem.tail _ (List.Mem.tail _ (List.Mem.head _))), (List.forall_mem_cons.mpr ⟨(List.Mem.tail _ (List.Mem.head _)), (List.forall_mem_cons.mpr ⟨(List.Mem.head _), (fun _ h => absurd h List.not_mem_nil)⟩)⟩)⟩)⟩)⟩), (show ([4, 3, 2, 1, 0] : List Nat).Nodup from by decide)⟩ w
theorem T_X7_readKind_43 {Z : zT} {d : Nat} {σ : Sg} {l1 : Int32} {l3 : Int32} {l4 : Int32} {K : kS} (F : FX ΦC σ.sh σ.r) (w : ((σ.i 41 4) ≤ l4 → C_X7_readKind_131 Z (d + 1) σ l1 K) ∧ (¬ (σ.i 41 4) ≤ l4 → (l3 = 0 → C_X7_readKind_131 Z (d + 1) σ l1 K) ∧ (¬ l3 = 0 → C_X7_sign_0 Z d σ  (yI K fun v3 τ1 => C_X7_take_0 Z d τ1 v3 (yN K fun τ4 => C_X7_takeKnownName_0 Z d τ4 0 (yI K fun v8 τ6 => C_X2_isParent_0 Z d τ6 v8 (yI K fun v11 τ9 => (v11 = 0 → (v8 < 0 → C_X7_readKind_110 Z (d + 1) τ9 l1 l4 K) ∧ (¬ v8 < 0 → C_X2_addParent_0 Z d τ9 v8 (yN K fun τ12 => C_X7_readKind_110 Z (d + 1) τ12 l1 l4 K))) ∧ (¬ v11 = 0 → C_X7_breakRule_0 Z d τ9 5 (τ4.i 40 3) (yN K fun τ14 => C_X7_readKind_110 Z (d + 1) τ14 l1 l4 K))))))))) : C_X7_readKind_43 Z (d + 1) σ l1 l3 l4 K := by
  unfold C_X7_readKind_43
  refine ab_fin.s2 (i := .iload 4) (k := 2) (pc' := 45) (lv' := [(0, .ref 40), (1, .int l1), (2, .ref 2), (3, .int l3), (4, .int l4)]) (st' := [.int l4]) (by decide +kernel) rfl rfl ?_
  refine ab_fin.s2 (i := .aload_n 0) (k := 1) (pc' := 46) (lv' := [(0, .ref 40), (1, .int l1), (2, .ref 2), (3, .int l3), (4, .int l4)]) (st' := [.ref 40, .int l4]) (by decide +kernel) rfl rfl ?_
  refine ab_fin.q_rA (b := 41) (ix := 12) (ci := 8) (k := 1) (pc' := 49) (by decide +kernel) rfl (c_rA (F.s t0_40) rfl (rC_8_1 F t0_40)) rfl ?_
  refine ab_fin.q_rI (x := (σ.i 41 4)) (ix := 34) (ci := 9) (k := 4) (pc' := 52) (by decide +kernel) rfl (c_rI (F.s t0_41) rfl) rfl ?_
  refine ab_fin.br (c := (σ.i 41 4) ≤ l4) (i := .if_icmp .ge 79) (off := 79) (t := 131) (pc' := 55) (r := []) (by decide +kernel) rfl (by decide +kernel) rfl (fun q => ?_) (fun q => ?_)
  · replace w := w.1 q
    exact ab_fin.lv ⟨(List.forall_mem_cons.mpr ⟨(List.Mem.head _), (List.forall_mem_cons.mpr ⟨(List.Mem.tail _ (List.Mem.head _)), (List.forall_mem_cons.mpr ⟨(List.Mem.tail _ (List.Mem.tail _ (List.Mem.head _))), (fun _ h => absurd h List.not_mem_nil)⟩)⟩)⟩), (show ([0, 1, 2, 3, 4] : List Nat).Nodup from by decide)⟩ w
  · replace w := w.2 q
    refine ab_fin.s2 (i := .iload_n 3) (k := 1) (pc' := 56) (lv' := [(0, .ref 40), (1, .int l1), (2, .ref 2), (3, .int l3), (4, .int l4)]) (st' := [.int l3]) (by decide +kernel) rfl rfl ?_
    refine ab_fin.br (c := l3 = 0) (i := .ifCond .eq 75) (off := 75) (t := 131) (pc' := 59) (r := []) (by decide +kernel) rfl (by decide +kernel) rfl (fun q => ?_) (fun q => ?_)
    · replace w := w.1 q
      exact ab_fin.lv ⟨(List.forall_mem_cons.mpr ⟨(List.Mem.head _), (List.forall_mem_cons.mpr ⟨(List.Mem.tail _ (List.Mem.head _)), (List.forall_mem_cons.mpr ⟨(List.Mem.tail _ (List.Mem.tail _ (List.Mem.head _))), (fun _ h => absurd h List.not_mem_nil)⟩)⟩)⟩), (show ([0, 1, 2, 3, 4] : List Nat).Nodup from by decide)⟩ w
    · replace w := w.2 q
      refine ab_fin.s2 (i := .aload_n 0) (k := 1) (pc' := 60) (lv' := [(0, .ref 40), (1, .int l1), (2, .ref 2), (3, .int l3), (4, .int l4)]) (st' := [.ref 40]) (by decide +kernel) rfl rfl ?_
      refine ab_fin.s2 (i := .aload_n 0) (k := 1) (pc' := 61) (lv' := [(0, .ref 40), (1, .int l1), (2, .ref 2), (3, .int l3), (4, .int l4)]) (st' := [.ref 40, .ref 40]) (by decide +kernel) rfl rfl ?_
      refine ab_fin.q_yI (i := .invokevirtual 41) (k := 3) (y := 1798) (As := [.ref 40]) (rest := [.ref 40]) (M' := (mX7_sign, [])) (lv2 := [(0, .ref 40)]) (pc' := 64) (X := K) (by decide +kernel) (ab_cv rfl rfl (conc_get (σ := σ) (F.s t0_40)) ⟨(Nat.le_of_ble_eq_true rfl), (Nat.le_of_ble_eq_true rfl)⟩ rfl) rfl (Nat.le_of_ble_eq_true rfl) rfl rfl (hY_no fun E => rfl) w (fun v3 τ1 F2 w => ?_)
      refine ab_fin.q_yN (i := .invokevirtual 57) (k := 3) (y := 1799) (As := [.ref 40, .int v3]) (rest := []) (M' := (mX7_take, [])) (lv2 := [(0, .ref 40), (1, .int v3)]) (pc' := 67) (X := K) (by decide +kernel) (ab_cv rfl rfl (conc_get (σ := τ1) (F2.s t0_40)) ⟨(Nat.le_of_ble_eq_true rfl), (Nat.le_of_ble_eq_true rfl)⟩ rfl) rfl (Nat.le_of_ble_eq_true rfl) rfl rfl (hY_no fun E => rfl) w (fun τ4 F5 w => ?_)
      refine ab_fin.s2 (i := .aload_n 0) (k := 1) (pc' := 68) (lv' := [(0, .ref 40), (1, .int l1), (2, .ref 2), (3, .int l3), (4, .int l4)]) (st' := [.ref 40]) (by decide +kernel) rfl rfl ?_
      refine ab_fin.q_rI (x := (τ4.i 40 3)) (ix := 97) (ci := 8) (k := 3) (pc' := 71) (by decide +kernel) rfl (c_rI (F5.s t0_40) rfl) rfl ?_
      refine ab_fin.s2 (i := .istore 5) (k := 2) (pc' := 73) (lv' := [(5, .int (τ4.i 40 3)), (0, .ref 40), (1, .int l1), (2, .ref 2), (3, .int l3), (4, .int l4)]) (st' := []) (by decide +kernel) rfl rfl ?_
      refine ab_fin.s2 (i := .aload_n 0) (k := 1) (pc' := 74) (lv' := [(5, .int (τ4.i 40 3)), (0, .ref 40), (1, .int l1), (2, .ref 2), (3, .int l3), (4, .int l4)]) (st' := [.ref 40]) (by decide +kernel) rfl rfl ?_
      refine ab_fin.s1i (i := .iconst 0) (k := 1) (pc' := 75) (n := 0) (by decide +kernel) rfl (by decide +kernel) rfl ?_
      refine ab_fin.q_yI (i := .invokevirtual 151) (k := 3) (y := 1802) (As := [.ref 40, .int 0]) (rest := []) (M' := (mX7_takeKnownName, [])) (lv2 := [(0, .ref 40), (1, .int 0)]) (pc' := 78) (X := K) (by decide +kernel) (ab_cv rfl rfl (conc_get (σ := τ4) (F5.s t0_40)) ⟨(Nat.le_of_ble_eq_true rfl), (Nat.le_of_ble_eq_true rfl)⟩ rfl) rfl (Nat.le_of_ble_eq_true rfl) rfl rfl (hY_no fun E => rfl) w (fun v8 τ6 F7 w => ?_)
      refine ab_fin.s2 (i := .istore 6) (k := 2) (pc' := 80) (lv' := [(6, .int v8), (5, .int (τ4.i 40 3)), (0, .ref 40), (1, .int l1), (2, .ref 2), (3, .int l3), (4, .int l4)]) (st' := []) (by decide +kernel) rfl rfl ?_
      refine ab_fin.s2 (i := .aload_n 2) (k := 1) (pc' := 81) (lv' := [(6, .int v8), (5, .int (τ4.i 40 3)), (0, .ref 40), (1, .int l1), (2, .ref 2), (3, .int l3), (4, .int l4)]) (st' := [.ref 2]) (by decide +kernel) rfl rfl ?_
      refine ab_fin.s2 (i := .iload 6) (k := 2) (pc' := 83) (lv' := [(6, .int v8), (5, .int (τ4.i 40 3)), (0, .ref 40), (1, .int l1), (2, .ref 2), (3, .int l3), (4, .int l4)]) (st' := [.int v8, .ref 2]) (by decide +kernel) rfl rfl ?_
      refine ab_fin.q_yI (i := .invokevirtual 154) (k := 3) (y := 516) (As := [.ref 2, .int v8]) (rest := []) (M' := (mX2_isParent, [])) (lv2 := [(0, .ref 2), (1, .int v8)]) (pc' := 86) (X := K) (by decide +kernel) (ab_cv rfl rfl (conc_get (σ := τ6) (F7.s t0_2)) ⟨(Nat.le_of_ble_eq_true rfl), (Nat.le_of_ble_eq_true rfl)⟩ rfl) rfl (Nat.le_of_ble_eq_true rfl) rfl rfl (hY_no fun E => rfl) w (fun v11 τ9 F10 w => ?_)
      refine ab_fin.br (c := v11 = 0) (i := .ifCond .eq 13) (off := 13) (t := 99) (pc' := 89) (r := []) (by decide +kernel) rfl (by decide +kernel) rfl (fun q => ?_) (fun q => ?_)
      · replace w := w.1 q
        refine ab_fin.s2 (i := .iload 6) (k := 2) (pc' := 101) (lv' := [(6, .int v8), (5, .int (τ4.i 40 3)), (0, .ref 40), (1, .int l1), (2, .ref 2), (3, .int l3), (4, .int l4)]) (st' := [.int v8]) (by decide +kernel) rfl rfl ?_
        refine ab_fin.br (c := v8 < 0) (i := .ifCond .lt 9) (off := 9) (t := 110) (pc' := 104) (r := []) (by decide +kernel) rfl (by decide +kernel) rfl (fun q => ?_) (fun q => ?_)
        · replace w := w.1 q
          exact ab_fin.lv ⟨(List.forall_mem_cons.mpr ⟨(List.Mem.tail _ (List.Mem.tail _ (List.Mem.head _))), (List.forall_mem_cons.mpr ⟨(List.Mem.tail _ (List.Mem.tail _ (List.Mem.tail _ (List.Mem.head _)))), (List.forall_mem_cons.mpr ⟨(List.Mem.tail _ (List.Mem.tail _ (List.Mem.tail _ (List.Mem.tail _ (List.Mem.head _))))), (List.forall_mem_cons.mpr ⟨(List.Mem.tail _ (List.Mem.tail _ (List.Mem.tail _ (List.Mem.tail _ (List.Mem.tail _ (List.Mem.tail _ (List.Mem.head _))))))), (fun _ h => absurd h List.not_mem_nil)⟩)⟩)⟩)⟩), (show ([6, 5, 0, 1, 2, 3, 4] : List Nat).Nodup from by decide)⟩ w
        · replace w := w.2 q
          refine ab_fin.s2 (i := .aload_n 2) (k := 1) (pc' := 105) (lv' := [(6, .int v8), (5, .int (τ4.i 40 3)), (0, .ref 40), (1, .int l1), (2, .ref 2), (3, .int l3), (4, .int l4)]) (st' := [.ref 2]) (by decide +kernel) rfl rfl ?_
          refine ab_fin.s2 (i := .iload 6) (k := 2) (pc' := 107) (lv' := [(6, .int v8), (5, .int (τ4.i 40 3)), (0, .ref 40), (1, .int l1), (2, .ref 2), (3, .int l3), (4, .int l4)]) (st' := [.int v8, .ref 2]) (by decide +kernel) rfl rfl ?_
          refine ab_fin.q_yN (i := .invokevirtual 157) (k := 3) (y := 517) (As := [.ref 2, .int v8]) (rest := []) (M' := (mX2_addParent, [])) (lv2 := [(0, .ref 2), (1, .int v8)]) (pc' := 110) (X := K) (by decide +kernel) (ab_cv rfl rfl (conc_get (σ := τ9) (F10.s t0_2)) ⟨(Nat.le_of_ble_eq_true rfl), (Nat.le_of_ble_eq_true rfl)⟩ rfl) rfl (Nat.le_of_ble_eq_true rfl) rfl rfl (hY_no fun E => rfl) w (fun τ12 F13 w => ?_)
          exact ab_fin.lv ⟨(List.forall_mem_cons.mpr ⟨(List.Mem.tail _ (List.Mem.tail _ (List.Mem.head _))), (List.forall_mem_cons.mpr ⟨(List.Mem.tail _ (List.Mem.tail _ (List.Mem.tail _ (List.Mem.head _)))), (List.forall_mem_cons.mpr ⟨(List.Mem.tail _ (List.Mem.tail _ (List.Mem.tail _ (List.Mem.tail _ (List.Mem.head _))))), (List.forall_mem_cons.mpr ⟨(List.Mem.tail _ (List.Mem.tail _ (List.Mem.tail _ (List.Mem.tail _ (List.Mem.tail _ (List.Mem.tail _ (List.Mem.head _))))))), (fun _ h => absurd h List.not_mem_nil)⟩)⟩)⟩)⟩), (show ([6, 5, 0, 1, 2, 3, 4] : List Nat).Nodup from by decide)⟩ w
      · replace w := w.2 q
        refine ab_fin.s2 (i := .aload_n 0) (k := 1) (pc' := 90) (lv' := [(6, .int v8), (5, .int (τ4.i 40 3)), (0, .ref 40), (1, .int l1), (2, .ref 2), (3, .int l3), (4, .int l4)]) (st' := [.ref 40]) (by decide +kernel) rfl rfl ?_
        refine ab_fin.s1i (i := .iconst 5) (k := 1) (pc' := 91) (n := 5) (by decide +kernel) rfl (by decide +kernel) rfl ?_
        refine ab_fin.s2 (i := .iload 5) (k := 2) (pc' := 93) (lv' := [(6, .int v8), (5, .int (τ4.i 40 3)), (0, .ref 40), (1, .int l1), (2, .ref 2), (3, .int l3), (4, .int l4)]) (st' := [.int (τ4.i 40 3), .int 5, .ref 40]) (by decide +kernel) rfl rfl ?_
        refine ab_fin.q_yN (i := .invokevirtual 126) (k := 3) (y := 1800) (As := [.ref 40, .int 5, .int (τ4.i 40 3)]) (rest := []) (M' := (mX7_breakRule, [])) (lv2 := [(0, .ref 40), (1, .int 5), (2, .int (τ4.i 40 3))]) (pc' := 96) (X := K) (by decide +kernel) (ab_cv rfl rfl (conc_get (σ := τ9) (F10.s t0_40)) ⟨(Nat.le_of_ble_eq_true rfl), (Nat.le_of_ble_eq_true rfl)⟩ rfl) rfl (Nat.le_of_ble_eq_true rfl) rfl rfl (hY_no fun E => rfl) w (fun τ14 F15 w => ?_)
        refine ab_fin.s3 (i := .goto 14) (k := 3) (t := 110) (st' := []) (by decide +kernel) (ab_gto (by decide +kernel)) ?_
        exact ab_fin.lv ⟨(List.forall_mem_cons.mpr ⟨(List.Mem.tail _ (List.Mem.tail _ (List.Mem.head _))), (List.forall_mem_cons.mpr ⟨(List.Mem.tail _ (List.Mem.tail _ (List.Mem.tail _ (List.Mem.head _)))), (List.forall_mem_cons.mpr ⟨(List.Mem.tail _ (List.Mem.tail _ (List.Mem.tail _ (List.Mem.tail _ (List.Mem.head _))))), (List.forall_mem_cons.mpr ⟨(List.Mem.tail _ (List.Mem.tail _ (List.Mem.tail _ (List.Mem.tail _ (List.Mem.tail _ (List.Mem.tail _ (List.Mem.head _))))))), (fun _ h => absurd h List.not_mem_nil)⟩)⟩)⟩)⟩), (show ([6, 5, 0, 1, 2, 3, 4] : List Nat).Nodup from by decide)⟩ w
theorem T_X7_readKind_110 {Z : zT} {d : Nat} {σ : Sg} {l1 : Int32} {l4 : Int32} {K : kS} (F : FX ΦC σ.sh σ.r) (w : C_X7_sign_0 Z d σ  (yI K fun v3 τ1 => (¬ v3 = 6 → C_X7_readKind_43 Z (d + 1) τ1 l1 0 (l4 + 1) K) ∧ (v3 = 6 → C_X7_readKind_43 Z (d + 1) τ1 l1 1 (l4 + 1) K))) : C_X7_readKind_110 Z (d + 1) σ l1 l4 K := by
  unfold C_X7_readKind_110
  refine ab_fin.s2 (i := .aload_n 0) (k := 1) (pc' := 111) (lv' := [(0, .ref 40), (1, .int l1), (2, .ref 2), (4, .int l4)]) (st' := [.ref 40]) (by decide +kernel) rfl rfl ?_
  refine ab_fin.q_yI (i := .invokevirtual 41) (k := 3) (y := 1798) (As := [.ref 40]) (rest := []) (M' := (mX7_sign, [])) (lv2 := [(0, .ref 40)]) (pc' := 114) (X := K) (by decide +kernel) (ab_cv rfl rfl (conc_get (σ := σ) (F.s t0_40)) ⟨(Nat.le_of_ble_eq_true rfl), (Nat.le_of_ble_eq_true rfl)⟩ rfl) rfl (Nat.le_of_ble_eq_true rfl) rfl rfl (hY_no fun E => rfl) w (fun v3 τ1 F2 w => ?_)
  refine ab_fin.s1i (i := .bipush 6) (k := 2) (pc' := 116) (n := 6) (by decide +kernel) rfl (by decide +kernel) rfl ?_
  refine ab_fin.br (c := ¬ v3 = 6) (i := .if_icmp .ne 7) (off := 7) (t := 123) (pc' := 119) (r := []) (by decide +kernel) rfl (by decide +kernel) rfl (fun q => ?_) (fun q => ?_)
  · replace w := w.1 q
    refine ab_fin.s1i (i := .iconst 0) (k := 1) (pc' := 124) (n := 0) (by decide +kernel) rfl (by decide +kernel) rfl ?_
    refine ab_fin.s2 (i := .istore_n 3) (k := 1) (pc' := 125) (lv' := [(3, .int 0), (0, .ref 40), (1, .int l1), (2, .ref 2), (4, .int l4)]) (st' := []) (by decide +kernel) rfl rfl ?_
    refine ab_fin.q_inc (n := 4) (c := 1) (pc' := 128) (lv' := [(4, .int (l4 + 1)), (3, .int 0), (0, .ref 40), (1, .int l1), (2, .ref 2)]) (by decide +kernel) (by decide) rfl rfl rfl rfl ?_
    refine ab_fin.s3 (i := .goto (-85)) (k := 3) (t := 43) (st' := []) (by decide +kernel) (ab_gto (by decide +kernel)) ?_
    exact ab_fin.lv ⟨(List.forall_mem_cons.mpr ⟨(List.Mem.tail _ (List.Mem.tail _ (List.Mem.head _))), (List.forall_mem_cons.mpr ⟨(List.Mem.tail _ (List.Mem.tail _ (List.Mem.tail _ (List.Mem.head _)))), (List.forall_mem_cons.mpr ⟨(List.Mem.tail _ (List.Mem.tail _ (List.Mem.tail _ (List.Mem.tail _ (List.Mem.head _))))), (List.forall_mem_cons.mpr ⟨(List.Mem.tail _ (List.Mem.head _)), (List.forall_mem_cons.mpr ⟨(List.Mem.head _), (fun _ h => absurd h List.not_mem_nil)⟩)⟩)⟩)⟩)⟩), (show ([4, 3, 0, 1, 2] : List Nat).Nodup from by decide)⟩ w
  · replace w := w.2 (Decidable.of_not_not q)
    refine ab_fin.s1i (i := .iconst 1) (k := 1) (pc' := 120) (n := 1) (by decide +kernel) rfl (by decide +kernel) rfl ?_
    refine ab_fin.s3 (i := .goto 4) (k := 3) (t := 124) (st' := [.int 1]) (by decide +kernel) (ab_gto (by decide +kernel)) ?_
    refine ab_fin.s2 (i := .istore_n 3) (k := 1) (pc' := 125) (lv' := [(3, .int 1), (0, .ref 40), (1, .int l1), (2, .ref 2), (4, .int l4)]) (st' := []) (by decide +kernel) rfl rfl ?_
    refine ab_fin.q_inc (n := 4) (c := 1) (pc' := 128) (lv' := [(4, .int (l4 + 1)), (3, .int 1), (0, .ref 40), (1, .int l1), (2, .ref 2)]) (by decide +kernel) (by decide) rfl rfl rfl rfl ?_
    refine ab_fin.s3 (i := .goto (-85)) (k := 3) (t := 43) (st' := []) (by decide +kernel) (ab_gto (by decide +kernel)) ?_
    exact ab_fin.lv ⟨(List.forall_mem_cons.mpr ⟨(List.Mem.tail _ (List.Mem.tail _ (List.Mem.head _))), (List.forall_mem_cons.mpr ⟨(List.Mem.tail _ (List.Mem.tail _ (List.Mem.tail _ (List.Mem.head _)))), (List.forall_mem_cons.mpr ⟨(List.Mem.tail _ (List.Mem.tail _ (List.Mem.tail _ (List.Mem.tail _ (List.Mem.head _))))), (List.forall_mem_cons.mpr ⟨(List.Mem.tail _ (List.Mem.head _)), (List.forall_mem_cons.mpr ⟨(List.Mem.head _), (fun _ h => absurd h List.not_mem_nil)⟩)⟩)⟩)⟩)⟩), (show ([4, 3, 0, 1, 2] : List Nat).Nodup from by decide)⟩ w
theorem T_X7_readKind_131 {Z : zT} {d : Nat} {σ : Sg} {l1 : Int32} {K : kS} (F : FX ΦC σ.sh σ.r) (w : C_X7_sign_0 Z d σ  (yI K fun v3 τ1 => (¬ v3 = 21 → C_X7_readKind_145 Z (d + 1) τ1 l1 0 K) ∧ (v3 = 21 → C_X7_readKind_145 Z (d + 1) τ1 l1 1 K))) : C_X7_readKind_131 Z (d + 1) σ l1 K := by
  unfold C_X7_readKind_131
  refine ab_fin.s2 (i := .aload_n 0) (k := 1) (pc' := 132) (lv' := [(0, .ref 40), (1, .int l1), (2, .ref 2)]) (st' := [.ref 40]) (by decide +kernel) rfl rfl ?_
  refine ab_fin.q_yI (i := .invokevirtual 41) (k := 3) (y := 1798) (As := [.ref 40]) (rest := []) (M' := (mX7_sign, [])) (lv2 := [(0, .ref 40)]) (pc' := 135) (X := K) (by decide +kernel) (ab_cv rfl rfl (conc_get (σ := σ) (F.s t0_40)) ⟨(Nat.le_of_ble_eq_true rfl), (Nat.le_of_ble_eq_true rfl)⟩ rfl) rfl (Nat.le_of_ble_eq_true rfl) rfl rfl (hY_no fun E => rfl) w (fun v3 τ1 F2 w => ?_)
  refine ab_fin.s1i (i := .bipush 21) (k := 2) (pc' := 137) (n := 21) (by decide +kernel) rfl (by decide +kernel) rfl ?_
  refine ab_fin.br (c := ¬ v3 = 21) (i := .if_icmp .ne 7) (off := 7) (t := 144) (pc' := 140) (r := []) (by decide +kernel) rfl (by decide +kernel) rfl (fun q => ?_) (fun q => ?_)
  · replace w := w.1 q
    refine ab_fin.s1i (i := .iconst 0) (k := 1) (pc' := 145) (n := 0) (by decide +kernel) rfl (by decide +kernel) rfl ?_
    exact ab_fin.lv ⟨(List.forall_mem_cons.mpr ⟨(List.Mem.head _), (List.forall_mem_cons.mpr ⟨(List.Mem.tail _ (List.Mem.head _)), (List.forall_mem_cons.mpr ⟨(List.Mem.tail _ (List.Mem.tail _ (List.Mem.head _))), (fun _ h => absurd h List.not_mem_nil)⟩)⟩)⟩), (show ([0, 1, 2] : List Nat).Nodup from by decide)⟩ w
  · replace w := w.2 (Decidable.of_not_not q)
    refine ab_fin.s1i (i := .iconst 1) (k := 1) (pc' := 141) (n := 1) (by decide +kernel) rfl (by decide +kernel) rfl ?_
    refine ab_fin.s3 (i := .goto 4) (k := 3) (t := 145) (st' := [.int 1]) (by decide +kernel) (ab_gto (by decide +kernel)) ?_
    exact ab_fin.lv ⟨(List.forall_mem_cons.mpr ⟨(List.Mem.head _), (List.forall_mem_cons.mpr ⟨(List.Mem.tail _ (List.Mem.head _)), (List.forall_mem_cons.mpr ⟨(List.Mem.tail _ (List.Mem.tail _ (List.Mem.head _))), (fun _ h => absurd h List.not_mem_nil)⟩)⟩)⟩), (show ([0, 1, 2] : List Nat).Nodup from by decide)⟩ w
theorem T_X7_readKind_145 {Z : zT} {d : Nat} {σ : Sg} {l1 : Int32} {s0 : Int32} {K : kS} (F : FX ΦC σ.sh σ.r) (w : (s0 = 0 → C_X7_readKind_158 Z (d + 1) σ l1 s0 K) ∧ (¬ s0 = 0 → C_X7_take_0 Z d σ 21 (yN K fun τ1 => C_X7_readKind_158 Z (d + 1) τ1 l1 s0 K))) : C_X7_readKind_145 Z (d + 1) σ l1 s0 K := by
  unfold C_X7_readKind_145
  refine ab_fin.s2 (i := .istore 4) (k := 2) (pc' := 147) (lv' := [(4, .int s0), (0, .ref 40), (1, .int l1), (2, .ref 2)]) (st' := []) (by decide +kernel) rfl rfl ?_
  refine ab_fin.s2 (i := .iload 4) (k := 2) (pc' := 149) (lv' := [(4, .int s0), (0, .ref 40), (1, .int l1), (2, .ref 2)]) (st' := [.int s0]) (by decide +kernel) rfl rfl ?_
  refine ab_fin.br (c := s0 = 0) (i := .ifCond .eq 9) (off := 9) (t := 158) (pc' := 152) (r := []) (by decide +kernel) rfl (by decide +kernel) rfl (fun q => ?_) (fun q => ?_)
  · replace w := w.1 q
    exact ab_fin.lv ⟨(List.forall_mem_cons.mpr ⟨(List.Mem.tail _ (List.Mem.head _)), (List.forall_mem_cons.mpr ⟨(List.Mem.tail _ (List.Mem.tail _ (List.Mem.head _))), (List.forall_mem_cons.mpr ⟨(List.Mem.tail _ (List.Mem.tail _ (List.Mem.tail _ (List.Mem.head _)))), (List.forall_mem_cons.mpr ⟨(List.Mem.head _), (fun _ h => absurd h List.not_mem_nil)⟩)⟩)⟩)⟩), (show ([4, 0, 1, 2] : List Nat).Nodup from by decide)⟩ w
  · replace w := w.2 q
    refine ab_fin.s2 (i := .aload_n 0) (k := 1) (pc' := 153) (lv' := [(4, .int s0), (0, .ref 40), (1, .int l1), (2, .ref 2)]) (st' := [.ref 40]) (by decide +kernel) rfl rfl ?_
    refine ab_fin.s1i (i := .bipush 21) (k := 2) (pc' := 155) (n := 21) (by decide +kernel) rfl (by decide +kernel) rfl ?_
    refine ab_fin.q_yN (i := .invokevirtual 57) (k := 3) (y := 1799) (As := [.ref 40, .int 21]) (rest := []) (M' := (mX7_take, [])) (lv2 := [(0, .ref 40), (1, .int 21)]) (pc' := 158) (X := K) (by decide +kernel) (ab_cv rfl rfl (conc_get (σ := σ) (F.s t0_40)) ⟨(Nat.le_of_ble_eq_true rfl), (Nat.le_of_ble_eq_true rfl)⟩ rfl) rfl (Nat.le_of_ble_eq_true rfl) rfl rfl (hY_no fun E => rfl) w (fun τ1 F2 w => ?_)
    exact ab_fin.lv ⟨(List.forall_mem_cons.mpr ⟨(List.Mem.tail _ (List.Mem.head _)), (List.forall_mem_cons.mpr ⟨(List.Mem.tail _ (List.Mem.tail _ (List.Mem.head _))), (List.forall_mem_cons.mpr ⟨(List.Mem.tail _ (List.Mem.tail _ (List.Mem.tail _ (List.Mem.head _)))), (List.forall_mem_cons.mpr ⟨(List.Mem.head _), (fun _ h => absurd h List.not_mem_nil)⟩)⟩)⟩)⟩), (show ([4, 0, 1, 2] : List Nat).Nodup from by decide)⟩ w
theorem T_X7_readKind_158 {Z : zT} {d : Nat} {σ : Sg} {l1 : Int32} {l4 : Int32} {K : kS} (F : FX ΦC σ.sh σ.r) (w : C_X7_take_0 Z d σ 7 (yN K fun τ1 => C_X7_isClean_0 Z d τ1  (yI K fun v5 τ3 => (v5 = 0 → K (.inl none) τ3) ∧ (¬ v5 = 0 → (¬ (τ3.i 2 4) = 0 → C_X7_readKind_183 Z (d + 1) τ3 l1 l4 K) ∧ ((τ3.i 2 4) = 0 → C_X2_addParent_0 Z d τ3 0 (yN K fun τ6 => C_X7_readKind_183 Z (d + 1) τ6 l1 l4 K)))))) : C_X7_readKind_158 Z (d + 1) σ l1 l4 K := by
  unfold C_X7_readKind_158
  refine ab_fin.s2 (i := .aload_n 0) (k := 1) (pc' := 159) (lv' := [(0, .ref 40), (1, .int l1), (2, .ref 2), (4, .int l4)]) (st' := [.ref 40]) (by decide +kernel) rfl rfl ?_
  refine ab_fin.s1i (i := .bipush 7) (k := 2) (pc' := 161) (n := 7) (by decide +kernel) rfl (by decide +kernel) rfl ?_
  refine ab_fin.q_yN (i := .invokevirtual 57) (k := 3) (y := 1799) (As := [.ref 40, .int 7]) (rest := []) (M' := (mX7_take, [])) (lv2 := [(0, .ref 40), (1, .int 7)]) (pc' := 164) (X := K) (by decide +kernel) (ab_cv rfl rfl (conc_get (σ := σ) (F.s t0_40)) ⟨(Nat.le_of_ble_eq_true rfl), (Nat.le_of_ble_eq_true rfl)⟩ rfl) rfl (Nat.le_of_ble_eq_true rfl) rfl rfl (hY_no fun E => rfl) w (fun τ1 F2 w => ?_)
  refine ab_fin.s2 (i := .aload_n 0) (k := 1) (pc' := 165) (lv' := [(0, .ref 40), (1, .int l1), (2, .ref 2), (4, .int l4)]) (st' := [.ref 40]) (by decide +kernel) rfl rfl ?_
  refine ab_fin.q_yI (i := .invokevirtual 61) (k := 3) (y := 1796) (As := [.ref 40]) (rest := []) (M' := (mX7_isClean, [])) (lv2 := [(0, .ref 40)]) (pc' := 168) (X := K) (by decide +kernel) (ab_cv rfl rfl (conc_get (σ := τ1) (F2.s t0_40)) ⟨(Nat.le_of_ble_eq_true rfl), (Nat.le_of_ble_eq_true rfl)⟩ rfl) rfl (Nat.le_of_ble_eq_true rfl) rfl rfl (hY_no fun E => rfl) w (fun v5 τ3 F4 w => ?_)
  refine ab_fin.br (c := v5 = 0) (i := .ifCond .eq 68) (off := 68) (t := 236) (pc' := 171) (r := []) (by decide +kernel) rfl (by decide +kernel) rfl (fun q => ?_) (fun q => ?_)
  · replace w := w.1 q
    exact ab_fin.q_ret (i := .return_) (k := 1) (v := none) (by decide +kernel) rfl F4 w
  · replace w := w.2 q
    refine ab_fin.s2 (i := .aload_n 2) (k := 1) (pc' := 172) (lv' := [(0, .ref 40), (1, .int l1), (2, .ref 2), (4, .int l4)]) (st' := [.ref 2]) (by decide +kernel) rfl rfl ?_
    refine ab_fin.q_rI (x := (τ3.i 2 4)) (ix := 146) (ci := 3) (k := 4) (pc' := 175) (by decide +kernel) rfl (c_rI (F4.s t0_2) rfl) rfl ?_
    refine ab_fin.br (c := ¬ (τ3.i 2 4) = 0) (i := .ifCond .ne 8) (off := 8) (t := 183) (pc' := 178) (r := []) (by decide +kernel) rfl (by decide +kernel) rfl (fun q => ?_) (fun q => ?_)
    · replace w := w.1 q
      exact ab_fin.lv ⟨(List.forall_mem_cons.mpr ⟨(List.Mem.head _), (List.forall_mem_cons.mpr ⟨(List.Mem.tail _ (List.Mem.head _)), (List.forall_mem_cons.mpr ⟨(List.Mem.tail _ (List.Mem.tail _ (List.Mem.head _))), (List.forall_mem_cons.mpr ⟨(List.Mem.tail _ (List.Mem.tail _ (List.Mem.tail _ (List.Mem.head _)))), (fun _ h => absurd h List.not_mem_nil)⟩)⟩)⟩)⟩), (show ([0, 1, 2, 4] : List Nat).Nodup from by decide)⟩ w
    · replace w := w.2 (Decidable.of_not_not q)
      refine ab_fin.s2 (i := .aload_n 2) (k := 1) (pc' := 179) (lv' := [(0, .ref 40), (1, .int l1), (2, .ref 2), (4, .int l4)]) (st' := [.ref 2]) (by decide +kernel) rfl rfl ?_
      refine ab_fin.s1i (i := .iconst 0) (k := 1) (pc' := 180) (n := 0) (by decide +kernel) rfl (by decide +kernel) rfl ?_
      refine ab_fin.q_yN (i := .invokevirtual 157) (k := 3) (y := 517) (As := [.ref 2, .int 0]) (rest := []) (M' := (mX2_addParent, [])) (lv2 := [(0, .ref 2), (1, .int 0)]) (pc' := 183) (X := K) (by decide +kernel) (ab_cv rfl rfl (conc_get (σ := τ3) (F4.s t0_2)) ⟨(Nat.le_of_ble_eq_true rfl), (Nat.le_of_ble_eq_true rfl)⟩ rfl) rfl (Nat.le_of_ble_eq_true rfl) rfl rfl (hY_no fun E => rfl) w (fun τ6 F7 w => ?_)
      exact ab_fin.lv ⟨(List.forall_mem_cons.mpr ⟨(List.Mem.head _), (List.forall_mem_cons.mpr ⟨(List.Mem.tail _ (List.Mem.head _)), (List.forall_mem_cons.mpr ⟨(List.Mem.tail _ (List.Mem.tail _ (List.Mem.head _))), (List.forall_mem_cons.mpr ⟨(List.Mem.tail _ (List.Mem.tail _ (List.Mem.tail _ (List.Mem.head _)))), (fun _ h => absurd h List.not_mem_nil)⟩)⟩)⟩)⟩), (show ([0, 1, 2, 4] : List Nat).Nodup from by decide)⟩ w
theorem T_X7_readKind_183 {Z : zT} {d : Nat} {σ : Sg} {l1 : Int32} {l4 : Int32} {K : kS} (F : FX ΦC σ.sh σ.r) (w : C_X2_make_0 Z d σ (σ.i 28 0) l4 (yI K fun v3 τ1 => (v3 = 0 → C_X7_breakRule_0 Z d τ1 5 l1 (yN K fun τ4 => K (.inl none) τ4)) ∧ (¬ v3 = 0 → ∃ b6, (τ1.r 41 2) = Rf.ptr b6 ∧ (∃ n9, τ1.sh[b6]? = some (Sh.arr 1 n9) ∧ (ib l1 n9 ∧ (∃ b11, (τ1.r 41 3) = Rf.ptr b11 ∧ (∃ n14, τ1.sh[b11]? = some (Sh.arr 1 n14) ∧ (ib l1 n14 ∧ (C_X11_addName_0 Z d τ1 0 (τ1.l b6 l1.toNatClampNeg) (τ1.l b11 l1.toNatClampNeg) (yN K fun τ16 => K (.inl none) τ16)))))))))) : C_X7_readKind_183 Z (d + 1) σ l1 l4 K := by
  unfold C_X7_readKind_183
  refine ab_fin.s2 (i := .aload_n 2) (k := 1) (pc' := 184) (lv' := [(0, .ref 40), (1, .int l1), (2, .ref 2), (4, .int l4)]) (st' := [.ref 2]) (by decide +kernel) rfl rfl ?_
  refine ab_fin.s2 (i := .aload_n 0) (k := 1) (pc' := 185) (lv' := [(0, .ref 40), (1, .int l1), (2, .ref 2), (4, .int l4)]) (st' := [.ref 40, .ref 2]) (by decide +kernel) rfl rfl ?_
  refine ab_fin.q_rA (b := 1) (ix := 18) (ci := 8) (k := 0) (pc' := 188) (by decide +kernel) rfl (c_rA (F.s t0_40) rfl (rC_8_0 F t0_40)) rfl ?_
  refine ab_fin.q_rA (b := 28) (ix := 90) (ci := 12) (k := 3) (pc' := 191) (by decide +kernel) rfl (c_rA (F.s t0_1) rfl (rC_12_3 F t0_1)) rfl ?_
  refine ab_fin.s1i (i := .iconst 0) (k := 1) (pc' := 192) (n := 0) (by decide +kernel) rfl (by decide +kernel) rfl ?_
  refine ab_fin.q_eI (x := (σ.i 28 0)) (pc' := 193) (by decide +kernel) (c_eI' (F.s t0_28) (show ib (0 : Int32) 4 by decide +kernel) (by decide +kernel)) rfl ?_
  refine ab_fin.s2 (i := .iload 4) (k := 2) (pc' := 195) (lv' := [(0, .ref 40), (1, .int l1), (2, .ref 2), (4, .int l4)]) (st' := [.int l4, .int (σ.i 28 0), .ref 2]) (by decide +kernel) rfl rfl ?_
  refine ab_fin.q_yI (i := .invokevirtual 160) (k := 3) (y := 518) (As := [.ref 2, .int (σ.i 28 0), .int l4]) (rest := []) (M' := (mX2_make, [])) (lv2 := [(0, .ref 2), (1, .int (σ.i 28 0)), (2, .int l4)]) (pc' := 198) (X := K) (by decide +kernel) (ab_cv rfl rfl (conc_get (σ := σ) (F.s t0_2)) ⟨(Nat.le_of_ble_eq_true rfl), (Nat.le_of_ble_eq_true rfl)⟩ rfl) rfl (Nat.le_of_ble_eq_true rfl) rfl rfl (hY_no fun E => rfl) w (fun v3 τ1 F2 w => ?_)
  refine ab_fin.br (c := v3 = 0) (i := .ifCond .eq 32) (off := 32) (t := 230) (pc' := 201) (r := []) (by decide +kernel) rfl (by decide +kernel) rfl (fun q => ?_) (fun q => ?_)
  · replace w := w.1 q
    refine ab_fin.s2 (i := .aload_n 0) (k := 1) (pc' := 231) (lv' := [(0, .ref 40), (1, .int l1), (2, .ref 2), (4, .int l4)]) (st' := [.ref 40]) (by decide +kernel) rfl rfl ?_
    refine ab_fin.s1i (i := .iconst 5) (k := 1) (pc' := 232) (n := 5) (by decide +kernel) rfl (by decide +kernel) rfl ?_
    refine ab_fin.s2 (i := .iload_n 1) (k := 1) (pc' := 233) (lv' := [(0, .ref 40), (1, .int l1), (2, .ref 2), (4, .int l4)]) (st' := [.int l1, .int 5, .ref 40]) (by decide +kernel) rfl rfl ?_
    refine ab_fin.q_yN (i := .invokevirtual 126) (k := 3) (y := 1800) (As := [.ref 40, .int 5, .int l1]) (rest := []) (M' := (mX7_breakRule, [])) (lv2 := [(0, .ref 40), (1, .int 5), (2, .int l1)]) (pc' := 236) (X := K) (by decide +kernel) (ab_cv rfl rfl (conc_get (σ := τ1) (F2.s t0_40)) ⟨(Nat.le_of_ble_eq_true rfl), (Nat.le_of_ble_eq_true rfl)⟩ rfl) rfl (Nat.le_of_ble_eq_true rfl) rfl rfl (hY_no fun E => rfl) w (fun τ4 F5 w => ?_)
    exact ab_fin.q_ret (i := .return_) (k := 1) (v := none) (by decide +kernel) rfl F5 w
  · replace w := w.2 q
    refine ab_fin.s2 (i := .aload_n 0) (k := 1) (pc' := 202) (lv' := [(0, .ref 40), (1, .int l1), (2, .ref 2), (4, .int l4)]) (st' := [.ref 40]) (by decide +kernel) rfl rfl ?_
    refine ab_fin.q_rA (b := 1) (ix := 18) (ci := 8) (k := 0) (pc' := 205) (by decide +kernel) rfl (c_rA (F2.s t0_40) rfl (rC_8_0 F2 t0_40)) rfl ?_
    refine ab_fin.s1i (i := .iconst 0) (k := 1) (pc' := 206) (n := 0) (by decide +kernel) rfl (by decide +kernel) rfl ?_
    refine ab_fin.s2 (i := .aload_n 0) (k := 1) (pc' := 207) (lv' := [(0, .ref 40), (1, .int l1), (2, .ref 2), (4, .int l4)]) (st' := [.ref 40, .int 0, .ref 1]) (by decide +kernel) rfl rfl ?_
    refine ab_fin.q_rA (b := 41) (ix := 12) (ci := 8) (k := 1) (pc' := 210) (by decide +kernel) rfl (c_rA (F2.s t0_40) rfl (rC_8_1 F2 t0_40)) rfl ?_
    obtain ⟨b6, e7, w⟩ := w
    refine ab_fin.q_rA (b := b6) (ix := 115) (ci := 9) (k := 2) (pc' := 213) (by decide +kernel) rfl (c_rA (F2.s t0_41) rfl e7) rfl ?_
    refine ab_fin.s2 (i := .iload_n 1) (k := 1) (pc' := 214) (lv' := [(0, .ref 40), (1, .int l1), (2, .ref 2), (4, .int l4)]) (st' := [.int l1, .ref b6, .int 0, .ref 1]) (by decide +kernel) rfl rfl ?_
    obtain ⟨n9, e8, w⟩ := w
    obtain ⟨e10, w⟩ := w
    refine ab_fin.q_eL (x := (τ1.l b6 l1.toNatClampNeg)) (pc' := 215) (by decide +kernel) (c_eL' e8 e10 rfl) rfl ?_
    refine ab_fin.s2 (i := .aload_n 0) (k := 1) (pc' := 216) (lv' := [(0, .ref 40), (1, .int l1), (2, .ref 2), (4, .int l4)]) (st' := [.ref 40, .long (τ1.l b6 l1.toNatClampNeg), .int 0, .ref 1]) (by decide +kernel) rfl rfl ?_
    refine ab_fin.q_rA (b := 41) (ix := 12) (ci := 8) (k := 1) (pc' := 219) (by decide +kernel) rfl (c_rA (F2.s t0_40) rfl (rC_8_1 F2 t0_40)) rfl ?_
    obtain ⟨b11, e12, w⟩ := w
    refine ab_fin.q_rA (b := b11) (ix := 119) (ci := 9) (k := 3) (pc' := 222) (by decide +kernel) rfl (c_rA (F2.s t0_41) rfl e12) rfl ?_
    refine ab_fin.s2 (i := .iload_n 1) (k := 1) (pc' := 223) (lv' := [(0, .ref 40), (1, .int l1), (2, .ref 2), (4, .int l4)]) (st' := [.int l1, .ref b11, .long (τ1.l b6 l1.toNatClampNeg), .int 0, .ref 1]) (by decide +kernel) rfl rfl ?_
    obtain ⟨n14, e13, w⟩ := w
    obtain ⟨e15, w⟩ := w
    refine ab_fin.q_eL (x := (τ1.l b11 l1.toNatClampNeg)) (pc' := 224) (by decide +kernel) (c_eL' e13 e15 rfl) rfl ?_
    refine ab_fin.q_yN (i := .invokevirtual 164) (k := 3) (y := 2821) (As := [.ref 1, .int 0, .long (τ1.l b6 l1.toNatClampNeg), .long (τ1.l b11 l1.toNatClampNeg)]) (rest := []) (M' := (mX11_addName, [])) (lv2 := [(0, .ref 1), (1, .int 0), (2, .long (τ1.l b6 l1.toNatClampNeg)), (4, .long (τ1.l b11 l1.toNatClampNeg))]) (pc' := 227) (X := K) (by decide +kernel) (ab_cv rfl rfl (conc_get (σ := τ1) (F2.s t0_1)) ⟨(Nat.le_of_ble_eq_true rfl), (Nat.le_of_ble_eq_true rfl)⟩ rfl) rfl (Nat.le_of_ble_eq_true rfl) rfl rfl (hY_no fun E => rfl) w (fun τ16 F17 w => ?_)
    refine ab_fin.s3 (i := .goto 9) (k := 3) (t := 236) (st' := []) (by decide +kernel) (ab_gto (by decide +kernel)) ?_
    exact ab_fin.q_ret (i := .return_) (k := 1) (v := none) (by decide +kernel) rfl F17 w
theorem T_X7_readCall_0 {Z : zT} {d : Nat} {σ : Sg}  {K : kS} (F : FX ΦC σ.sh σ.r) (w : C_X7_take_0 Z d σ 22 (yN K fun τ1 => C_X7_takeNewName_0 Z d τ1 1 (yI K fun v5 τ3 => C_X7_take_0 Z d τ3 4 (yN K fun τ6 => C_X7_take_0 Z d τ6 3 (yN K fun τ8 => ∃ b10, (τ8.r 41 2) = Rf.ptr b10 ∧ (∃ n13, τ8.sh[b10]? = some (Sh.arr 1 n13) ∧ (ib (τ6.i 40 3) n13 ∧ (((lg_cmp (τ8.l b10 ((τ6.i 40 3).toNatClampNeg)) (1 : Int64)) < 0 → C_X7_readCall_57 Z (d + 1) τ8 v5 (τ6.i 40 3) K) ∧ (¬ (lg_cmp (τ8.l b10 ((τ6.i 40 3).toNatClampNeg)) (1 : Int64)) < 0 → ∃ b15, (τ8.r 41 2) = Rf.ptr b15 ∧ (∃ n18, τ8.sh[b15]? = some (Sh.arr 1 n18) ∧ (ib (τ6.i 40 3) n18 ∧ (((lg_cmp (τ8.l b15 ((τ6.i 40 3).toNatClampNeg)) (3 : Int64)) ≤ 0 → C_X7_readCall_63 Z (d + 1) τ8 v5 (τ6.i 40 3) K) ∧ (¬ (lg_cmp (τ8.l b15 ((τ6.i 40 3).toNatClampNeg)) (3 : Int64)) ≤ 0 → C_X7_readCall_57 Z (d + 1) τ8 v5 (τ6.i 40 3) K))))))))))))) : C_X7_readCall_0 Z (d + 1) σ  K := by
  unfold C_X7_readCall_0
  refine ab_fin.s2 (i := .aload_n 0) (k := 1) (pc' := 1) (lv' := [(0, .ref 40)]) (st' := [.ref 40]) (by decide +kernel) rfl rfl ?_
  refine ab_fin.s1i (i := .bipush 22) (k := 2) (pc' := 3) (n := 22) (by decide +kernel) rfl (by decide +kernel) rfl ?_
  refine ab_fin.q_yN (i := .invokevirtual 57) (k := 3) (y := 1799) (As := [.ref 40, .int 22]) (rest := []) (M' := (mX7_take, [])) (lv2 := [(0, .ref 40), (1, .int 22)]) (pc' := 6) (X := K) (by decide +kernel) (ab_cv rfl rfl (conc_get (σ := σ) (F.s t0_40)) ⟨(Nat.le_of_ble_eq_true rfl), (Nat.le_of_ble_eq_true rfl)⟩ rfl) rfl (Nat.le_of_ble_eq_true rfl) rfl rfl (hY_no fun E => rfl) w (fun τ1 F2 w => ?_)
  refine ab_fin.s2 (i := .aload_n 0) (k := 1) (pc' := 7) (lv' := [(0, .ref 40)]) (st' := [.ref 40]) (by decide +kernel) rfl rfl ?_
  refine ab_fin.s1i (i := .iconst 1) (k := 1) (pc' := 8) (n := 1) (by decide +kernel) rfl (by decide +kernel) rfl ?_
  refine ab_fin.q_yI (i := .invokevirtual 138) (k := 3) (y := 1801) (As := [.ref 40, .int 1]) (rest := []) (M' := (mX7_takeNewName, [])) (lv2 := [(0, .ref 40), (1, .int 1)]) (pc' := 11) (X := K) (by decide +kernel) (ab_cv rfl rfl (conc_get (σ := τ1) (F2.s t0_40)) ⟨(Nat.le_of_ble_eq_true rfl), (Nat.le_of_ble_eq_true rfl)⟩ rfl) rfl (Nat.le_of_ble_eq_true rfl) rfl rfl (hY_no fun E => rfl) w (fun v5 τ3 F4 w => ?_)
  refine ab_fin.s2 (i := .istore_n 1) (k := 1) (pc' := 12) (lv' := [(1, .int v5), (0, .ref 40)]) (st' := []) (by decide +kernel) rfl rfl ?_
  refine ab_fin.s2 (i := .aload_n 0) (k := 1) (pc' := 13) (lv' := [(1, .int v5), (0, .ref 40)]) (st' := [.ref 40]) (by decide +kernel) rfl rfl ?_
  refine ab_fin.s1i (i := .iconst 4) (k := 1) (pc' := 14) (n := 4) (by decide +kernel) rfl (by decide +kernel) rfl ?_
  refine ab_fin.q_yN (i := .invokevirtual 57) (k := 3) (y := 1799) (As := [.ref 40, .int 4]) (rest := []) (M' := (mX7_take, [])) (lv2 := [(0, .ref 40), (1, .int 4)]) (pc' := 17) (X := K) (by decide +kernel) (ab_cv rfl rfl (conc_get (σ := τ3) (F4.s t0_40)) ⟨(Nat.le_of_ble_eq_true rfl), (Nat.le_of_ble_eq_true rfl)⟩ rfl) rfl (Nat.le_of_ble_eq_true rfl) rfl rfl (hY_no fun E => rfl) w (fun τ6 F7 w => ?_)
  refine ab_fin.s2 (i := .aload_n 0) (k := 1) (pc' := 18) (lv' := [(1, .int v5), (0, .ref 40)]) (st' := [.ref 40]) (by decide +kernel) rfl rfl ?_
  refine ab_fin.q_rI (x := (τ6.i 40 3)) (ix := 97) (ci := 8) (k := 3) (pc' := 21) (by decide +kernel) rfl (c_rI (F7.s t0_40) rfl) rfl ?_
  refine ab_fin.s2 (i := .istore_n 2) (k := 1) (pc' := 22) (lv' := [(2, .int (τ6.i 40 3)), (1, .int v5), (0, .ref 40)]) (st' := []) (by decide +kernel) rfl rfl ?_
  refine ab_fin.s2 (i := .aload_n 0) (k := 1) (pc' := 23) (lv' := [(2, .int (τ6.i 40 3)), (1, .int v5), (0, .ref 40)]) (st' := [.ref 40]) (by decide +kernel) rfl rfl ?_
  refine ab_fin.s1i (i := .iconst 3) (k := 1) (pc' := 24) (n := 3) (by decide +kernel) rfl (by decide +kernel) rfl ?_
  refine ab_fin.q_yN (i := .invokevirtual 57) (k := 3) (y := 1799) (As := [.ref 40, .int 3]) (rest := []) (M' := (mX7_take, [])) (lv2 := [(0, .ref 40), (1, .int 3)]) (pc' := 27) (X := K) (by decide +kernel) (ab_cv rfl rfl (conc_get (σ := τ6) (F7.s t0_40)) ⟨(Nat.le_of_ble_eq_true rfl), (Nat.le_of_ble_eq_true rfl)⟩ rfl) rfl (Nat.le_of_ble_eq_true rfl) rfl rfl (hY_no fun E => rfl) w (fun τ8 F9 w => ?_)
  refine ab_fin.s2 (i := .aload_n 0) (k := 1) (pc' := 28) (lv' := [(2, .int (τ6.i 40 3)), (1, .int v5), (0, .ref 40)]) (st' := [.ref 40]) (by decide +kernel) rfl rfl ?_
  refine ab_fin.q_rA (b := 41) (ix := 12) (ci := 8) (k := 1) (pc' := 31) (by decide +kernel) rfl (c_rA (F9.s t0_40) rfl (rC_8_1 F9 t0_40)) rfl ?_
  obtain ⟨b10, e11, w⟩ := w
  refine ab_fin.q_rA (b := b10) (ix := 115) (ci := 9) (k := 2) (pc' := 34) (by decide +kernel) rfl (c_rA (F9.s t0_41) rfl e11) rfl ?_
  refine ab_fin.s2 (i := .iload_n 2) (k := 1) (pc' := 35) (lv' := [(2, .int (τ6.i 40 3)), (1, .int v5), (0, .ref 40)]) (st' := [.int (τ6.i 40 3), .ref b10]) (by decide +kernel) rfl rfl ?_
  obtain ⟨n13, e12, w⟩ := w
  obtain ⟨e14, w⟩ := w
  refine ab_fin.q_eL (x := (τ8.l b10 ((τ6.i 40 3).toNatClampNeg))) (pc' := 36) (by decide +kernel) (c_eL' e12 e14 rfl) rfl ?_
  refine ab_fin.s1l (i := .lconst 1) (k := 1) (pc' := 37) (n := 1) (by decide +kernel) rfl (by decide +kernel) rfl ?_
  refine ab_fin.s1 (i := .lcmp) (k := 1) (pc' := 38) (st' := [.int (lg_cmp (τ8.l b10 ((τ6.i 40 3).toNatClampNeg)) (1 : Int64))]) (by decide +kernel) rfl rfl ?_
  refine ab_fin.br (c := (lg_cmp (τ8.l b10 ((τ6.i 40 3).toNatClampNeg)) (1 : Int64)) < 0) (i := .ifCond .lt 19) (off := 19) (t := 57) (pc' := 41) (r := []) (by decide +kernel) rfl (by decide +kernel) rfl (fun q => ?_) (fun q => ?_)
  · replace w := w.1 q
    exact ab_fin.lv ⟨(List.forall_mem_cons.mpr ⟨(List.Mem.tail _ (List.Mem.tail _ (List.Mem.head _))), (List.forall_mem_cons.mpr ⟨(List.Mem.tail _ (List.Mem.head _)), (List.forall_mem_cons.mpr ⟨(List.Mem.head _), (fun _ h => absurd h List.not_mem_nil)⟩)⟩)⟩), (show ([2, 1, 0] : List Nat).Nodup from by decide)⟩ w
  · replace w := w.2 q
    refine ab_fin.s2 (i := .aload_n 0) (k := 1) (pc' := 42) (lv' := [(2, .int (τ6.i 40 3)), (1, .int v5), (0, .ref 40)]) (st' := [.ref 40]) (by decide +kernel) rfl rfl ?_
    refine ab_fin.q_rA (b := 41) (ix := 12) (ci := 8) (k := 1) (pc' := 45) (by decide +kernel) rfl (c_rA (F9.s t0_40) rfl (rC_8_1 F9 t0_40)) rfl ?_
    obtain ⟨b15, e16, w⟩ := w
    refine ab_fin.q_rA (b := b15) (ix := 115) (ci := 9) (k := 2) (pc' := 48) (by decide +kernel) rfl (c_rA (F9.s t0_41) rfl e16) rfl ?_
    refine ab_fin.s2 (i := .iload_n 2) (k := 1) (pc' := 49) (lv' := [(2, .int (τ6.i 40 3)), (1, .int v5), (0, .ref 40)]) (st' := [.int (τ6.i 40 3), .ref b15]) (by decide +kernel) rfl rfl ?_
    obtain ⟨n18, e17, w⟩ := w
    obtain ⟨e19, w⟩ := w
    refine ab_fin.q_eL (x := (τ8.l b15 ((τ6.i 40 3).toNatClampNeg))) (pc' := 50) (by decide +kernel) (c_eL' e17 e19 rfl) rfl ?_
    refine ab_fin.s7 (i := .ldc2_w 168) (k := 3) (pc' := 53) (st' := [.long 3, .long (τ8.l b15 ((τ6.i 40 3).toNatClampNeg))]) (by decide +kernel) rfl rfl ?_
    refine ab_fin.s1 (i := .lcmp) (k := 1) (pc' := 54) (st' := [.int (lg_cmp (τ8.l b15 ((τ6.i 40 3).toNatClampNeg)) (3 : Int64))]) (by decide +kernel) rfl rfl ?_
    refine ab_fin.br (c := (lg_cmp (τ8.l b15 ((τ6.i 40 3).toNatClampNeg)) (3 : Int64)) ≤ 0) (i := .ifCond .le 9) (off := 9) (t := 63) (pc' := 57) (r := []) (by decide +kernel) rfl (by decide +kernel) rfl (fun q => ?_) (fun q => ?_)
    · replace w := w.1 q
      exact ab_fin.lv ⟨(List.forall_mem_cons.mpr ⟨(List.Mem.tail _ (List.Mem.tail _ (List.Mem.head _))), (List.forall_mem_cons.mpr ⟨(List.Mem.tail _ (List.Mem.head _)), (List.forall_mem_cons.mpr ⟨(List.Mem.head _), (fun _ h => absurd h List.not_mem_nil)⟩)⟩)⟩), (show ([2, 1, 0] : List Nat).Nodup from by decide)⟩ w
    · replace w := w.2 q
      exact ab_fin.lv ⟨(List.forall_mem_cons.mpr ⟨(List.Mem.tail _ (List.Mem.tail _ (List.Mem.head _))), (List.forall_mem_cons.mpr ⟨(List.Mem.tail _ (List.Mem.head _)), (List.forall_mem_cons.mpr ⟨(List.Mem.head _), (fun _ h => absurd h List.not_mem_nil)⟩)⟩)⟩), (show ([2, 1, 0] : List Nat).Nodup from by decide)⟩ w
theorem T_X7_readCall_57 {Z : zT} {d : Nat} {σ : Sg} {l1 : Int32} {l2 : Int32} {K : kS} (F : FX ΦC σ.sh σ.r) (w : C_X7_breakRule_0 Z d σ 4 l2 (yN K fun τ1 => C_X7_readCall_63 Z (d + 1) τ1 l1 l2 K)) : C_X7_readCall_57 Z (d + 1) σ l1 l2 K := by
  unfold C_X7_readCall_57
  refine ab_fin.s2 (i := .aload_n 0) (k := 1) (pc' := 58) (lv' := [(0, .ref 40), (1, .int l1), (2, .int l2)]) (st' := [.ref 40]) (by decide +kernel) rfl rfl ?_
  refine ab_fin.s1i (i := .iconst 4) (k := 1) (pc' := 59) (n := 4) (by decide +kernel) rfl (by decide +kernel) rfl ?_
  refine ab_fin.s2 (i := .iload_n 2) (k := 1) (pc' := 60) (lv' := [(0, .ref 40), (1, .int l1), (2, .int l2)]) (st' := [.int l2, .int 4, .ref 40]) (by decide +kernel) rfl rfl ?_
  refine ab_fin.q_yN (i := .invokevirtual 126) (k := 3) (y := 1800) (As := [.ref 40, .int 4, .int l2]) (rest := []) (M' := (mX7_breakRule, [])) (lv2 := [(0, .ref 40), (1, .int 4), (2, .int l2)]) (pc' := 63) (X := K) (by decide +kernel) (ab_cv rfl rfl (conc_get (σ := σ) (F.s t0_40)) ⟨(Nat.le_of_ble_eq_true rfl), (Nat.le_of_ble_eq_true rfl)⟩ rfl) rfl (Nat.le_of_ble_eq_true rfl) rfl rfl (hY_no fun E => rfl) w (fun τ1 F2 w => ?_)
  exact ab_fin.lv ⟨(List.forall_mem_cons.mpr ⟨(List.Mem.head _), (List.forall_mem_cons.mpr ⟨(List.Mem.tail _ (List.Mem.head _)), (List.forall_mem_cons.mpr ⟨(List.Mem.tail _ (List.Mem.tail _ (List.Mem.head _))), (fun _ h => absurd h List.not_mem_nil)⟩)⟩)⟩), (show ([0, 1, 2] : List Nat).Nodup from by decide)⟩ w
theorem T_X7_readCall_63 {Z : zT} {d : Nat} {σ : Sg} {l1 : Int32} {l2 : Int32} {K : kS} (F : FX ΦC σ.sh σ.r) (w : C_X7_take_0 Z d σ 5 (yN K fun τ1 => C_X7_sign_0 Z d τ1  (yI K fun v5 τ3 => C_X7_sign_0 Z d τ3  (yI K fun v8 τ6 => (v8 < 34 → C_X7_readCall_102 Z (d + 1) τ6 l1 l2 (v5 - (34 : Int32)) K) ∧ (¬ v8 < 34 → C_X7_sign_0 Z d τ6  (yI K fun v11 τ9 => (38 < v11 → C_X7_readCall_102 Z (d + 1) τ9 l1 l2 (v5 - (34 : Int32)) K) ∧ (¬ 38 < v11 → C_X7_sign_0 Z d τ9  (yI K fun v14 τ12 => C_X7_readCall_103 Z (d + 1) τ12 l1 l2 (v5 - (34 : Int32)) v14 K)))))))) : C_X7_readCall_63 Z (d + 1) σ l1 l2 K := by
  unfold C_X7_readCall_63
  refine ab_fin.s2 (i := .aload_n 0) (k := 1) (pc' := 64) (lv' := [(0, .ref 40), (1, .int l1), (2, .int l2)]) (st' := [.ref 40]) (by decide +kernel) rfl rfl ?_
  refine ab_fin.s1i (i := .iconst 5) (k := 1) (pc' := 65) (n := 5) (by decide +kernel) rfl (by decide +kernel) rfl ?_
  refine ab_fin.q_yN (i := .invokevirtual 57) (k := 3) (y := 1799) (As := [.ref 40, .int 5]) (rest := []) (M' := (mX7_take, [])) (lv2 := [(0, .ref 40), (1, .int 5)]) (pc' := 68) (X := K) (by decide +kernel) (ab_cv rfl rfl (conc_get (σ := σ) (F.s t0_40)) ⟨(Nat.le_of_ble_eq_true rfl), (Nat.le_of_ble_eq_true rfl)⟩ rfl) rfl (Nat.le_of_ble_eq_true rfl) rfl rfl (hY_no fun E => rfl) w (fun τ1 F2 w => ?_)
  refine ab_fin.s2 (i := .aload_n 0) (k := 1) (pc' := 69) (lv' := [(0, .ref 40), (1, .int l1), (2, .int l2)]) (st' := [.ref 40]) (by decide +kernel) rfl rfl ?_
  refine ab_fin.q_yI (i := .invokevirtual 41) (k := 3) (y := 1798) (As := [.ref 40]) (rest := []) (M' := (mX7_sign, [])) (lv2 := [(0, .ref 40)]) (pc' := 72) (X := K) (by decide +kernel) (ab_cv rfl rfl (conc_get (σ := τ1) (F2.s t0_40)) ⟨(Nat.le_of_ble_eq_true rfl), (Nat.le_of_ble_eq_true rfl)⟩ rfl) rfl (Nat.le_of_ble_eq_true rfl) rfl rfl (hY_no fun E => rfl) w (fun v5 τ3 F4 w => ?_)
  refine ab_fin.s1i (i := .bipush 34) (k := 2) (pc' := 74) (n := 34) (by decide +kernel) rfl (by decide +kernel) rfl ?_
  refine ab_fin.s1 (i := .isub) (k := 1) (pc' := 75) (st' := [.int (v5 - (34 : Int32))]) (by decide +kernel) rfl rfl ?_
  refine ab_fin.s2 (i := .istore_n 3) (k := 1) (pc' := 76) (lv' := [(3, .int (v5 - (34 : Int32))), (0, .ref 40), (1, .int l1), (2, .int l2)]) (st' := []) (by decide +kernel) rfl rfl ?_
  refine ab_fin.s2 (i := .aload_n 0) (k := 1) (pc' := 77) (lv' := [(3, .int (v5 - (34 : Int32))), (0, .ref 40), (1, .int l1), (2, .int l2)]) (st' := [.ref 40]) (by decide +kernel) rfl rfl ?_
  refine ab_fin.s2 (i := .aload_n 0) (k := 1) (pc' := 78) (lv' := [(3, .int (v5 - (34 : Int32))), (0, .ref 40), (1, .int l1), (2, .int l2)]) (st' := [.ref 40, .ref 40]) (by decide +kernel) rfl rfl ?_
  refine ab_fin.q_yI (i := .invokevirtual 41) (k := 3) (y := 1798) (As := [.ref 40]) (rest := [.ref 40]) (M' := (mX7_sign, [])) (lv2 := [(0, .ref 40)]) (pc' := 81) (X := K) (by decide +kernel) (ab_cv rfl rfl (conc_get (σ := τ3) (F4.s t0_40)) ⟨(Nat.le_of_ble_eq_true rfl), (Nat.le_of_ble_eq_true rfl)⟩ rfl) rfl (Nat.le_of_ble_eq_true rfl) rfl rfl (hY_no fun E => rfl) w (fun v8 τ6 F7 w => ?_)
  refine ab_fin.s1i (i := .bipush 34) (k := 2) (pc' := 83) (n := 34) (by decide +kernel) rfl (by decide +kernel) rfl ?_
  refine ab_fin.br (c := v8 < 34) (i := .if_icmp .lt 19) (off := 19) (t := 102) (pc' := 86) (r := [.ref 40]) (by decide +kernel) rfl (by decide +kernel) rfl (fun q => ?_) (fun q => ?_)
  · replace w := w.1 q
    exact ab_fin.lv ⟨(List.forall_mem_cons.mpr ⟨(List.Mem.tail _ (List.Mem.head _)), (List.forall_mem_cons.mpr ⟨(List.Mem.tail _ (List.Mem.tail _ (List.Mem.head _))), (List.forall_mem_cons.mpr ⟨(List.Mem.tail _ (List.Mem.tail _ (List.Mem.tail _ (List.Mem.head _)))), (List.forall_mem_cons.mpr ⟨(List.Mem.head _), (fun _ h => absurd h List.not_mem_nil)⟩)⟩)⟩)⟩), (show ([3, 0, 1, 2] : List Nat).Nodup from by decide)⟩ w
  · replace w := w.2 q
    refine ab_fin.s2 (i := .aload_n 0) (k := 1) (pc' := 87) (lv' := [(3, .int (v5 - (34 : Int32))), (0, .ref 40), (1, .int l1), (2, .int l2)]) (st' := [.ref 40, .ref 40]) (by decide +kernel) rfl rfl ?_
    refine ab_fin.q_yI (i := .invokevirtual 41) (k := 3) (y := 1798) (As := [.ref 40]) (rest := [.ref 40]) (M' := (mX7_sign, [])) (lv2 := [(0, .ref 40)]) (pc' := 90) (X := K) (by decide +kernel) (ab_cv rfl rfl (conc_get (σ := τ6) (F7.s t0_40)) ⟨(Nat.le_of_ble_eq_true rfl), (Nat.le_of_ble_eq_true rfl)⟩ rfl) rfl (Nat.le_of_ble_eq_true rfl) rfl rfl (hY_no fun E => rfl) w (fun v11 τ9 F10 w => ?_)
    refine ab_fin.s1i (i := .bipush 38) (k := 2) (pc' := 92) (n := 38) (by decide +kernel) rfl (by decide +kernel) rfl ?_
    refine ab_fin.br (c := 38 < v11) (i := .if_icmp .gt 10) (off := 10) (t := 102) (pc' := 95) (r := [.ref 40]) (by decide +kernel) rfl (by decide +kernel) rfl (fun q => ?_) (fun q => ?_)
    · replace w := w.1 q
      exact ab_fin.lv ⟨(List.forall_mem_cons.mpr ⟨(List.Mem.tail _ (List.Mem.head _)), (List.forall_mem_cons.mpr ⟨(List.Mem.tail _ (List.Mem.tail _ (List.Mem.head _))), (List.forall_mem_cons.mpr ⟨(List.Mem.tail _ (List.Mem.tail _ (List.Mem.tail _ (List.Mem.head _)))), (List.forall_mem_cons.mpr ⟨(List.Mem.head _), (fun _ h => absurd h List.not_mem_nil)⟩)⟩)⟩)⟩), (show ([3, 0, 1, 2] : List Nat).Nodup from by decide)⟩ w
    · replace w := w.2 q
      refine ab_fin.s2 (i := .aload_n 0) (k := 1) (pc' := 96) (lv' := [(3, .int (v5 - (34 : Int32))), (0, .ref 40), (1, .int l1), (2, .int l2)]) (st' := [.ref 40, .ref 40]) (by decide +kernel) rfl rfl ?_
      refine ab_fin.q_yI (i := .invokevirtual 41) (k := 3) (y := 1798) (As := [.ref 40]) (rest := [.ref 40]) (M' := (mX7_sign, [])) (lv2 := [(0, .ref 40)]) (pc' := 99) (X := K) (by decide +kernel) (ab_cv rfl rfl (conc_get (σ := τ9) (F10.s t0_40)) ⟨(Nat.le_of_ble_eq_true rfl), (Nat.le_of_ble_eq_true rfl)⟩ rfl) rfl (Nat.le_of_ble_eq_true rfl) rfl rfl (hY_no fun E => rfl) w (fun v14 τ12 F13 w => ?_)
      refine ab_fin.s3 (i := .goto 4) (k := 3) (t := 103) (st' := [.int v14, .ref 40]) (by decide +kernel) (ab_gto (by decide +kernel)) ?_
      exact ab_fin.lv ⟨(List.forall_mem_cons.mpr ⟨(List.Mem.tail _ (List.Mem.head _)), (List.forall_mem_cons.mpr ⟨(List.Mem.tail _ (List.Mem.tail _ (List.Mem.head _))), (List.forall_mem_cons.mpr ⟨(List.Mem.tail _ (List.Mem.tail _ (List.Mem.tail _ (List.Mem.head _)))), (List.forall_mem_cons.mpr ⟨(List.Mem.head _), (fun _ h => absurd h List.not_mem_nil)⟩)⟩)⟩)⟩), (show ([3, 0, 1, 2] : List Nat).Nodup from by decide)⟩ w
theorem T_X7_readCall_102 {Z : zT} {d : Nat} {σ : Sg} {l1 : Int32} {l2 : Int32} {l3 : Int32} {K : kS} (F : FX ΦC σ.sh σ.r) (w : C_X7_readCall_103 Z (d + 1) σ l1 l2 l3 (-1) K) : C_X7_readCall_102 Z (d + 1) σ l1 l2 l3 K := by
  unfold C_X7_readCall_102
  refine ab_fin.s1i (i := .iconst (-1)) (k := 1) (pc' := 103) (n := (-1)) (by decide +kernel) rfl (by decide +kernel) rfl ?_
  exact ab_fin.lv ⟨(List.forall_mem_cons.mpr ⟨(List.Mem.head _), (List.forall_mem_cons.mpr ⟨(List.Mem.tail _ (List.Mem.head _)), (List.forall_mem_cons.mpr ⟨(List.Mem.tail _ (List.Mem.tail _ (List.Mem.head _))), (List.forall_mem_cons.mpr ⟨(List.Mem.tail _ (List.Mem.tail _ (List.Mem.tail _ (List.Mem.head _)))), (fun _ h => absurd h List.not_mem_nil)⟩)⟩)⟩)⟩), (show ([0, 1, 2, 3] : List Nat).Nodup from by decide)⟩ w
theorem T_X7_readCall_103 {Z : zT} {d : Nat} {σ : Sg} {l1 : Int32} {l2 : Int32} {l3 : Int32} {s1 : Int32} {K : kS} (F : FX ΦC σ.sh σ.r) (w : C_X7_take_0 Z d σ s1 (yN K fun τ1 => C_X7_sign_0 Z d τ1  (yI K fun v5 τ3 => C_X7_sign_0 Z d τ3  (yI K fun v8 τ6 => (v8 < 39 → C_X7_readCall_141 Z (d + 1) τ6 l1 l2 l3 (v5 - (39 : Int32)) K) ∧ (¬ v8 < 39 → C_X7_sign_0 Z d τ6  (yI K fun v11 τ9 => (41 < v11 → C_X7_readCall_141 Z (d + 1) τ9 l1 l2 l3 (v5 - (39 : Int32)) K) ∧ (¬ 41 < v11 → C_X7_sign_0 Z d τ9  (yI K fun v14 τ12 => C_X7_readCall_142 Z (d + 1) τ12 l1 l2 l3 (v5 - (39 : Int32)) v14 K)))))))) : C_X7_readCall_103 Z (d + 1) σ l1 l2 l3 s1 K := by
  unfold C_X7_readCall_103
  refine ab_fin.q_yN (i := .invokevirtual 57) (k := 3) (y := 1799) (As := [.ref 40, .int s1]) (rest := []) (M' := (mX7_take, [])) (lv2 := [(0, .ref 40), (1, .int s1)]) (pc' := 106) (X := K) (by decide +kernel) (ab_cv rfl rfl (conc_get (σ := σ) (F.s t0_40)) ⟨(Nat.le_of_ble_eq_true rfl), (Nat.le_of_ble_eq_true rfl)⟩ rfl) rfl (Nat.le_of_ble_eq_true rfl) rfl rfl (hY_no fun E => rfl) w (fun τ1 F2 w => ?_)
  refine ab_fin.s2 (i := .aload_n 0) (k := 1) (pc' := 107) (lv' := [(0, .ref 40), (1, .int l1), (2, .int l2), (3, .int l3)]) (st' := [.ref 40]) (by decide +kernel) rfl rfl ?_
  refine ab_fin.q_yI (i := .invokevirtual 41) (k := 3) (y := 1798) (As := [.ref 40]) (rest := []) (M' := (mX7_sign, [])) (lv2 := [(0, .ref 40)]) (pc' := 110) (X := K) (by decide +kernel) (ab_cv rfl rfl (conc_get (σ := τ1) (F2.s t0_40)) ⟨(Nat.le_of_ble_eq_true rfl), (Nat.le_of_ble_eq_true rfl)⟩ rfl) rfl (Nat.le_of_ble_eq_true rfl) rfl rfl (hY_no fun E => rfl) w (fun v5 τ3 F4 w => ?_)
  refine ab_fin.s1i (i := .bipush 39) (k := 2) (pc' := 112) (n := 39) (by decide +kernel) rfl (by decide +kernel) rfl ?_
  refine ab_fin.s1 (i := .isub) (k := 1) (pc' := 113) (st' := [.int (v5 - (39 : Int32))]) (by decide +kernel) rfl rfl ?_
  refine ab_fin.s2 (i := .istore 4) (k := 2) (pc' := 115) (lv' := [(4, .int (v5 - (39 : Int32))), (0, .ref 40), (1, .int l1), (2, .int l2), (3, .int l3)]) (st' := []) (by decide +kernel) rfl rfl ?_
  refine ab_fin.s2 (i := .aload_n 0) (k := 1) (pc' := 116) (lv' := [(4, .int (v5 - (39 : Int32))), (0, .ref 40), (1, .int l1), (2, .int l2), (3, .int l3)]) (st' := [.ref 40]) (by decide +kernel) rfl rfl ?_
  refine ab_fin.s2 (i := .aload_n 0) (k := 1) (pc' := 117) (lv' := [(4, .int (v5 - (39 : Int32))), (0, .ref 40), (1, .int l1), (2, .int l2), (3, .int l3)]) (st' := [.ref 40, .ref 40]) (by decide +kernel) rfl rfl ?_
  refine ab_fin.q_yI (i := .invokevirtual 41) (k := 3) (y := 1798) (As := [.ref 40]) (rest := [.ref 40]) (M' := (mX7_sign, [])) (lv2 := [(0, .ref 40)]) (pc' := 120) (X := K) (by decide +kernel) (ab_cv rfl rfl (conc_get (σ := τ3) (F4.s t0_40)) ⟨(Nat.le_of_ble_eq_true rfl), (Nat.le_of_ble_eq_true rfl)⟩ rfl) rfl (Nat.le_of_ble_eq_true rfl) rfl rfl (hY_no fun E => rfl) w (fun v8 τ6 F7 w => ?_)
  refine ab_fin.s1i (i := .bipush 39) (k := 2) (pc' := 122) (n := 39) (by decide +kernel) rfl (by decide +kernel) rfl ?_
  refine ab_fin.br (c := v8 < 39) (i := .if_icmp .lt 19) (off := 19) (t := 141) (pc' := 125) (r := [.ref 40]) (by decide +kernel) rfl (by decide +kernel) rfl (fun q => ?_) (fun q => ?_)
  · replace w := w.1 q
    exact ab_fin.lv ⟨(List.forall_mem_cons.mpr ⟨(List.Mem.tail _ (List.Mem.head _)), (List.forall_mem_cons.mpr ⟨(List.Mem.tail _ (List.Mem.tail _ (List.Mem.head _))), (List.forall_mem_cons.mpr ⟨(List.Mem.tail _ (List.Mem.tail _ (List.Mem.tail _ (List.Mem.head _)))), (List.forall_mem_cons.mpr ⟨(List.Mem.tail _ (List.Mem.tail _ (List.Mem.tail _ (List.Mem.tail _ (List.Mem.head _))))), (List.forall_mem_cons.mpr ⟨(List.Mem.head _), (fun _ h => absurd h List.not_mem_nil)⟩)⟩)⟩)⟩)⟩), (show ([4, 0, 1, 2, 3] : List Nat).Nodup from by decide)⟩ w
  · replace w := w.2 q
    refine ab_fin.s2 (i := .aload_n 0) (k := 1) (pc' := 126) (lv' := [(4, .int (v5 - (39 : Int32))), (0, .ref 40), (1, .int l1), (2, .int l2), (3, .int l3)]) (st' := [.ref 40, .ref 40]) (by decide +kernel) rfl rfl ?_
    refine ab_fin.q_yI (i := .invokevirtual 41) (k := 3) (y := 1798) (As := [.ref 40]) (rest := [.ref 40]) (M' := (mX7_sign, [])) (lv2 := [(0, .ref 40)]) (pc' := 129) (X := K) (by decide +kernel) (ab_cv rfl rfl (conc_get (σ := τ6) (F7.s t0_40)) ⟨(Nat.le_of_ble_eq_true rfl), (Nat.le_of_ble_eq_true rfl)⟩ rfl) rfl (Nat.le_of_ble_eq_true rfl) rfl rfl (hY_no fun E => rfl) w (fun v11 τ9 F10 w => ?_)
    refine ab_fin.s1i (i := .bipush 41) (k := 2) (pc' := 131) (n := 41) (by decide +kernel) rfl (by decide +kernel) rfl ?_
    refine ab_fin.br (c := 41 < v11) (i := .if_icmp .gt 10) (off := 10) (t := 141) (pc' := 134) (r := [.ref 40]) (by decide +kernel) rfl (by decide +kernel) rfl (fun q => ?_) (fun q => ?_)
    · replace w := w.1 q
      exact ab_fin.lv ⟨(List.forall_mem_cons.mpr ⟨(List.Mem.tail _ (List.Mem.head _)), (List.forall_mem_cons.mpr ⟨(List.Mem.tail _ (List.Mem.tail _ (List.Mem.head _))), (List.forall_mem_cons.mpr ⟨(List.Mem.tail _ (List.Mem.tail _ (List.Mem.tail _ (List.Mem.head _)))), (List.forall_mem_cons.mpr ⟨(List.Mem.tail _ (List.Mem.tail _ (List.Mem.tail _ (List.Mem.tail _ (List.Mem.head _))))), (List.forall_mem_cons.mpr ⟨(List.Mem.head _), (fun _ h => absurd h List.not_mem_nil)⟩)⟩)⟩)⟩)⟩), (show ([4, 0, 1, 2, 3] : List Nat).Nodup from by decide)⟩ w
    · replace w := w.2 q
      refine ab_fin.s2 (i := .aload_n 0) (k := 1) (pc' := 135) (lv' := [(4, .int (v5 - (39 : Int32))), (0, .ref 40), (1, .int l1), (2, .int l2), (3, .int l3)]) (st' := [.ref 40, .ref 40]) (by decide +kernel) rfl rfl ?_
      refine ab_fin.q_yI (i := .invokevirtual 41) (k := 3) (y := 1798) (As := [.ref 40]) (rest := [.ref 40]) (M' := (mX7_sign, [])) (lv2 := [(0, .ref 40)]) (pc' := 138) (X := K) (by decide +kernel) (ab_cv rfl rfl (conc_get (σ := τ9) (F10.s t0_40)) ⟨(Nat.le_of_ble_eq_true rfl), (Nat.le_of_ble_eq_true rfl)⟩ rfl) rfl (Nat.le_of_ble_eq_true rfl) rfl rfl (hY_no fun E => rfl) w (fun v14 τ12 F13 w => ?_)
      refine ab_fin.s3 (i := .goto 4) (k := 3) (t := 142) (st' := [.int v14, .ref 40]) (by decide +kernel) (ab_gto (by decide +kernel)) ?_
      exact ab_fin.lv ⟨(List.forall_mem_cons.mpr ⟨(List.Mem.tail _ (List.Mem.head _)), (List.forall_mem_cons.mpr ⟨(List.Mem.tail _ (List.Mem.tail _ (List.Mem.head _))), (List.forall_mem_cons.mpr ⟨(List.Mem.tail _ (List.Mem.tail _ (List.Mem.tail _ (List.Mem.head _)))), (List.forall_mem_cons.mpr ⟨(List.Mem.tail _ (List.Mem.tail _ (List.Mem.tail _ (List.Mem.tail _ (List.Mem.head _))))), (List.forall_mem_cons.mpr ⟨(List.Mem.head _), (fun _ h => absurd h List.not_mem_nil)⟩)⟩)⟩)⟩)⟩), (show ([4, 0, 1, 2, 3] : List Nat).Nodup from by decide)⟩ w
theorem T_X7_readCall_141 {Z : zT} {d : Nat} {σ : Sg} {l1 : Int32} {l2 : Int32} {l3 : Int32} {l4 : Int32} {K : kS} (F : FX ΦC σ.sh σ.r) (w : C_X7_readCall_142 Z (d + 1) σ l1 l2 l3 l4 (-1) K) : C_X7_readCall_141 Z (d + 1) σ l1 l2 l3 l4 K := by
  unfold C_X7_readCall_141
  refine ab_fin.s1i (i := .iconst (-1)) (k := 1) (pc' := 142) (n := (-1)) (by decide +kernel) rfl (by decide +kernel) rfl ?_
  exact ab_fin.lv ⟨(List.forall_mem_cons.mpr ⟨(List.Mem.head _), (List.forall_mem_cons.mpr ⟨(List.Mem.tail _ (List.Mem.head _)), (List.forall_mem_cons.mpr ⟨(List.Mem.tail _ (List.Mem.tail _ (List.Mem.head _))), (List.forall_mem_cons.mpr ⟨(List.Mem.tail _ (List.Mem.tail _ (List.Mem.tail _ (List.Mem.head _)))), (List.forall_mem_cons.mpr ⟨(List.Mem.tail _ (List.Mem.tail _ (List.Mem.tail _ (List.Mem.tail _ (List.Mem.head _))))), (fun _ h => absurd h List.not_mem_nil)⟩)⟩)⟩)⟩)⟩), (show ([0, 1, 2, 3, 4] : List Nat).Nodup from by decide)⟩ w
theorem T_X7_readCall_142 {Z : zT} {d : Nat} {σ : Sg} {l1 : Int32} {l2 : Int32} {l3 : Int32} {l4 : Int32} {s1 : Int32} {K : kS} (F : FX ΦC σ.sh σ.r) (w : C_X7_take_0 Z d σ s1 (yN K fun τ1 => C_X7_take_0 Z d τ1 7 (yN K fun τ3 => C_X7_isClean_0 Z d τ3  (yI K fun v7 τ5 => (v7 = 0 → K (.inl none) τ5) ∧ (¬ v7 = 0 → ∃ b8, (τ5.r 41 2) = Rf.ptr b8 ∧ (∃ n11, τ5.sh[b8]? = some (Sh.arr 1 n11) ∧ (ib l2 n11 ∧ (ib (τ5.i 28 1) 24 ∧ (ib (τ5.i 28 1) 24 ∧ (ib (τ5.i 28 1) 24 ∧ (∃ b16, (τ5.r 41 2) = Rf.ptr b16 ∧ (∃ n19, τ5.sh[b16]? = some (Sh.arr 1 n19) ∧ (ib l1 n19 ∧ (∃ b21, (τ5.r 41 3) = Rf.ptr b21 ∧ (∃ n24, τ5.sh[b21]? = some (Sh.arr 1 n24) ∧ (ib l1 n24 ∧ (C_X11_addName_0 Z d (((τ5.wi 31 ((τ5.i 28 1).toNatClampNeg) ((Int64.toInt32 (τ5.l b8 l2.toNatClampNeg)))).wi 32 ((τ5.i 28 1).toNatClampNeg) l3).wi 33 ((τ5.i 28 1).toNatClampNeg) l4) 1 (τ5.l b16 l1.toNatClampNeg) (τ5.l b21 l1.toNatClampNeg) (yN K fun τ26 => K (.inl none) τ26)))))))))))))))))) : C_X7_readCall_142 Z (d + 1) σ l1 l2 l3 l4 s1 K := by
  unfold C_X7_readCall_142
  refine ab_fin.q_yN (i := .invokevirtual 57) (k := 3) (y := 1799) (As := [.ref 40, .int s1]) (rest := []) (M' := (mX7_take, [])) (lv2 := [(0, .ref 40), (1, .int s1)]) (pc' := 145) (X := K) (by decide +kernel) (ab_cv rfl rfl (conc_get (σ := σ) (F.s t0_40)) ⟨(Nat.le_of_ble_eq_true rfl), (Nat.le_of_ble_eq_true rfl)⟩ rfl) rfl (Nat.le_of_ble_eq_true rfl) rfl rfl (hY_no fun E => rfl) w (fun τ1 F2 w => ?_)
  refine ab_fin.s2 (i := .aload_n 0) (k := 1) (pc' := 146) (lv' := [(0, .ref 40), (1, .int l1), (2, .int l2), (3, .int l3), (4, .int l4)]) (st' := [.ref 40]) (by decide +kernel) rfl rfl ?_
  refine ab_fin.s1i (i := .bipush 7) (k := 2) (pc' := 148) (n := 7) (by decide +kernel) rfl (by decide +kernel) rfl ?_
  refine ab_fin.q_yN (i := .invokevirtual 57) (k := 3) (y := 1799) (As := [.ref 40, .int 7]) (rest := []) (M' := (mX7_take, [])) (lv2 := [(0, .ref 40), (1, .int 7)]) (pc' := 151) (X := K) (by decide +kernel) (ab_cv rfl rfl (conc_get (σ := τ1) (F2.s t0_40)) ⟨(Nat.le_of_ble_eq_true rfl), (Nat.le_of_ble_eq_true rfl)⟩ rfl) rfl (Nat.le_of_ble_eq_true rfl) rfl rfl (hY_no fun E => rfl) w (fun τ3 F4 w => ?_)
  refine ab_fin.s2 (i := .aload_n 0) (k := 1) (pc' := 152) (lv' := [(0, .ref 40), (1, .int l1), (2, .int l2), (3, .int l3), (4, .int l4)]) (st' := [.ref 40]) (by decide +kernel) rfl rfl ?_
  refine ab_fin.q_yI (i := .invokevirtual 61) (k := 3) (y := 1796) (As := [.ref 40]) (rest := []) (M' := (mX7_isClean, [])) (lv2 := [(0, .ref 40)]) (pc' := 155) (X := K) (by decide +kernel) (ab_cv rfl rfl (conc_get (σ := τ3) (F4.s t0_40)) ⟨(Nat.le_of_ble_eq_true rfl), (Nat.le_of_ble_eq_true rfl)⟩ rfl) rfl (Nat.le_of_ble_eq_true rfl) rfl rfl (hY_no fun E => rfl) w (fun v7 τ5 F6 w => ?_)
  refine ab_fin.br (c := v7 = 0) (i := .ifCond .eq 83) (off := 83) (t := 238) (pc' := 158) (r := []) (by decide +kernel) rfl (by decide +kernel) rfl (fun q => ?_) (fun q => ?_)
  · replace w := w.1 q
    exact ab_fin.q_ret (i := .return_) (k := 1) (v := none) (by decide +kernel) rfl F6 w
  · replace w := w.2 q
    refine ab_fin.s2 (i := .aload_n 0) (k := 1) (pc' := 159) (lv' := [(0, .ref 40), (1, .int l1), (2, .int l2), (3, .int l3), (4, .int l4)]) (st' := [.ref 40]) (by decide +kernel) rfl rfl ?_
    refine ab_fin.q_rA (b := 1) (ix := 18) (ci := 8) (k := 0) (pc' := 162) (by decide +kernel) rfl (c_rA (F6.s t0_40) rfl (rC_8_0 F6 t0_40)) rfl ?_
    refine ab_fin.q_rA (b := 28) (ix := 90) (ci := 12) (k := 3) (pc' := 165) (by decide +kernel) rfl (c_rA (F6.s t0_1) rfl (rC_12_3 F6 t0_1)) rfl ?_
    refine ab_fin.s1i (i := .iconst 1) (k := 1) (pc' := 166) (n := 1) (by decide +kernel) rfl (by decide +kernel) rfl ?_
    refine ab_fin.q_eI (x := (τ5.i 28 1)) (pc' := 167) (by decide +kernel) (c_eI' (F6.s t0_28) (show ib (1 : Int32) 4 by decide +kernel) (by decide +kernel)) rfl ?_
    refine ab_fin.s2 (i := .istore 5) (k := 2) (pc' := 169) (lv' := [(5, .int (τ5.i 28 1)), (0, .ref 40), (1, .int l1), (2, .int l2), (3, .int l3), (4, .int l4)]) (st' := []) (by decide +kernel) rfl rfl ?_
    refine ab_fin.s2 (i := .aload_n 0) (k := 1) (pc' := 170) (lv' := [(5, .int (τ5.i 28 1)), (0, .ref 40), (1, .int l1), (2, .int l2), (3, .int l3), (4, .int l4)]) (st' := [.ref 40]) (by decide +kernel) rfl rfl ?_
    refine ab_fin.q_rA (b := 1) (ix := 18) (ci := 8) (k := 0) (pc' := 173) (by decide +kernel) rfl (c_rA (F6.s t0_40) rfl (rC_8_0 F6 t0_40)) rfl ?_
    refine ab_fin.q_rA (b := 31) (ix := 170) (ci := 12) (k := 6) (pc' := 176) (by decide +kernel) rfl (c_rA (F6.s t0_1) rfl (rC_12_6 F6 t0_1)) rfl ?_
    refine ab_fin.s2 (i := .iload 5) (k := 2) (pc' := 178) (lv' := [(5, .int (τ5.i 28 1)), (0, .ref 40), (1, .int l1), (2, .int l2), (3, .int l3), (4, .int l4)]) (st' := [.int (τ5.i 28 1), .ref 31]) (by decide +kernel) rfl rfl ?_
    refine ab_fin.s2 (i := .aload_n 0) (k := 1) (pc' := 179) (lv' := [(5, .int (τ5.i 28 1)), (0, .ref 40), (1, .int l1), (2, .int l2), (3, .int l3), (4, .int l4)]) (st' := [.ref 40, .int (τ5.i 28 1), .ref 31]) (by decide +kernel) rfl rfl ?_
    refine ab_fin.q_rA (b := 41) (ix := 12) (ci := 8) (k := 1) (pc' := 182) (by decide +kernel) rfl (c_rA (F6.s t0_40) rfl (rC_8_1 F6 t0_40)) rfl ?_
    obtain ⟨b8, e9, w⟩ := w
    refine ab_fin.q_rA (b := b8) (ix := 115) (ci := 9) (k := 2) (pc' := 185) (by decide +kernel) rfl (c_rA (F6.s t0_41) rfl e9) rfl ?_
    refine ab_fin.s2 (i := .iload_n 2) (k := 1) (pc' := 186) (lv' := [(5, .int (τ5.i 28 1)), (0, .ref 40), (1, .int l1), (2, .int l2), (3, .int l3), (4, .int l4)]) (st' := [.int l2, .ref b8, .int (τ5.i 28 1), .ref 31]) (by decide +kernel) rfl rfl ?_
    obtain ⟨n11, e10, w⟩ := w
    obtain ⟨e12, w⟩ := w
    refine ab_fin.q_eL (x := (τ5.l b8 l2.toNatClampNeg)) (pc' := 187) (by decide +kernel) (c_eL' e10 e12 rfl) rfl ?_
    refine ab_fin.s1 (i := .l2i) (k := 1) (pc' := 188) (st' := [.int ((Int64.toInt32 (τ5.l b8 l2.toNatClampNeg))), .int (τ5.i 28 1), .ref 31]) (by decide +kernel) rfl rfl ?_
    obtain ⟨e13, w⟩ := w
    refine ab_fin.q_sI (h1 := conc (τ5.wi 31 ((τ5.i 28 1).toNatClampNeg) ((Int64.toInt32 (τ5.l b8 l2.toNatClampNeg))))) (pc' := 189) (by decide +kernel) (c_sI' (F6.s t0_31) e13 rfl) rfl ?_
    refine ab_fin.s2 (i := .aload_n 0) (k := 1) (pc' := 190) (lv' := [(5, .int (τ5.i 28 1)), (0, .ref 40), (1, .int l1), (2, .int l2), (3, .int l3), (4, .int l4)]) (st' := [.ref 40]) (by decide +kernel) rfl rfl ?_
    refine ab_fin.q_rA (b := 1) (ix := 18) (ci := 8) (k := 0) (pc' := 193) (by decide +kernel) rfl (c_rA (F6.s t0_40) rfl (rC_8_0 F6 t0_40)) rfl ?_
    refine ab_fin.q_rA (b := 32) (ix := 173) (ci := 12) (k := 7) (pc' := 196) (by decide +kernel) rfl (c_rA (F6.s t0_1) rfl (rC_12_7 F6 t0_1)) rfl ?_
    refine ab_fin.s2 (i := .iload 5) (k := 2) (pc' := 198) (lv' := [(5, .int (τ5.i 28 1)), (0, .ref 40), (1, .int l1), (2, .int l2), (3, .int l3), (4, .int l4)]) (st' := [.int (τ5.i 28 1), .ref 32]) (by decide +kernel) rfl rfl ?_
    refine ab_fin.s2 (i := .iload_n 3) (k := 1) (pc' := 199) (lv' := [(5, .int (τ5.i 28 1)), (0, .ref 40), (1, .int l1), (2, .int l2), (3, .int l3), (4, .int l4)]) (st' := [.int l3, .int (τ5.i 28 1), .ref 32]) (by decide +kernel) rfl rfl ?_
    obtain ⟨e14, w⟩ := w
    refine ab_fin.q_sI (h1 := conc ((τ5.wi 31 ((τ5.i 28 1).toNatClampNeg) ((Int64.toInt32 (τ5.l b8 l2.toNatClampNeg)))).wi 32 ((τ5.i 28 1).toNatClampNeg) l3)) (pc' := 200) (by decide +kernel) (c_sI' (F6.s t0_32) e14 rfl) rfl ?_
    refine ab_fin.s2 (i := .aload_n 0) (k := 1) (pc' := 201) (lv' := [(5, .int (τ5.i 28 1)), (0, .ref 40), (1, .int l1), (2, .int l2), (3, .int l3), (4, .int l4)]) (st' := [.ref 40]) (by decide +kernel) rfl rfl ?_
    refine ab_fin.q_rA (b := 1) (ix := 18) (ci := 8) (k := 0) (pc' := 204) (by decide +kernel) rfl (c_rA (F6.s t0_40) rfl (rC_8_0 F6 t0_40)) rfl ?_
    refine ab_fin.q_rA (b := 33) (ix := 176) (ci := 12) (k := 8) (pc' := 207) (by decide +kernel) rfl (c_rA (F6.s t0_1) rfl (rC_12_8 F6 t0_1)) rfl ?_
    refine ab_fin.s2 (i := .iload 5) (k := 2) (pc' := 209) (lv' := [(5, .int (τ5.i 28 1)), (0, .ref 40), (1, .int l1), (2, .int l2), (3, .int l3), (4, .int l4)]) (st' := [.int (τ5.i 28 1), .ref 33]) (by decide +kernel) rfl rfl ?_
    refine ab_fin.s2 (i := .iload 4) (k := 2) (pc' := 211) (lv' := [(5, .int (τ5.i 28 1)), (0, .ref 40), (1, .int l1), (2, .int l2), (3, .int l3), (4, .int l4)]) (st' := [.int l4, .int (τ5.i 28 1), .ref 33]) (by decide +kernel) rfl rfl ?_
    obtain ⟨e15, w⟩ := w
    refine ab_fin.q_sI (h1 := conc (((τ5.wi 31 ((τ5.i 28 1).toNatClampNeg) ((Int64.toInt32 (τ5.l b8 l2.toNatClampNeg)))).wi 32 ((τ5.i 28 1).toNatClampNeg) l3).wi 33 ((τ5.i 28 1).toNatClampNeg) l4)) (pc' := 212) (by decide +kernel) (c_sI' (F6.s t0_33) e15 rfl) rfl ?_
    refine ab_fin.s2 (i := .aload_n 0) (k := 1) (pc' := 213) (lv' := [(5, .int (τ5.i 28 1)), (0, .ref 40), (1, .int l1), (2, .int l2), (3, .int l3), (4, .int l4)]) (st' := [.ref 40]) (by decide +kernel) rfl rfl ?_
    refine ab_fin.q_rA (b := 1) (ix := 18) (ci := 8) (k := 0) (pc' := 216) (by decide +kernel) rfl (c_rA (F6.s t0_40) rfl (rC_8_0 F6 t0_40)) rfl ?_
    refine ab_fin.s1i (i := .iconst 1) (k := 1) (pc' := 217) (n := 1) (by decide +kernel) rfl (by decide +kernel) rfl ?_
    refine ab_fin.s2 (i := .aload_n 0) (k := 1) (pc' := 218) (lv' := [(5, .int (τ5.i 28 1)), (0, .ref 40), (1, .int l1), (2, .int l2), (3, .int l3), (4, .int l4)]) (st' := [.ref 40, .int 1, .ref 1]) (by decide +kernel) rfl rfl ?_
    refine ab_fin.q_rA (b := 41) (ix := 12) (ci := 8) (k := 1) (pc' := 221) (by decide +kernel) rfl (c_rA (F6.s t0_40) rfl (rC_8_1 F6 t0_40)) rfl ?_
    obtain ⟨b16, e17, w⟩ := w
    refine ab_fin.q_rA (b := b16) (ix := 115) (ci := 9) (k := 2) (pc' := 224) (by decide +kernel) rfl (c_rA (F6.s t0_41) rfl e17) rfl ?_
    refine ab_fin.s2 (i := .iload_n 1) (k := 1) (pc' := 225) (lv' := [(5, .int (τ5.i 28 1)), (0, .ref 40), (1, .int l1), (2, .int l2), (3, .int l3), (4, .int l4)]) (st' := [.int l1, .ref b16, .int 1, .ref 1]) (by decide +kernel) rfl rfl ?_
    obtain ⟨n19, e18, w⟩ := w
    obtain ⟨e20, w⟩ := w
    refine ab_fin.q_eL (x := (τ5.l b16 l1.toNatClampNeg)) (pc' := 226) (by decide +kernel) (c_eL' e18 e20 rfl) rfl ?_
    refine ab_fin.s2 (i := .aload_n 0) (k := 1) (pc' := 227) (lv' := [(5, .int (τ5.i 28 1)), (0, .ref 40), (1, .int l1), (2, .int l2), (3, .int l3), (4, .int l4)]) (st' := [.ref 40, .long (τ5.l b16 l1.toNatClampNeg), .int 1, .ref 1]) (by decide +kernel) rfl rfl ?_
    refine ab_fin.q_rA (b := 41) (ix := 12) (ci := 8) (k := 1) (pc' := 230) (by decide +kernel) rfl (c_rA (F6.s t0_40) rfl (rC_8_1 F6 t0_40)) rfl ?_
    obtain ⟨b21, e22, w⟩ := w
    refine ab_fin.q_rA (b := b21) (ix := 119) (ci := 9) (k := 3) (pc' := 233) (by decide +kernel) rfl (c_rA (F6.s t0_41) rfl e22) rfl ?_
    refine ab_fin.s2 (i := .iload_n 1) (k := 1) (pc' := 234) (lv' := [(5, .int (τ5.i 28 1)), (0, .ref 40), (1, .int l1), (2, .int l2), (3, .int l3), (4, .int l4)]) (st' := [.int l1, .ref b21, .long (τ5.l b16 l1.toNatClampNeg), .int 1, .ref 1]) (by decide +kernel) rfl rfl ?_
    obtain ⟨n24, e23, w⟩ := w
    obtain ⟨e25, w⟩ := w
    refine ab_fin.q_eL (x := (τ5.l b21 l1.toNatClampNeg)) (pc' := 235) (by decide +kernel) (c_eL' e23 e25 rfl) rfl ?_
    refine ab_fin.q_yN (i := .invokevirtual 164) (k := 3) (y := 2821) (As := [.ref 1, .int 1, .long (τ5.l b16 l1.toNatClampNeg), .long (τ5.l b21 l1.toNatClampNeg)]) (rest := []) (M' := (mX11_addName, [])) (lv2 := [(0, .ref 1), (1, .int 1), (2, .long (τ5.l b16 l1.toNatClampNeg)), (4, .long (τ5.l b21 l1.toNatClampNeg))]) (pc' := 238) (X := K) (by decide +kernel) (ab_cv rfl rfl (conc_get (σ := (((τ5.wi 31 ((τ5.i 28 1).toNatClampNeg) ((Int64.toInt32 (τ5.l b8 l2.toNatClampNeg)))).wi 32 ((τ5.i 28 1).toNatClampNeg) l3).wi 33 ((τ5.i 28 1).toNatClampNeg) l4)) (F6.s t0_1)) ⟨(Nat.le_of_ble_eq_true rfl), (Nat.le_of_ble_eq_true rfl)⟩ rfl) rfl (Nat.le_of_ble_eq_true rfl) rfl rfl (hY_no fun E => rfl) w (fun τ26 F27 w => ?_)
    exact ab_fin.q_ret (i := .return_) (k := 1) (v := none) (by decide +kernel) rfl F27 w
theorem T_X7_readLayer_0 {Z : zT} {d : Nat} {σ : Sg}  {K : kS} (F : FX ΦC σ.sh σ.r) (w : C_X7_take_0 Z d σ 23 (yN K fun τ1 => C_X7_takeNewName_0 Z d τ1 2 (yI K fun v5 τ3 => C_X7_take_0 Z d τ3 7 (yN K fun τ6 => C_X7_isClean_0 Z d τ6  (yI K fun v10 τ8 => (v10 = 0 → K (.inl none) τ8) ∧ (¬ v10 = 0 → ∃ b11, (τ8.r 41 2) = Rf.ptr b11 ∧ (∃ n14, τ8.sh[b11]? = some (Sh.arr 1 n14) ∧ (ib v5 n14 ∧ (∃ b16, (τ8.r 41 3) = Rf.ptr b16 ∧ (∃ n19, τ8.sh[b16]? = some (Sh.arr 1 n19) ∧ (ib v5 n19 ∧ (C_X11_addName_0 Z d τ8 2 (τ8.l b11 v5.toNatClampNeg) (τ8.l b16 v5.toNatClampNeg) (yN K fun τ21 => K (.inl none) τ21))))))))))))) : C_X7_readLayer_0 Z (d + 1) σ  K := by
  unfold C_X7_readLayer_0
  refine ab_fin.s2 (i := .aload_n 0) (k := 1) (pc' := 1) (lv' := [(0, .ref 40)]) (st' := [.ref 40]) (by decide +kernel) rfl rfl ?_
  refine ab_fin.s1i (i := .bipush 23) (k := 2) (pc' := 3) (n := 23) (by decide +kernel) rfl (by decide +kernel) rfl ?_
  refine ab_fin.q_yN (i := .invokevirtual 57) (k := 3) (y := 1799) (As := [.ref 40, .int 23]) (rest := []) (M' := (mX7_take, [])) (lv2 := [(0, .ref 40), (1, .int 23)]) (pc' := 6) (X := K) (by decide +kernel) (ab_cv rfl rfl (conc_get (σ := σ) (F.s t0_40)) ⟨(Nat.le_of_ble_eq_true rfl), (Nat.le_of_ble_eq_true rfl)⟩ rfl) rfl (Nat.le_of_ble_eq_true rfl) rfl rfl (hY_no fun E => rfl) w (fun τ1 F2 w => ?_)
  refine ab_fin.s2 (i := .aload_n 0) (k := 1) (pc' := 7) (lv' := [(0, .ref 40)]) (st' := [.ref 40]) (by decide +kernel) rfl rfl ?_
  refine ab_fin.s1i (i := .iconst 2) (k := 1) (pc' := 8) (n := 2) (by decide +kernel) rfl (by decide +kernel) rfl ?_
  refine ab_fin.q_yI (i := .invokevirtual 138) (k := 3) (y := 1801) (As := [.ref 40, .int 2]) (rest := []) (M' := (mX7_takeNewName, [])) (lv2 := [(0, .ref 40), (1, .int 2)]) (pc' := 11) (X := K) (by decide +kernel) (ab_cv rfl rfl (conc_get (σ := τ1) (F2.s t0_40)) ⟨(Nat.le_of_ble_eq_true rfl), (Nat.le_of_ble_eq_true rfl)⟩ rfl) rfl (Nat.le_of_ble_eq_true rfl) rfl rfl (hY_no fun E => rfl) w (fun v5 τ3 F4 w => ?_)
  refine ab_fin.s2 (i := .istore_n 1) (k := 1) (pc' := 12) (lv' := [(1, .int v5), (0, .ref 40)]) (st' := []) (by decide +kernel) rfl rfl ?_
  refine ab_fin.s2 (i := .aload_n 0) (k := 1) (pc' := 13) (lv' := [(1, .int v5), (0, .ref 40)]) (st' := [.ref 40]) (by decide +kernel) rfl rfl ?_
  refine ab_fin.s1i (i := .bipush 7) (k := 2) (pc' := 15) (n := 7) (by decide +kernel) rfl (by decide +kernel) rfl ?_
  refine ab_fin.q_yN (i := .invokevirtual 57) (k := 3) (y := 1799) (As := [.ref 40, .int 7]) (rest := []) (M' := (mX7_take, [])) (lv2 := [(0, .ref 40), (1, .int 7)]) (pc' := 18) (X := K) (by decide +kernel) (ab_cv rfl rfl (conc_get (σ := τ3) (F4.s t0_40)) ⟨(Nat.le_of_ble_eq_true rfl), (Nat.le_of_ble_eq_true rfl)⟩ rfl) rfl (Nat.le_of_ble_eq_true rfl) rfl rfl (hY_no fun E => rfl) w (fun τ6 F7 w => ?_)
  refine ab_fin.s2 (i := .aload_n 0) (k := 1) (pc' := 19) (lv' := [(1, .int v5), (0, .ref 40)]) (st' := [.ref 40]) (by decide +kernel) rfl rfl ?_
  refine ab_fin.q_yI (i := .invokevirtual 61) (k := 3) (y := 1796) (As := [.ref 40]) (rest := []) (M' := (mX7_isClean, [])) (lv2 := [(0, .ref 40)]) (pc' := 22) (X := K) (by decide +kernel) (ab_cv rfl rfl (conc_get (σ := τ6) (F7.s t0_40)) ⟨(Nat.le_of_ble_eq_true rfl), (Nat.le_of_ble_eq_true rfl)⟩ rfl) rfl (Nat.le_of_ble_eq_true rfl) rfl rfl (hY_no fun E => rfl) w (fun v10 τ8 F9 w => ?_)
  refine ab_fin.br (c := v10 = 0) (i := .ifCond .eq 29) (off := 29) (t := 51) (pc' := 25) (r := []) (by decide +kernel) rfl (by decide +kernel) rfl (fun q => ?_) (fun q => ?_)
  · replace w := w.1 q
    exact ab_fin.q_ret (i := .return_) (k := 1) (v := none) (by decide +kernel) rfl F9 w
  · replace w := w.2 q
    refine ab_fin.s2 (i := .aload_n 0) (k := 1) (pc' := 26) (lv' := [(1, .int v5), (0, .ref 40)]) (st' := [.ref 40]) (by decide +kernel) rfl rfl ?_
    refine ab_fin.q_rA (b := 1) (ix := 18) (ci := 8) (k := 0) (pc' := 29) (by decide +kernel) rfl (c_rA (F9.s t0_40) rfl (rC_8_0 F9 t0_40)) rfl ?_
    refine ab_fin.s1i (i := .iconst 2) (k := 1) (pc' := 30) (n := 2) (by decide +kernel) rfl (by decide +kernel) rfl ?_
    refine ab_fin.s2 (i := .aload_n 0) (k := 1) (pc' := 31) (lv' := [(1, .int v5), (0, .ref 40)]) (st' := [.ref 40, .int 2, .ref 1]) (by decide +kernel) rfl rfl ?_
    refine ab_fin.q_rA (b := 41) (ix := 12) (ci := 8) (k := 1) (pc' := 34) (by decide +kernel) rfl (c_rA (F9.s t0_40) rfl (rC_8_1 F9 t0_40)) rfl ?_
    obtain ⟨b11, e12, w⟩ := w
    refine ab_fin.q_rA (b := b11) (ix := 115) (ci := 9) (k := 2) (pc' := 37) (by decide +kernel) rfl (c_rA (F9.s t0_41) rfl e12) rfl ?_
    refine ab_fin.s2 (i := .iload_n 1) (k := 1) (pc' := 38) (lv' := [(1, .int v5), (0, .ref 40)]) (st' := [.int v5, .ref b11, .int 2, .ref 1]) (by decide +kernel) rfl rfl ?_
    obtain ⟨n14, e13, w⟩ := w
    obtain ⟨e15, w⟩ := w
    refine ab_fin.q_eL (x := (τ8.l b11 v5.toNatClampNeg)) (pc' := 39) (by decide +kernel) (c_eL' e13 e15 rfl) rfl ?_
    refine ab_fin.s2 (i := .aload_n 0) (k := 1) (pc' := 40) (lv' := [(1, .int v5), (0, .ref 40)]) (st' := [.ref 40, .long (τ8.l b11 v5.toNatClampNeg), .int 2, .ref 1]) (by decide +kernel) rfl rfl ?_
    refine ab_fin.q_rA (b := 41) (ix := 12) (ci := 8) (k := 1) (pc' := 43) (by decide +kernel) rfl (c_rA (F9.s t0_40) rfl (rC_8_1 F9 t0_40)) rfl ?_
    obtain ⟨b16, e17, w⟩ := w
    refine ab_fin.q_rA (b := b16) (ix := 119) (ci := 9) (k := 3) (pc' := 46) (by decide +kernel) rfl (c_rA (F9.s t0_41) rfl e17) rfl ?_
    refine ab_fin.s2 (i := .iload_n 1) (k := 1) (pc' := 47) (lv' := [(1, .int v5), (0, .ref 40)]) (st' := [.int v5, .ref b16, .long (τ8.l b11 v5.toNatClampNeg), .int 2, .ref 1]) (by decide +kernel) rfl rfl ?_
    obtain ⟨n19, e18, w⟩ := w
    obtain ⟨e20, w⟩ := w
    refine ab_fin.q_eL (x := (τ8.l b16 v5.toNatClampNeg)) (pc' := 48) (by decide +kernel) (c_eL' e18 e20 rfl) rfl ?_
    refine ab_fin.q_yN (i := .invokevirtual 164) (k := 3) (y := 2821) (As := [.ref 1, .int 2, .long (τ8.l b11 v5.toNatClampNeg), .long (τ8.l b16 v5.toNatClampNeg)]) (rest := []) (M' := (mX11_addName, [])) (lv2 := [(0, .ref 1), (1, .int 2), (2, .long (τ8.l b11 v5.toNatClampNeg)), (4, .long (τ8.l b16 v5.toNatClampNeg))]) (pc' := 51) (X := K) (by decide +kernel) (ab_cv rfl rfl (conc_get (σ := τ8) (F9.s t0_1)) ⟨(Nat.le_of_ble_eq_true rfl), (Nat.le_of_ble_eq_true rfl)⟩ rfl) rfl (Nat.le_of_ble_eq_true rfl) rfl rfl (hY_no fun E => rfl) w (fun τ21 F22 w => ?_)
    exact ab_fin.q_ret (i := .return_) (k := 1) (v := none) (by decide +kernel) rfl F22 w
theorem T_X7_readMethod_0 {Z : zT} {d : Nat} {σ : Sg}  {K : kS} (F : FX ΦC σ.sh σ.r) (w : C_X7_take_0 Z d σ 24 (yN K fun τ1 => C_X7_takeKnownName_0 Z d τ1 1 (yI K fun v5 τ3 => ((τ3.i 10 0) < 120 → C_X7_readMethod_56 Z (d + 1) ((τ3.wi 40 8 v5).wi 40 7 (1 : Int32)) ((σ.i 10 0) + (1 : Int32)) (τ1.i 40 3) K) ∧ (¬ (τ3.i 10 0) < 120 → C_X7_breakRule_0 Z d ((τ3.wi 40 8 v5).wi 40 7 (1 : Int32)) 7 (τ1.i 40 3) (yN K fun τ6 => C_X7_readMethod_56 Z (d + 1) τ6 ((σ.i 10 0) + (1 : Int32)) (τ1.i 40 3) K))))) : C_X7_readMethod_0 Z (d + 1) σ  K := by
  unfold C_X7_readMethod_0
  refine ab_fin.s2 (i := .aload_n 0) (k := 1) (pc' := 1) (lv' := [(0, .ref 40)]) (st' := [.ref 40]) (by decide +kernel) rfl rfl ?_
  refine ab_fin.q_rA (b := 1) (ix := 18) (ci := 8) (k := 0) (pc' := 4) (by decide +kernel) rfl (c_rA (F.s t0_40) rfl (rC_8_0 F t0_40)) rfl ?_
  refine ab_fin.q_rA (b := 10) (ix := 179) (ci := 12) (k := 1) (pc' := 7) (by decide +kernel) rfl (c_rA (F.s t0_1) rfl (rC_12_1 F t0_1)) rfl ?_
  refine ab_fin.s2 (i := .astore_n 1) (k := 1) (pc' := 8) (lv' := [(1, .ref 10), (0, .ref 40)]) (st' := []) (by decide +kernel) rfl rfl ?_
  refine ab_fin.s2 (i := .aload_n 1) (k := 1) (pc' := 9) (lv' := [(1, .ref 10), (0, .ref 40)]) (st' := [.ref 10]) (by decide +kernel) rfl rfl ?_
  refine ab_fin.q_rI (x := (σ.i 10 0)) (ix := 183) (ci := 6) (k := 0) (pc' := 12) (by decide +kernel) rfl (c_rI (F.s t0_10) rfl) rfl ?_
  refine ab_fin.s1i (i := .iconst 1) (k := 1) (pc' := 13) (n := 1) (by decide +kernel) rfl (by decide +kernel) rfl ?_
  refine ab_fin.s1 (i := .iadd) (k := 1) (pc' := 14) (st' := [.int ((σ.i 10 0) + (1 : Int32))]) (by decide +kernel) rfl rfl ?_
  refine ab_fin.s2 (i := .istore_n 2) (k := 1) (pc' := 15) (lv' := [(2, .int ((σ.i 10 0) + (1 : Int32))), (1, .ref 10), (0, .ref 40)]) (st' := []) (by decide +kernel) rfl rfl ?_
  refine ab_fin.s2 (i := .aload_n 0) (k := 1) (pc' := 16) (lv' := [(2, .int ((σ.i 10 0) + (1 : Int32))), (1, .ref 10), (0, .ref 40)]) (st' := [.ref 40]) (by decide +kernel) rfl rfl ?_
  refine ab_fin.s1i (i := .bipush 24) (k := 2) (pc' := 18) (n := 24) (by decide +kernel) rfl (by decide +kernel) rfl ?_
  refine ab_fin.q_yN (i := .invokevirtual 57) (k := 3) (y := 1799) (As := [.ref 40, .int 24]) (rest := []) (M' := (mX7_take, [])) (lv2 := [(0, .ref 40), (1, .int 24)]) (pc' := 21) (X := K) (by decide +kernel) (ab_cv rfl rfl (conc_get (σ := σ) (F.s t0_40)) ⟨(Nat.le_of_ble_eq_true rfl), (Nat.le_of_ble_eq_true rfl)⟩ rfl) rfl (Nat.le_of_ble_eq_true rfl) rfl rfl (hY_no fun E => rfl) w (fun τ1 F2 w => ?_)
  refine ab_fin.s2 (i := .aload_n 0) (k := 1) (pc' := 22) (lv' := [(2, .int ((σ.i 10 0) + (1 : Int32))), (1, .ref 10), (0, .ref 40)]) (st' := [.ref 40]) (by decide +kernel) rfl rfl ?_
  refine ab_fin.q_rI (x := (τ1.i 40 3)) (ix := 97) (ci := 8) (k := 3) (pc' := 25) (by decide +kernel) rfl (c_rI (F2.s t0_40) rfl) rfl ?_
  refine ab_fin.s2 (i := .istore_n 3) (k := 1) (pc' := 26) (lv' := [(3, .int (τ1.i 40 3)), (2, .int ((σ.i 10 0) + (1 : Int32))), (1, .ref 10), (0, .ref 40)]) (st' := []) (by decide +kernel) rfl rfl ?_
  refine ab_fin.s2 (i := .aload_n 0) (k := 1) (pc' := 27) (lv' := [(3, .int (τ1.i 40 3)), (2, .int ((σ.i 10 0) + (1 : Int32))), (1, .ref 10), (0, .ref 40)]) (st' := [.ref 40]) (by decide +kernel) rfl rfl ?_
  refine ab_fin.s2 (i := .aload_n 0) (k := 1) (pc' := 28) (lv' := [(3, .int (τ1.i 40 3)), (2, .int ((σ.i 10 0) + (1 : Int32))), (1, .ref 10), (0, .ref 40)]) (st' := [.ref 40, .ref 40]) (by decide +kernel) rfl rfl ?_
  refine ab_fin.s1i (i := .iconst 1) (k := 1) (pc' := 29) (n := 1) (by decide +kernel) rfl (by decide +kernel) rfl ?_
  refine ab_fin.q_yI (i := .invokevirtual 151) (k := 3) (y := 1802) (As := [.ref 40, .int 1]) (rest := [.ref 40]) (M' := (mX7_takeKnownName, [])) (lv2 := [(0, .ref 40), (1, .int 1)]) (pc' := 32) (X := K) (by decide +kernel) (ab_cv rfl rfl (conc_get (σ := τ1) (F2.s t0_40)) ⟨(Nat.le_of_ble_eq_true rfl), (Nat.le_of_ble_eq_true rfl)⟩ rfl) rfl (Nat.le_of_ble_eq_true rfl) rfl rfl (hY_no fun E => rfl) w (fun v5 τ3 F4 w => ?_)
  refine ab_fin.q_pF (ix := 87) (ci := 8) (k := 8) (h1 := conc (τ3.wi 40 8 v5)) (pc' := 35) (by decide +kernel) rfl (c_pI (v := v5) (F4.s t0_40) rfl) rfl rfl rfl ?_
  refine ab_fin.s2 (i := .aload_n 0) (k := 1) (pc' := 36) (lv' := [(3, .int (τ1.i 40 3)), (2, .int ((σ.i 10 0) + (1 : Int32))), (1, .ref 10), (0, .ref 40)]) (st' := [.ref 40]) (by decide +kernel) rfl rfl ?_
  refine ab_fin.s1i (i := .iconst 1) (k := 1) (pc' := 37) (n := 1) (by decide +kernel) rfl (by decide +kernel) rfl ?_
  refine ab_fin.q_pF (ix := 83) (ci := 8) (k := 7) (h1 := conc ((τ3.wi 40 8 v5).wi 40 7 (1 : Int32))) (pc' := 40) (by decide +kernel) rfl (c_pI (v := 1) (F4.s t0_40) rfl) rfl rfl rfl ?_
  refine ab_fin.s2 (i := .aload_n 1) (k := 1) (pc' := 41) (lv' := [(3, .int (τ1.i 40 3)), (2, .int ((σ.i 10 0) + (1 : Int32))), (1, .ref 10), (0, .ref 40)]) (st' := [.ref 10]) (by decide +kernel) rfl rfl ?_
  refine ab_fin.q_rI (x := (τ3.i 10 0)) (ix := 183) (ci := 6) (k := 0) (pc' := 44) (by decide +kernel) rfl (c_rI (F4.s t0_10) rfl) rfl ?_
  refine ab_fin.s1i (i := .bipush 120) (k := 2) (pc' := 46) (n := 120) (by decide +kernel) rfl (by decide +kernel) rfl ?_
  refine ab_fin.br (c := (τ3.i 10 0) < 120) (i := .if_icmp .lt 10) (off := 10) (t := 56) (pc' := 49) (r := []) (by decide +kernel) rfl (by decide +kernel) rfl (fun q => ?_) (fun q => ?_)
  · replace w := w.1 q
    exact ab_fin.lv ⟨(List.forall_mem_cons.mpr ⟨(List.Mem.tail _ (List.Mem.tail _ (List.Mem.tail _ (List.Mem.head _)))), (List.forall_mem_cons.mpr ⟨(List.Mem.tail _ (List.Mem.tail _ (List.Mem.head _))), (List.forall_mem_cons.mpr ⟨(List.Mem.tail _ (List.Mem.head _)), (List.forall_mem_cons.mpr ⟨(List.Mem.head _), (fun _ h => absurd h List.not_mem_nil)⟩)⟩)⟩)⟩), (show ([3, 2, 1, 0] : List Nat).Nodup from by decide)⟩ w
  · replace w := w.2 q
    refine ab_fin.s2 (i := .aload_n 0) (k := 1) (pc' := 50) (lv' := [(3, .int (τ1.i 40 3)), (2, .int ((σ.i 10 0) + (1 : Int32))), (1, .ref 10), (0, .ref 40)]) (st' := [.ref 40]) (by decide +kernel) rfl rfl ?_
    refine ab_fin.s1i (i := .bipush 7) (k := 2) (pc' := 52) (n := 7) (by decide +kernel) rfl (by decide +kernel) rfl ?_
    refine ab_fin.s2 (i := .iload_n 3) (k := 1) (pc' := 53) (lv' := [(3, .int (τ1.i 40 3)), (2, .int ((σ.i 10 0) + (1 : Int32))), (1, .ref 10), (0, .ref 40)]) (st' := [.int (τ1.i 40 3), .int 7, .ref 40]) (by decide +kernel) rfl rfl ?_
    refine ab_fin.q_yN (i := .invokevirtual 126) (k := 3) (y := 1800) (As := [.ref 40, .int 7, .int (τ1.i 40 3)]) (rest := []) (M' := (mX7_breakRule, [])) (lv2 := [(0, .ref 40), (1, .int 7), (2, .int (τ1.i 40 3))]) (pc' := 56) (X := K) (by decide +kernel) (ab_cv rfl rfl (conc_get (σ := ((τ3.wi 40 8 v5).wi 40 7 (1 : Int32))) (F4.s t0_40)) ⟨(Nat.le_of_ble_eq_true rfl), (Nat.le_of_ble_eq_true rfl)⟩ rfl) rfl (Nat.le_of_ble_eq_true rfl) rfl rfl (hY_no fun E => rfl) w (fun τ6 F7 w => ?_)
    exact ab_fin.lv ⟨(List.forall_mem_cons.mpr ⟨(List.Mem.tail _ (List.Mem.tail _ (List.Mem.tail _ (List.Mem.head _)))), (List.forall_mem_cons.mpr ⟨(List.Mem.tail _ (List.Mem.tail _ (List.Mem.head _))), (List.forall_mem_cons.mpr ⟨(List.Mem.tail _ (List.Mem.head _)), (List.forall_mem_cons.mpr ⟨(List.Mem.head _), (fun _ h => absurd h List.not_mem_nil)⟩)⟩)⟩)⟩), (show ([3, 2, 1, 0] : List Nat).Nodup from by decide)⟩ w
theorem T_X7_readMethod_56 {Z : zT} {d : Nat} {σ : Sg} {l2 : Int32} {l3 : Int32} {K : kS} (F : FX ΦC σ.sh σ.r) (w : C_X5_open_0 Z d σ l2 (σ.i 40 8) (yN K fun τ1 => C_X7_readSpecs_0 Z d τ1 l2 (yN K fun τ3 => C_X7_sign_0 Z d τ3  (yI K fun v7 τ5 => (v7 < 25 → C_X7_readMethod_111 Z (d + 1) τ5 l2 l3 K) ∧ (¬ v7 < 25 → C_X7_sign_0 Z d τ5  (yI K fun v10 τ8 => (27 < v10 → C_X7_readMethod_111 Z (d + 1) τ8 l2 l3 K) ∧ (¬ 27 < v10 → C_X7_sign_0 Z d τ8  (yI K fun v13 τ11 => ib l2 122 ∧ (C_X7_sign_0 Z d (τ11.wi 12 l2.toNatClampNeg (((1 : Int32) + v13) - (25 : Int32)))  (yI K fun v17 τ15 => C_X7_take_0 Z d τ15 v17 (yN K fun τ18 => C_X7_readMethod_111 Z (d + 1) τ18 l2 l3 K))))))))))) : C_X7_readMethod_56 Z (d + 1) σ l2 l3 K := by
  unfold C_X7_readMethod_56
  refine ab_fin.s2 (i := .aload_n 1) (k := 1) (pc' := 57) (lv' := [(0, .ref 40), (1, .ref 10), (2, .int l2), (3, .int l3)]) (st' := [.ref 10]) (by decide +kernel) rfl rfl ?_
  refine ab_fin.s2 (i := .iload_n 2) (k := 1) (pc' := 58) (lv' := [(0, .ref 40), (1, .ref 10), (2, .int l2), (3, .int l3)]) (st' := [.int l2, .ref 10]) (by decide +kernel) rfl rfl ?_
  refine ab_fin.s2 (i := .aload_n 0) (k := 1) (pc' := 59) (lv' := [(0, .ref 40), (1, .ref 10), (2, .int l2), (3, .int l3)]) (st' := [.ref 40, .int l2, .ref 10]) (by decide +kernel) rfl rfl ?_
  refine ab_fin.q_rI (x := (σ.i 40 8)) (ix := 87) (ci := 8) (k := 8) (pc' := 62) (by decide +kernel) rfl (c_rI (F.s t0_40) rfl) rfl ?_
  refine ab_fin.q_yN (i := .invokevirtual 188) (k := 3) (y := 1282) (As := [.ref 10, .int l2, .int (σ.i 40 8)]) (rest := []) (M' := (mX5_open, [])) (lv2 := [(0, .ref 10), (1, .int l2), (2, .int (σ.i 40 8))]) (pc' := 65) (X := K) (by decide +kernel) (ab_cv rfl rfl (conc_get (σ := σ) (F.s t0_10)) ⟨(Nat.le_of_ble_eq_true rfl), (Nat.le_of_ble_eq_true rfl)⟩ rfl) rfl (Nat.le_of_ble_eq_true rfl) rfl rfl (hY_no fun E => rfl) w (fun τ1 F2 w => ?_)
  refine ab_fin.s2 (i := .aload_n 0) (k := 1) (pc' := 66) (lv' := [(0, .ref 40), (1, .ref 10), (2, .int l2), (3, .int l3)]) (st' := [.ref 40]) (by decide +kernel) rfl rfl ?_
  refine ab_fin.s2 (i := .iload_n 2) (k := 1) (pc' := 67) (lv' := [(0, .ref 40), (1, .ref 10), (2, .int l2), (3, .int l3)]) (st' := [.int l2, .ref 40]) (by decide +kernel) rfl rfl ?_
  refine ab_fin.q_yN (i := .invokevirtual 191) (k := 3) (y := 1807) (As := [.ref 40, .int l2]) (rest := []) (M' := (mX7_readSpecs, [])) (lv2 := [(0, .ref 40), (1, .int l2)]) (pc' := 70) (X := K) (by decide +kernel) (ab_cv rfl rfl (conc_get (σ := τ1) (F2.s t0_40)) ⟨(Nat.le_of_ble_eq_true rfl), (Nat.le_of_ble_eq_true rfl)⟩ rfl) rfl (Nat.le_of_ble_eq_true rfl) rfl rfl (hY_no fun E => rfl) w (fun τ3 F4 w => ?_)
  refine ab_fin.s2 (i := .aload_n 0) (k := 1) (pc' := 71) (lv' := [(0, .ref 40), (1, .ref 10), (2, .int l2), (3, .int l3)]) (st' := [.ref 40]) (by decide +kernel) rfl rfl ?_
  refine ab_fin.q_yI (i := .invokevirtual 41) (k := 3) (y := 1798) (As := [.ref 40]) (rest := []) (M' := (mX7_sign, [])) (lv2 := [(0, .ref 40)]) (pc' := 74) (X := K) (by decide +kernel) (ab_cv rfl rfl (conc_get (σ := τ3) (F4.s t0_40)) ⟨(Nat.le_of_ble_eq_true rfl), (Nat.le_of_ble_eq_true rfl)⟩ rfl) rfl (Nat.le_of_ble_eq_true rfl) rfl rfl (hY_no fun E => rfl) w (fun v7 τ5 F6 w => ?_)
  refine ab_fin.s1i (i := .bipush 25) (k := 2) (pc' := 76) (n := 25) (by decide +kernel) rfl (by decide +kernel) rfl ?_
  refine ab_fin.br (c := v7 < 25) (i := .if_icmp .lt 35) (off := 35) (t := 111) (pc' := 79) (r := []) (by decide +kernel) rfl (by decide +kernel) rfl (fun q => ?_) (fun q => ?_)
  · replace w := w.1 q
    exact ab_fin.lv ⟨(List.forall_mem_cons.mpr ⟨(List.Mem.head _), (List.forall_mem_cons.mpr ⟨(List.Mem.tail _ (List.Mem.head _)), (List.forall_mem_cons.mpr ⟨(List.Mem.tail _ (List.Mem.tail _ (List.Mem.head _))), (List.forall_mem_cons.mpr ⟨(List.Mem.tail _ (List.Mem.tail _ (List.Mem.tail _ (List.Mem.head _)))), (fun _ h => absurd h List.not_mem_nil)⟩)⟩)⟩)⟩), (show ([0, 1, 2, 3] : List Nat).Nodup from by decide)⟩ w
  · replace w := w.2 q
    refine ab_fin.s2 (i := .aload_n 0) (k := 1) (pc' := 80) (lv' := [(0, .ref 40), (1, .ref 10), (2, .int l2), (3, .int l3)]) (st' := [.ref 40]) (by decide +kernel) rfl rfl ?_
    refine ab_fin.q_yI (i := .invokevirtual 41) (k := 3) (y := 1798) (As := [.ref 40]) (rest := []) (M' := (mX7_sign, [])) (lv2 := [(0, .ref 40)]) (pc' := 83) (X := K) (by decide +kernel) (ab_cv rfl rfl (conc_get (σ := τ5) (F6.s t0_40)) ⟨(Nat.le_of_ble_eq_true rfl), (Nat.le_of_ble_eq_true rfl)⟩ rfl) rfl (Nat.le_of_ble_eq_true rfl) rfl rfl (hY_no fun E => rfl) w (fun v10 τ8 F9 w => ?_)
    refine ab_fin.s1i (i := .bipush 27) (k := 2) (pc' := 85) (n := 27) (by decide +kernel) rfl (by decide +kernel) rfl ?_
    refine ab_fin.br (c := 27 < v10) (i := .if_icmp .gt 26) (off := 26) (t := 111) (pc' := 88) (r := []) (by decide +kernel) rfl (by decide +kernel) rfl (fun q => ?_) (fun q => ?_)
    · replace w := w.1 q
      exact ab_fin.lv ⟨(List.forall_mem_cons.mpr ⟨(List.Mem.head _), (List.forall_mem_cons.mpr ⟨(List.Mem.tail _ (List.Mem.head _)), (List.forall_mem_cons.mpr ⟨(List.Mem.tail _ (List.Mem.tail _ (List.Mem.head _))), (List.forall_mem_cons.mpr ⟨(List.Mem.tail _ (List.Mem.tail _ (List.Mem.tail _ (List.Mem.head _)))), (fun _ h => absurd h List.not_mem_nil)⟩)⟩)⟩)⟩), (show ([0, 1, 2, 3] : List Nat).Nodup from by decide)⟩ w
    · replace w := w.2 q
      refine ab_fin.s2 (i := .aload_n 1) (k := 1) (pc' := 89) (lv' := [(0, .ref 40), (1, .ref 10), (2, .int l2), (3, .int l3)]) (st' := [.ref 10]) (by decide +kernel) rfl rfl ?_
      refine ab_fin.q_rA (b := 12) (ix := 194) (ci := 6) (k := 2) (pc' := 92) (by decide +kernel) rfl (c_rA (F9.s t0_10) rfl (rC_6_2 F9 t0_10)) rfl ?_
      refine ab_fin.s2 (i := .iload_n 2) (k := 1) (pc' := 93) (lv' := [(0, .ref 40), (1, .ref 10), (2, .int l2), (3, .int l3)]) (st' := [.int l2, .ref 12]) (by decide +kernel) rfl rfl ?_
      refine ab_fin.s1i (i := .iconst 1) (k := 1) (pc' := 94) (n := 1) (by decide +kernel) rfl (by decide +kernel) rfl ?_
      refine ab_fin.s2 (i := .aload_n 0) (k := 1) (pc' := 95) (lv' := [(0, .ref 40), (1, .ref 10), (2, .int l2), (3, .int l3)]) (st' := [.ref 40, .int 1, .int l2, .ref 12]) (by decide +kernel) rfl rfl ?_
      refine ab_fin.q_yI (i := .invokevirtual 41) (k := 3) (y := 1798) (As := [.ref 40]) (rest := [.int 1, .int l2, .ref 12]) (M' := (mX7_sign, [])) (lv2 := [(0, .ref 40)]) (pc' := 98) (X := K) (by decide +kernel) (ab_cv rfl rfl (conc_get (σ := τ8) (F9.s t0_40)) ⟨(Nat.le_of_ble_eq_true rfl), (Nat.le_of_ble_eq_true rfl)⟩ rfl) rfl (Nat.le_of_ble_eq_true rfl) rfl rfl (hY_no fun E => rfl) w (fun v13 τ11 F12 w => ?_)
      refine ab_fin.s1 (i := .iadd) (k := 1) (pc' := 99) (st' := [.int ((1 : Int32) + v13), .int l2, .ref 12]) (by decide +kernel) rfl rfl ?_
      refine ab_fin.s1i (i := .bipush 25) (k := 2) (pc' := 101) (n := 25) (by decide +kernel) rfl (by decide +kernel) rfl ?_
      refine ab_fin.s1 (i := .isub) (k := 1) (pc' := 102) (st' := [.int (((1 : Int32) + v13) - (25 : Int32)), .int l2, .ref 12]) (by decide +kernel) rfl rfl ?_
      obtain ⟨e14, w⟩ := w
      refine ab_fin.q_sI (h1 := conc (τ11.wi 12 l2.toNatClampNeg (((1 : Int32) + v13) - (25 : Int32)))) (pc' := 103) (by decide +kernel) (c_sI' (F12.s t0_12) e14 rfl) rfl ?_
      refine ab_fin.s2 (i := .aload_n 0) (k := 1) (pc' := 104) (lv' := [(0, .ref 40), (1, .ref 10), (2, .int l2), (3, .int l3)]) (st' := [.ref 40]) (by decide +kernel) rfl rfl ?_
      refine ab_fin.s2 (i := .aload_n 0) (k := 1) (pc' := 105) (lv' := [(0, .ref 40), (1, .ref 10), (2, .int l2), (3, .int l3)]) (st' := [.ref 40, .ref 40]) (by decide +kernel) rfl rfl ?_
      refine ab_fin.q_yI (i := .invokevirtual 41) (k := 3) (y := 1798) (As := [.ref 40]) (rest := [.ref 40]) (M' := (mX7_sign, [])) (lv2 := [(0, .ref 40)]) (pc' := 108) (X := K) (by decide +kernel) (ab_cv rfl rfl (conc_get (σ := (τ11.wi 12 l2.toNatClampNeg (((1 : Int32) + v13) - (25 : Int32)))) (F12.s t0_40)) ⟨(Nat.le_of_ble_eq_true rfl), (Nat.le_of_ble_eq_true rfl)⟩ rfl) rfl (Nat.le_of_ble_eq_true rfl) rfl rfl (hY_no fun E => rfl) w (fun v17 τ15 F16 w => ?_)
      refine ab_fin.q_yN (i := .invokevirtual 57) (k := 3) (y := 1799) (As := [.ref 40, .int v17]) (rest := []) (M' := (mX7_take, [])) (lv2 := [(0, .ref 40), (1, .int v17)]) (pc' := 111) (X := K) (by decide +kernel) (ab_cv rfl rfl (conc_get (σ := τ15) (F16.s t0_40)) ⟨(Nat.le_of_ble_eq_true rfl), (Nat.le_of_ble_eq_true rfl)⟩ rfl) rfl (Nat.le_of_ble_eq_true rfl) rfl rfl (hY_no fun E => rfl) w (fun τ18 F19 w => ?_)
      exact ab_fin.lv ⟨(List.forall_mem_cons.mpr ⟨(List.Mem.head _), (List.forall_mem_cons.mpr ⟨(List.Mem.tail _ (List.Mem.head _)), (List.forall_mem_cons.mpr ⟨(List.Mem.tail _ (List.Mem.tail _ (List.Mem.head _))), (List.forall_mem_cons.mpr ⟨(List.Mem.tail _ (List.Mem.tail _ (List.Mem.tail _ (List.Mem.head _)))), (fun _ h => absurd h List.not_mem_nil)⟩)⟩)⟩)⟩), (show ([0, 1, 2, 3] : List Nat).Nodup from by decide)⟩ w
theorem T_X7_readMethod_111 {Z : zT} {d : Nat} {σ : Sg} {l2 : Int32} {l3 : Int32} {K : kS} (F : FX ΦC σ.sh σ.r) (w : C_X7_sign_0 Z d σ  (yI K fun v3 τ1 => (¬ v3 = 28 → C_X7_readMethod_137 Z (d + 1) τ1 l2 l3 K) ∧ (v3 = 28 → C_X7_take_0 Z d τ1 28 (yN K fun τ4 => C_X7_takeKnownName_0 Z d τ4 2 (yI K fun v8 τ6 => ib l2 122 ∧ (C_X7_readMethod_137 Z (d + 1) (τ6.wi 13 l2.toNatClampNeg v8) l2 l3 K)))))) : C_X7_readMethod_111 Z (d + 1) σ l2 l3 K := by
  unfold C_X7_readMethod_111
  refine ab_fin.s2 (i := .aload_n 0) (k := 1) (pc' := 112) (lv' := [(0, .ref 40), (1, .ref 10), (2, .int l2), (3, .int l3)]) (st' := [.ref 40]) (by decide +kernel) rfl rfl ?_
  refine ab_fin.q_yI (i := .invokevirtual 41) (k := 3) (y := 1798) (As := [.ref 40]) (rest := []) (M' := (mX7_sign, [])) (lv2 := [(0, .ref 40)]) (pc' := 115) (X := K) (by decide +kernel) (ab_cv rfl rfl (conc_get (σ := σ) (F.s t0_40)) ⟨(Nat.le_of_ble_eq_true rfl), (Nat.le_of_ble_eq_true rfl)⟩ rfl) rfl (Nat.le_of_ble_eq_true rfl) rfl rfl (hY_no fun E => rfl) w (fun v3 τ1 F2 w => ?_)
  refine ab_fin.s1i (i := .bipush 28) (k := 2) (pc' := 117) (n := 28) (by decide +kernel) rfl (by decide +kernel) rfl ?_
  refine ab_fin.br (c := ¬ v3 = 28) (i := .if_icmp .ne 20) (off := 20) (t := 137) (pc' := 120) (r := []) (by decide +kernel) rfl (by decide +kernel) rfl (fun q => ?_) (fun q => ?_)
  · replace w := w.1 q
    exact ab_fin.lv ⟨(List.forall_mem_cons.mpr ⟨(List.Mem.head _), (List.forall_mem_cons.mpr ⟨(List.Mem.tail _ (List.Mem.head _)), (List.forall_mem_cons.mpr ⟨(List.Mem.tail _ (List.Mem.tail _ (List.Mem.head _))), (List.forall_mem_cons.mpr ⟨(List.Mem.tail _ (List.Mem.tail _ (List.Mem.tail _ (List.Mem.head _)))), (fun _ h => absurd h List.not_mem_nil)⟩)⟩)⟩)⟩), (show ([0, 1, 2, 3] : List Nat).Nodup from by decide)⟩ w
  · replace w := w.2 (Decidable.of_not_not q)
    refine ab_fin.s2 (i := .aload_n 0) (k := 1) (pc' := 121) (lv' := [(0, .ref 40), (1, .ref 10), (2, .int l2), (3, .int l3)]) (st' := [.ref 40]) (by decide +kernel) rfl rfl ?_
    refine ab_fin.s1i (i := .bipush 28) (k := 2) (pc' := 123) (n := 28) (by decide +kernel) rfl (by decide +kernel) rfl ?_
    refine ab_fin.q_yN (i := .invokevirtual 57) (k := 3) (y := 1799) (As := [.ref 40, .int 28]) (rest := []) (M' := (mX7_take, [])) (lv2 := [(0, .ref 40), (1, .int 28)]) (pc' := 126) (X := K) (by decide +kernel) (ab_cv rfl rfl (conc_get (σ := τ1) (F2.s t0_40)) ⟨(Nat.le_of_ble_eq_true rfl), (Nat.le_of_ble_eq_true rfl)⟩ rfl) rfl (Nat.le_of_ble_eq_true rfl) rfl rfl (hY_no fun E => rfl) w (fun τ4 F5 w => ?_)
    refine ab_fin.s2 (i := .aload_n 1) (k := 1) (pc' := 127) (lv' := [(0, .ref 40), (1, .ref 10), (2, .int l2), (3, .int l3)]) (st' := [.ref 10]) (by decide +kernel) rfl rfl ?_
    refine ab_fin.q_rA (b := 13) (ix := 197) (ci := 6) (k := 3) (pc' := 130) (by decide +kernel) rfl (c_rA (F5.s t0_10) rfl (rC_6_3 F5 t0_10)) rfl ?_
    refine ab_fin.s2 (i := .iload_n 2) (k := 1) (pc' := 131) (lv' := [(0, .ref 40), (1, .ref 10), (2, .int l2), (3, .int l3)]) (st' := [.int l2, .ref 13]) (by decide +kernel) rfl rfl ?_
    refine ab_fin.s2 (i := .aload_n 0) (k := 1) (pc' := 132) (lv' := [(0, .ref 40), (1, .ref 10), (2, .int l2), (3, .int l3)]) (st' := [.ref 40, .int l2, .ref 13]) (by decide +kernel) rfl rfl ?_
    refine ab_fin.s1i (i := .iconst 2) (k := 1) (pc' := 133) (n := 2) (by decide +kernel) rfl (by decide +kernel) rfl ?_
    refine ab_fin.q_yI (i := .invokevirtual 151) (k := 3) (y := 1802) (As := [.ref 40, .int 2]) (rest := [.int l2, .ref 13]) (M' := (mX7_takeKnownName, [])) (lv2 := [(0, .ref 40), (1, .int 2)]) (pc' := 136) (X := K) (by decide +kernel) (ab_cv rfl rfl (conc_get (σ := τ4) (F5.s t0_40)) ⟨(Nat.le_of_ble_eq_true rfl), (Nat.le_of_ble_eq_true rfl)⟩ rfl) rfl (Nat.le_of_ble_eq_true rfl) rfl rfl (hY_no fun E => rfl) w (fun v8 τ6 F7 w => ?_)
    obtain ⟨e9, w⟩ := w
    refine ab_fin.q_sI (h1 := conc (τ6.wi 13 l2.toNatClampNeg v8)) (pc' := 137) (by decide +kernel) (c_sI' (F7.s t0_13) e9 rfl) rfl ?_
    exact ab_fin.lv ⟨(List.forall_mem_cons.mpr ⟨(List.Mem.head _), (List.forall_mem_cons.mpr ⟨(List.Mem.tail _ (List.Mem.head _)), (List.forall_mem_cons.mpr ⟨(List.Mem.tail _ (List.Mem.tail _ (List.Mem.head _))), (List.forall_mem_cons.mpr ⟨(List.Mem.tail _ (List.Mem.tail _ (List.Mem.tail _ (List.Mem.head _)))), (fun _ h => absurd h List.not_mem_nil)⟩)⟩)⟩)⟩), (show ([0, 1, 2, 3] : List Nat).Nodup from by decide)⟩ w
theorem T_X7_readMethod_137 {Z : zT} {d : Nat} {σ : Sg} {l2 : Int32} {l3 : Int32} {K : kS} (F : FX ΦC σ.sh σ.r) (w : C_X7_sign_0 Z d σ  (yI K fun v3 τ1 => (¬ v3 = 29 → C_X7_readMethod_169 Z (d + 1) τ1 l2 l3 K) ∧ (v3 = 29 → C_X7_take_0 Z d τ1 29 (yN K fun τ4 => C_X7_readTest_0 Z d (τ4.wi 40 10 (0 : Int32)) l2 0 (yL K fun v8 τ6 => ib l2 122 ∧ (C_X7_readMethod_169 Z (d + 1) (τ6.wl 23 l2.toNatClampNeg v8) l2 l3 K)))))) : C_X7_readMethod_137 Z (d + 1) σ l2 l3 K := by
  unfold C_X7_readMethod_137
  refine ab_fin.s2 (i := .aload_n 0) (k := 1) (pc' := 138) (lv' := [(0, .ref 40), (1, .ref 10), (2, .int l2), (3, .int l3)]) (st' := [.ref 40]) (by decide +kernel) rfl rfl ?_
  refine ab_fin.q_yI (i := .invokevirtual 41) (k := 3) (y := 1798) (As := [.ref 40]) (rest := []) (M' := (mX7_sign, [])) (lv2 := [(0, .ref 40)]) (pc' := 141) (X := K) (by decide +kernel) (ab_cv rfl rfl (conc_get (σ := σ) (F.s t0_40)) ⟨(Nat.le_of_ble_eq_true rfl), (Nat.le_of_ble_eq_true rfl)⟩ rfl) rfl (Nat.le_of_ble_eq_true rfl) rfl rfl (hY_no fun E => rfl) w (fun v3 τ1 F2 w => ?_)
  refine ab_fin.s1i (i := .bipush 29) (k := 2) (pc' := 143) (n := 29) (by decide +kernel) rfl (by decide +kernel) rfl ?_
  refine ab_fin.br (c := ¬ v3 = 29) (i := .if_icmp .ne 26) (off := 26) (t := 169) (pc' := 146) (r := []) (by decide +kernel) rfl (by decide +kernel) rfl (fun q => ?_) (fun q => ?_)
  · replace w := w.1 q
    exact ab_fin.lv ⟨(List.forall_mem_cons.mpr ⟨(List.Mem.head _), (List.forall_mem_cons.mpr ⟨(List.Mem.tail _ (List.Mem.head _)), (List.forall_mem_cons.mpr ⟨(List.Mem.tail _ (List.Mem.tail _ (List.Mem.head _))), (List.forall_mem_cons.mpr ⟨(List.Mem.tail _ (List.Mem.tail _ (List.Mem.tail _ (List.Mem.head _)))), (fun _ h => absurd h List.not_mem_nil)⟩)⟩)⟩)⟩), (show ([0, 1, 2, 3] : List Nat).Nodup from by decide)⟩ w
  · replace w := w.2 (Decidable.of_not_not q)
    refine ab_fin.s2 (i := .aload_n 0) (k := 1) (pc' := 147) (lv' := [(0, .ref 40), (1, .ref 10), (2, .int l2), (3, .int l3)]) (st' := [.ref 40]) (by decide +kernel) rfl rfl ?_
    refine ab_fin.s1i (i := .bipush 29) (k := 2) (pc' := 149) (n := 29) (by decide +kernel) rfl (by decide +kernel) rfl ?_
    refine ab_fin.q_yN (i := .invokevirtual 57) (k := 3) (y := 1799) (As := [.ref 40, .int 29]) (rest := []) (M' := (mX7_take, [])) (lv2 := [(0, .ref 40), (1, .int 29)]) (pc' := 152) (X := K) (by decide +kernel) (ab_cv rfl rfl (conc_get (σ := τ1) (F2.s t0_40)) ⟨(Nat.le_of_ble_eq_true rfl), (Nat.le_of_ble_eq_true rfl)⟩ rfl) rfl (Nat.le_of_ble_eq_true rfl) rfl rfl (hY_no fun E => rfl) w (fun τ4 F5 w => ?_)
    refine ab_fin.s2 (i := .aload_n 0) (k := 1) (pc' := 153) (lv' := [(0, .ref 40), (1, .ref 10), (2, .int l2), (3, .int l3)]) (st' := [.ref 40]) (by decide +kernel) rfl rfl ?_
    refine ab_fin.s1i (i := .iconst 0) (k := 1) (pc' := 154) (n := 0) (by decide +kernel) rfl (by decide +kernel) rfl ?_
    refine ab_fin.q_pF (ix := 200) (ci := 8) (k := 10) (h1 := conc (τ4.wi 40 10 (0 : Int32))) (pc' := 157) (by decide +kernel) rfl (c_pI (v := 0) (F5.s t0_40) rfl) rfl rfl rfl ?_
    refine ab_fin.s2 (i := .aload_n 1) (k := 1) (pc' := 158) (lv' := [(0, .ref 40), (1, .ref 10), (2, .int l2), (3, .int l3)]) (st' := [.ref 10]) (by decide +kernel) rfl rfl ?_
    refine ab_fin.q_rA (b := 23) (ix := 203) (ci := 6) (k := 13) (pc' := 161) (by decide +kernel) rfl (c_rA (F5.s t0_10) rfl (rC_6_13 F5 t0_10)) rfl ?_
    refine ab_fin.s2 (i := .iload_n 2) (k := 1) (pc' := 162) (lv' := [(0, .ref 40), (1, .ref 10), (2, .int l2), (3, .int l3)]) (st' := [.int l2, .ref 23]) (by decide +kernel) rfl rfl ?_
    refine ab_fin.s2 (i := .aload_n 0) (k := 1) (pc' := 163) (lv' := [(0, .ref 40), (1, .ref 10), (2, .int l2), (3, .int l3)]) (st' := [.ref 40, .int l2, .ref 23]) (by decide +kernel) rfl rfl ?_
    refine ab_fin.s2 (i := .iload_n 2) (k := 1) (pc' := 164) (lv' := [(0, .ref 40), (1, .ref 10), (2, .int l2), (3, .int l3)]) (st' := [.int l2, .ref 40, .int l2, .ref 23]) (by decide +kernel) rfl rfl ?_
    refine ab_fin.s1i (i := .iconst 0) (k := 1) (pc' := 165) (n := 0) (by decide +kernel) rfl (by decide +kernel) rfl ?_
    refine ab_fin.q_yL (i := .invokevirtual 206) (k := 3) (y := 1810) (As := [.ref 40, .int l2, .int 0]) (rest := [.int l2, .ref 23]) (M' := (mX7_readTest, [])) (lv2 := [(0, .ref 40), (1, .int l2), (2, .int 0)]) (pc' := 168) (X := K) (by decide +kernel) (ab_cv rfl rfl (conc_get (σ := (τ4.wi 40 10 (0 : Int32))) (F5.s t0_40)) ⟨(Nat.le_of_ble_eq_true rfl), (Nat.le_of_ble_eq_true rfl)⟩ rfl) rfl (Nat.le_of_ble_eq_true rfl) rfl rfl (hY_no fun E => rfl) w (fun v8 τ6 F7 w => ?_)
    obtain ⟨e9, w⟩ := w
    refine ab_fin.q_sL (h1 := conc (τ6.wl 23 l2.toNatClampNeg v8)) (pc' := 169) (by decide +kernel) (c_sL' (F7.s t0_23) e9 rfl) rfl ?_
    exact ab_fin.lv ⟨(List.forall_mem_cons.mpr ⟨(List.Mem.head _), (List.forall_mem_cons.mpr ⟨(List.Mem.tail _ (List.Mem.head _)), (List.forall_mem_cons.mpr ⟨(List.Mem.tail _ (List.Mem.tail _ (List.Mem.head _))), (List.forall_mem_cons.mpr ⟨(List.Mem.tail _ (List.Mem.tail _ (List.Mem.tail _ (List.Mem.head _)))), (fun _ h => absurd h List.not_mem_nil)⟩)⟩)⟩)⟩), (show ([0, 1, 2, 3] : List Nat).Nodup from by decide)⟩ w
theorem T_X7_readMethod_169 {Z : zT} {d : Nat} {σ : Sg} {l2 : Int32} {l3 : Int32} {K : kS} (F : FX ΦC σ.sh σ.r) (w : C_X7_take_0 Z d σ 14 (yN K fun τ1 => ib l2 122 ∧ (C_X7_readBody_0 Z d (τ1.wi 14 l2.toNatClampNeg (τ1.i 24 3)) (τ1.i 24 3) (yN K fun τ4 => C_X7_take_0 Z d τ4 7 (yN K fun τ6 => C_X7_isClean_0 Z d τ6  (yI K fun v10 τ8 => (v10 = 0 → K (.inl none) τ8) ∧ (¬ v10 = 0 → C_X5_hasTwin_0 Z d τ8 l2 (yI K fun v13 τ11 => (v13 = 0 → K (.inl none) (τ11.wi 10 0 ((τ11.i 10 0) + (1 : Int32)))) ∧ (¬ v13 = 0 → C_X7_breakRule_0 Z d τ11 2 l3 (yN K fun τ14 => K (.inl none) τ14)))))))))) : C_X7_readMethod_169 Z (d + 1) σ l2 l3 K := by
  unfold C_X7_readMethod_169
  refine ab_fin.s2 (i := .aload_n 0) (k := 1) (pc' := 170) (lv' := [(0, .ref 40), (1, .ref 10), (2, .int l2), (3, .int l3)]) (st' := [.ref 40]) (by decide +kernel) rfl rfl ?_
  refine ab_fin.s1i (i := .bipush 14) (k := 2) (pc' := 172) (n := 14) (by decide +kernel) rfl (by decide +kernel) rfl ?_
  refine ab_fin.q_yN (i := .invokevirtual 57) (k := 3) (y := 1799) (As := [.ref 40, .int 14]) (rest := []) (M' := (mX7_take, [])) (lv2 := [(0, .ref 40), (1, .int 14)]) (pc' := 175) (X := K) (by decide +kernel) (ab_cv rfl rfl (conc_get (σ := σ) (F.s t0_40)) ⟨(Nat.le_of_ble_eq_true rfl), (Nat.le_of_ble_eq_true rfl)⟩ rfl) rfl (Nat.le_of_ble_eq_true rfl) rfl rfl (hY_no fun E => rfl) w (fun τ1 F2 w => ?_)
  refine ab_fin.s2 (i := .aload_n 1) (k := 1) (pc' := 176) (lv' := [(0, .ref 40), (1, .ref 10), (2, .int l2), (3, .int l3)]) (st' := [.ref 10]) (by decide +kernel) rfl rfl ?_
  refine ab_fin.q_rA (b := 14) (ix := 210) (ci := 6) (k := 4) (pc' := 179) (by decide +kernel) rfl (c_rA (F2.s t0_10) rfl (rC_6_4 F2 t0_10)) rfl ?_
  refine ab_fin.s2 (i := .iload_n 2) (k := 1) (pc' := 180) (lv' := [(0, .ref 40), (1, .ref 10), (2, .int l2), (3, .int l3)]) (st' := [.int l2, .ref 14]) (by decide +kernel) rfl rfl ?_
  refine ab_fin.s2 (i := .aload_n 0) (k := 1) (pc' := 181) (lv' := [(0, .ref 40), (1, .ref 10), (2, .int l2), (3, .int l3)]) (st' := [.ref 40, .int l2, .ref 14]) (by decide +kernel) rfl rfl ?_
  refine ab_fin.q_rA (b := 1) (ix := 18) (ci := 8) (k := 0) (pc' := 184) (by decide +kernel) rfl (c_rA (F2.s t0_40) rfl (rC_8_0 F2 t0_40)) rfl ?_
  refine ab_fin.q_rA (b := 24) (ix := 74) (ci := 12) (k := 2) (pc' := 187) (by decide +kernel) rfl (c_rA (F2.s t0_1) rfl (rC_12_2 F2 t0_1)) rfl ?_
  refine ab_fin.q_rI (x := (τ1.i 24 3)) (ix := 78) (ci := 2) (k := 3) (pc' := 190) (by decide +kernel) rfl (c_rI (F2.s t0_24) rfl) rfl ?_
  obtain ⟨e3, w⟩ := w
  refine ab_fin.q_sI (h1 := conc (τ1.wi 14 l2.toNatClampNeg (τ1.i 24 3))) (pc' := 191) (by decide +kernel) (c_sI' (F2.s t0_14) e3 rfl) rfl ?_
  refine ab_fin.s2 (i := .aload_n 0) (k := 1) (pc' := 192) (lv' := [(0, .ref 40), (1, .ref 10), (2, .int l2), (3, .int l3)]) (st' := [.ref 40]) (by decide +kernel) rfl rfl ?_
  refine ab_fin.s2 (i := .aload_n 0) (k := 1) (pc' := 193) (lv' := [(0, .ref 40), (1, .ref 10), (2, .int l2), (3, .int l3)]) (st' := [.ref 40, .ref 40]) (by decide +kernel) rfl rfl ?_
  refine ab_fin.q_rA (b := 1) (ix := 18) (ci := 8) (k := 0) (pc' := 196) (by decide +kernel) rfl (c_rA (F2.s t0_40) rfl (rC_8_0 F2 t0_40)) rfl ?_
  refine ab_fin.q_rA (b := 24) (ix := 74) (ci := 12) (k := 2) (pc' := 199) (by decide +kernel) rfl (c_rA (F2.s t0_1) rfl (rC_12_2 F2 t0_1)) rfl ?_
  refine ab_fin.q_rI (x := (τ1.i 24 3)) (ix := 78) (ci := 2) (k := 3) (pc' := 202) (by decide +kernel) rfl (c_rI (F2.s t0_24) rfl) rfl ?_
  refine ab_fin.q_yN (i := .invokevirtual 94) (k := 3) (y := 1814) (As := [.ref 40, .int (τ1.i 24 3)]) (rest := []) (M' := (mX7_readBody, [])) (lv2 := [(0, .ref 40), (1, .int (τ1.i 24 3))]) (pc' := 205) (X := K) (by decide +kernel) (ab_cv rfl rfl (conc_get (σ := (τ1.wi 14 l2.toNatClampNeg (τ1.i 24 3))) (F2.s t0_40)) ⟨(Nat.le_of_ble_eq_true rfl), (Nat.le_of_ble_eq_true rfl)⟩ rfl) rfl (Nat.le_of_ble_eq_true rfl) rfl rfl (hY_no fun E => rfl) w (fun τ4 F5 w => ?_)
  refine ab_fin.s2 (i := .aload_n 0) (k := 1) (pc' := 206) (lv' := [(0, .ref 40), (1, .ref 10), (2, .int l2), (3, .int l3)]) (st' := [.ref 40]) (by decide +kernel) rfl rfl ?_
  refine ab_fin.s1i (i := .bipush 7) (k := 2) (pc' := 208) (n := 7) (by decide +kernel) rfl (by decide +kernel) rfl ?_
  refine ab_fin.q_yN (i := .invokevirtual 57) (k := 3) (y := 1799) (As := [.ref 40, .int 7]) (rest := []) (M' := (mX7_take, [])) (lv2 := [(0, .ref 40), (1, .int 7)]) (pc' := 211) (X := K) (by decide +kernel) (ab_cv rfl rfl (conc_get (σ := τ4) (F5.s t0_40)) ⟨(Nat.le_of_ble_eq_true rfl), (Nat.le_of_ble_eq_true rfl)⟩ rfl) rfl (Nat.le_of_ble_eq_true rfl) rfl rfl (hY_no fun E => rfl) w (fun τ6 F7 w => ?_)
  refine ab_fin.s2 (i := .aload_n 0) (k := 1) (pc' := 212) (lv' := [(0, .ref 40), (1, .ref 10), (2, .int l2), (3, .int l3)]) (st' := [.ref 40]) (by decide +kernel) rfl rfl ?_
  refine ab_fin.q_yI (i := .invokevirtual 61) (k := 3) (y := 1796) (As := [.ref 40]) (rest := []) (M' := (mX7_isClean, [])) (lv2 := [(0, .ref 40)]) (pc' := 215) (X := K) (by decide +kernel) (ab_cv rfl rfl (conc_get (σ := τ6) (F7.s t0_40)) ⟨(Nat.le_of_ble_eq_true rfl), (Nat.le_of_ble_eq_true rfl)⟩ rfl) rfl (Nat.le_of_ble_eq_true rfl) rfl rfl (hY_no fun E => rfl) w (fun v10 τ8 F9 w => ?_)
  refine ab_fin.br (c := v10 = 0) (i := .ifCond .eq 30) (off := 30) (t := 245) (pc' := 218) (r := []) (by decide +kernel) rfl (by decide +kernel) rfl (fun q => ?_) (fun q => ?_)
  · replace w := w.1 q
    exact ab_fin.q_ret (i := .return_) (k := 1) (v := none) (by decide +kernel) rfl F9 w
  · replace w := w.2 q
    refine ab_fin.s2 (i := .aload_n 1) (k := 1) (pc' := 219) (lv' := [(0, .ref 40), (1, .ref 10), (2, .int l2), (3, .int l3)]) (st' := [.ref 10]) (by decide +kernel) rfl rfl ?_
    refine ab_fin.s2 (i := .iload_n 2) (k := 1) (pc' := 220) (lv' := [(0, .ref 40), (1, .ref 10), (2, .int l2), (3, .int l3)]) (st' := [.int l2, .ref 10]) (by decide +kernel) rfl rfl ?_
    refine ab_fin.q_yI (i := .invokevirtual 213) (k := 3) (y := 1287) (As := [.ref 10, .int l2]) (rest := []) (M' := (mX5_hasTwin, [])) (lv2 := [(0, .ref 10), (1, .int l2)]) (pc' := 223) (X := K) (by decide +kernel) (ab_cv rfl rfl (conc_get (σ := τ8) (F9.s t0_10)) ⟨(Nat.le_of_ble_eq_true rfl), (Nat.le_of_ble_eq_true rfl)⟩ rfl) rfl (Nat.le_of_ble_eq_true rfl) rfl rfl (hY_no fun E => rfl) w (fun v13 τ11 F12 w => ?_)
    refine ab_fin.br (c := v13 = 0) (i := .ifCond .eq 12) (off := 12) (t := 235) (pc' := 226) (r := []) (by decide +kernel) rfl (by decide +kernel) rfl (fun q => ?_) (fun q => ?_)
    · replace w := w.1 q
      refine ab_fin.s2 (i := .aload_n 1) (k := 1) (pc' := 236) (lv' := [(0, .ref 40), (1, .ref 10), (2, .int l2), (3, .int l3)]) (st' := [.ref 10]) (by decide +kernel) rfl rfl ?_
      refine ab_fin.s1 (i := .dup) (k := 1) (pc' := 237) (st' := [.ref 10, .ref 10]) (by decide +kernel) rfl rfl ?_
      refine ab_fin.q_rI (x := (τ11.i 10 0)) (ix := 183) (ci := 6) (k := 0) (pc' := 240) (by decide +kernel) rfl (c_rI (F12.s t0_10) rfl) rfl ?_
      refine ab_fin.s1i (i := .iconst 1) (k := 1) (pc' := 241) (n := 1) (by decide +kernel) rfl (by decide +kernel) rfl ?_
      refine ab_fin.s1 (i := .iadd) (k := 1) (pc' := 242) (st' := [.int ((τ11.i 10 0) + (1 : Int32)), .ref 10]) (by decide +kernel) rfl rfl ?_
      refine ab_fin.q_pF (ix := 183) (ci := 6) (k := 0) (h1 := conc (τ11.wi 10 0 ((τ11.i 10 0) + (1 : Int32)))) (pc' := 245) (by decide +kernel) rfl (c_pI (v := ((τ11.i 10 0) + (1 : Int32))) (F12.s t0_10) rfl) rfl rfl rfl ?_
      exact ab_fin.q_ret (i := .return_) (k := 1) (v := none) (by decide +kernel) rfl F12 w
    · replace w := w.2 q
      refine ab_fin.s2 (i := .aload_n 0) (k := 1) (pc' := 227) (lv' := [(0, .ref 40), (1, .ref 10), (2, .int l2), (3, .int l3)]) (st' := [.ref 40]) (by decide +kernel) rfl rfl ?_
      refine ab_fin.s1i (i := .iconst 2) (k := 1) (pc' := 228) (n := 2) (by decide +kernel) rfl (by decide +kernel) rfl ?_
      refine ab_fin.s2 (i := .iload_n 3) (k := 1) (pc' := 229) (lv' := [(0, .ref 40), (1, .ref 10), (2, .int l2), (3, .int l3)]) (st' := [.int l3, .int 2, .ref 40]) (by decide +kernel) rfl rfl ?_
      refine ab_fin.q_yN (i := .invokevirtual 126) (k := 3) (y := 1800) (As := [.ref 40, .int 2, .int l3]) (rest := []) (M' := (mX7_breakRule, [])) (lv2 := [(0, .ref 40), (1, .int 2), (2, .int l3)]) (pc' := 232) (X := K) (by decide +kernel) (ab_cv rfl rfl (conc_get (σ := τ11) (F12.s t0_40)) ⟨(Nat.le_of_ble_eq_true rfl), (Nat.le_of_ble_eq_true rfl)⟩ rfl) rfl (Nat.le_of_ble_eq_true rfl) rfl rfl (hY_no fun E => rfl) w (fun τ14 F15 w => ?_)
      refine ab_fin.s3 (i := .goto 13) (k := 3) (t := 245) (st' := []) (by decide +kernel) (ab_gto (by decide +kernel)) ?_
      exact ab_fin.q_ret (i := .return_) (k := 1) (v := none) (by decide +kernel) rfl F15 w
theorem T_X7_readSpecs_0 {Z : zT} {d : Nat} {σ : Sg} {l1 : Int32} {K : kS} (F : FX ΦC σ.sh σ.r) (w : (0 ≤ (σ.i 40 8) → ib (σ.i 40 8) 24 ∧ (C_X7_readSpecs_23 Z (d + 1) σ l1 (σ.i 31 ((σ.i 40 8).toNatClampNeg)) K)) ∧ (¬ 0 ≤ (σ.i 40 8) → C_X7_readSpecs_23 Z (d + 1) σ l1 3 K)) : C_X7_readSpecs_0 Z (d + 1) σ l1 K := by
  unfold C_X7_readSpecs_0
  refine ab_fin.s2 (i := .aload_n 0) (k := 1) (pc' := 1) (lv' := [(0, .ref 40), (1, .int l1)]) (st' := [.ref 40]) (by decide +kernel) rfl rfl ?_
  refine ab_fin.q_rI (x := (σ.i 40 8)) (ix := 87) (ci := 8) (k := 8) (pc' := 4) (by decide +kernel) rfl (c_rI (F.s t0_40) rfl) rfl ?_
  refine ab_fin.br (c := 0 ≤ (σ.i 40 8)) (i := .ifCond .ge 7) (off := 7) (t := 11) (pc' := 7) (r := []) (by decide +kernel) rfl (by decide +kernel) rfl (fun q => ?_) (fun q => ?_)
  · replace w := w.1 q
    refine ab_fin.s2 (i := .aload_n 0) (k := 1) (pc' := 12) (lv' := [(0, .ref 40), (1, .int l1)]) (st' := [.ref 40]) (by decide +kernel) rfl rfl ?_
    refine ab_fin.q_rA (b := 1) (ix := 18) (ci := 8) (k := 0) (pc' := 15) (by decide +kernel) rfl (c_rA (F.s t0_40) rfl (rC_8_0 F t0_40)) rfl ?_
    refine ab_fin.q_rA (b := 31) (ix := 170) (ci := 12) (k := 6) (pc' := 18) (by decide +kernel) rfl (c_rA (F.s t0_1) rfl (rC_12_6 F t0_1)) rfl ?_
    refine ab_fin.s2 (i := .aload_n 0) (k := 1) (pc' := 19) (lv' := [(0, .ref 40), (1, .int l1)]) (st' := [.ref 40, .ref 31]) (by decide +kernel) rfl rfl ?_
    refine ab_fin.q_rI (x := (σ.i 40 8)) (ix := 87) (ci := 8) (k := 8) (pc' := 22) (by decide +kernel) rfl (c_rI (F.s t0_40) rfl) rfl ?_
    obtain ⟨e1, w⟩ := w
    refine ab_fin.q_eI (x := (σ.i 31 ((σ.i 40 8).toNatClampNeg))) (pc' := 23) (by decide +kernel) (c_eI' (F.s t0_31) e1 rfl) rfl ?_
    exact ab_fin.lv ⟨(List.forall_mem_cons.mpr ⟨(List.Mem.head _), (List.forall_mem_cons.mpr ⟨(List.Mem.tail _ (List.Mem.head _)), (fun _ h => absurd h List.not_mem_nil)⟩)⟩), (show ([0, 1] : List Nat).Nodup from by decide)⟩ w
  · replace w := w.2 q
    refine ab_fin.s1i (i := .iconst 3) (k := 1) (pc' := 8) (n := 3) (by decide +kernel) rfl (by decide +kernel) rfl ?_
    refine ab_fin.s3 (i := .goto 15) (k := 3) (t := 23) (st' := [.int 3]) (by decide +kernel) (ab_gto (by decide +kernel)) ?_
    exact ab_fin.lv ⟨(List.forall_mem_cons.mpr ⟨(List.Mem.head _), (List.forall_mem_cons.mpr ⟨(List.Mem.tail _ (List.Mem.head _)), (fun _ h => absurd h List.not_mem_nil)⟩)⟩), (show ([0, 1] : List Nat).Nodup from by decide)⟩ w
theorem T_X7_readSpecs_23 {Z : zT} {d : Nat} {σ : Sg} {l1 : Int32} {s0 : Int32} {K : kS} (F : FX ΦC σ.sh σ.r) (w : C_X7_take_0 Z d (σ.wi 28 3 (0 : Int32)) 4 (yN K fun τ1 => C_X7_readSpecs_47 Z (d + 1) τ1 l1 s0 1 0 0 K)) : C_X7_readSpecs_23 Z (d + 1) σ l1 s0 K := by
  unfold C_X7_readSpecs_23
  refine ab_fin.s2 (i := .istore_n 2) (k := 1) (pc' := 24) (lv' := [(2, .int s0), (0, .ref 40), (1, .int l1)]) (st' := []) (by decide +kernel) rfl rfl ?_
  refine ab_fin.s2 (i := .aload_n 0) (k := 1) (pc' := 25) (lv' := [(2, .int s0), (0, .ref 40), (1, .int l1)]) (st' := [.ref 40]) (by decide +kernel) rfl rfl ?_
  refine ab_fin.q_rA (b := 1) (ix := 18) (ci := 8) (k := 0) (pc' := 28) (by decide +kernel) rfl (c_rA (F.s t0_40) rfl (rC_8_0 F t0_40)) rfl ?_
  refine ab_fin.q_rA (b := 28) (ix := 90) (ci := 12) (k := 3) (pc' := 31) (by decide +kernel) rfl (c_rA (F.s t0_1) rfl (rC_12_3 F t0_1)) rfl ?_
  refine ab_fin.s1i (i := .iconst 3) (k := 1) (pc' := 32) (n := 3) (by decide +kernel) rfl (by decide +kernel) rfl ?_
  refine ab_fin.s1i (i := .iconst 0) (k := 1) (pc' := 33) (n := 0) (by decide +kernel) rfl (by decide +kernel) rfl ?_
  refine ab_fin.q_sI (h1 := conc (σ.wi 28 3 (0 : Int32))) (pc' := 34) (by decide +kernel) (c_sI' (F.s t0_28) (show ib (3 : Int32) 4 by decide +kernel) (by decide +kernel)) rfl ?_
  refine ab_fin.s2 (i := .aload_n 0) (k := 1) (pc' := 35) (lv' := [(2, .int s0), (0, .ref 40), (1, .int l1)]) (st' := [.ref 40]) (by decide +kernel) rfl rfl ?_
  refine ab_fin.s1i (i := .iconst 4) (k := 1) (pc' := 36) (n := 4) (by decide +kernel) rfl (by decide +kernel) rfl ?_
  refine ab_fin.q_yN (i := .invokevirtual 57) (k := 3) (y := 1799) (As := [.ref 40, .int 4]) (rest := []) (M' := (mX7_take, [])) (lv2 := [(0, .ref 40), (1, .int 4)]) (pc' := 39) (X := K) (by decide +kernel) (ab_cv rfl rfl (conc_get (σ := (σ.wi 28 3 (0 : Int32))) (F.s t0_40)) ⟨(Nat.le_of_ble_eq_true rfl), (Nat.le_of_ble_eq_true rfl)⟩ rfl) rfl (Nat.le_of_ble_eq_true rfl) rfl rfl (hY_no fun E => rfl) w (fun τ1 F2 w => ?_)
  refine ab_fin.s1i (i := .iconst 1) (k := 1) (pc' := 40) (n := 1) (by decide +kernel) rfl (by decide +kernel) rfl ?_
  refine ab_fin.s2 (i := .istore_n 3) (k := 1) (pc' := 41) (lv' := [(3, .int 1), (2, .int s0), (0, .ref 40), (1, .int l1)]) (st' := []) (by decide +kernel) rfl rfl ?_
  refine ab_fin.s1i (i := .iconst 0) (k := 1) (pc' := 42) (n := 0) (by decide +kernel) rfl (by decide +kernel) rfl ?_
  refine ab_fin.s2 (i := .istore 4) (k := 2) (pc' := 44) (lv' := [(4, .int 0), (3, .int 1), (2, .int s0), (0, .ref 40), (1, .int l1)]) (st' := []) (by decide +kernel) rfl rfl ?_
  refine ab_fin.s1i (i := .iconst 0) (k := 1) (pc' := 45) (n := 0) (by decide +kernel) rfl (by decide +kernel) rfl ?_
  refine ab_fin.s2 (i := .istore 5) (k := 2) (pc' := 47) (lv' := [(5, .int 0), (4, .int 0), (3, .int 1), (2, .int s0), (0, .ref 40), (1, .int l1)]) (st' := []) (by decide +kernel) rfl rfl ?_
  exact ab_fin.lv ⟨(List.forall_mem_cons.mpr ⟨(List.Mem.tail _ (List.Mem.tail _ (List.Mem.tail _ (List.Mem.tail _ (List.Mem.head _))))), (List.forall_mem_cons.mpr ⟨(List.Mem.tail _ (List.Mem.tail _ (List.Mem.tail _ (List.Mem.tail _ (List.Mem.tail _ (List.Mem.head _)))))), (List.forall_mem_cons.mpr ⟨(List.Mem.tail _ (List.Mem.tail _ (List.Mem.tail _ (List.Mem.head _)))), (List.forall_mem_cons.mpr ⟨(List.Mem.tail _ (List.Mem.tail _ (List.Mem.head _))), (List.forall_mem_cons.mpr ⟨(List.Mem.tail _ (List.Mem.head _)), (List.forall_mem_cons.mpr ⟨(List.Mem.head _), (fun _ h => absurd h List.not_mem_nil)⟩)⟩)⟩)⟩)⟩)⟩), (show ([5, 4, 3, 2, 0, 1] : List Nat).Nodup from by decide)⟩ w
theorem T_X7_readSpecs_47 {Z : zT} {d : Nat} {σ : Sg} {l1 : Int32} {l2 : Int32} {l3 : Int32} {l4 : Int32} {l5 : Int32} {K : kS} (F : FX ΦC σ.sh σ.r) (w : ((σ.i 41 4) ≤ l5 → C_X7_readSpecs_129 Z (d + 1) σ l2 l4 K) ∧ (¬ (σ.i 41 4) ≤ l5 → (l3 = 0 → C_X7_readSpecs_129 Z (d + 1) σ l2 l4 K) ∧ (¬ l3 = 0 → (¬ l4 = l2 → C_X7_readSpecs_78 Z (d + 1) σ l1 l2 l4 l5 K) ∧ (l4 = l2 → C_X7_breakRule_0 Z d σ 4 (σ.i 40 3) (yN K fun τ1 => C_X7_readSpecs_78 Z (d + 1) τ1 l1 l2 l4 l5 K))))) : C_X7_readSpecs_47 Z (d + 1) σ l1 l2 l3 l4 l5 K := by
  unfold C_X7_readSpecs_47
  refine ab_fin.s2 (i := .iload 5) (k := 2) (pc' := 49) (lv' := [(0, .ref 40), (1, .int l1), (2, .int l2), (3, .int l3), (4, .int l4), (5, .int l5)]) (st' := [.int l5]) (by decide +kernel) rfl rfl ?_
  refine ab_fin.s2 (i := .aload_n 0) (k := 1) (pc' := 50) (lv' := [(0, .ref 40), (1, .int l1), (2, .int l2), (3, .int l3), (4, .int l4), (5, .int l5)]) (st' := [.ref 40, .int l5]) (by decide +kernel) rfl rfl ?_
  refine ab_fin.q_rA (b := 41) (ix := 12) (ci := 8) (k := 1) (pc' := 53) (by decide +kernel) rfl (c_rA (F.s t0_40) rfl (rC_8_1 F t0_40)) rfl ?_
  refine ab_fin.q_rI (x := (σ.i 41 4)) (ix := 34) (ci := 9) (k := 4) (pc' := 56) (by decide +kernel) rfl (c_rI (F.s t0_41) rfl) rfl ?_
  refine ab_fin.br (c := (σ.i 41 4) ≤ l5) (i := .if_icmp .ge 73) (off := 73) (t := 129) (pc' := 59) (r := []) (by decide +kernel) rfl (by decide +kernel) rfl (fun q => ?_) (fun q => ?_)
  · replace w := w.1 q
    exact ab_fin.lv ⟨(List.forall_mem_cons.mpr ⟨(List.Mem.head _), (List.forall_mem_cons.mpr ⟨(List.Mem.tail _ (List.Mem.tail _ (List.Mem.head _))), (List.forall_mem_cons.mpr ⟨(List.Mem.tail _ (List.Mem.tail _ (List.Mem.tail _ (List.Mem.tail _ (List.Mem.head _))))), (fun _ h => absurd h List.not_mem_nil)⟩)⟩)⟩), (show ([0, 1, 2, 3, 4, 5] : List Nat).Nodup from by decide)⟩ w
  · replace w := w.2 q
    refine ab_fin.s2 (i := .iload_n 3) (k := 1) (pc' := 60) (lv' := [(0, .ref 40), (1, .int l1), (2, .int l2), (3, .int l3), (4, .int l4), (5, .int l5)]) (st' := [.int l3]) (by decide +kernel) rfl rfl ?_
    refine ab_fin.br (c := l3 = 0) (i := .ifCond .eq 69) (off := 69) (t := 129) (pc' := 63) (r := []) (by decide +kernel) rfl (by decide +kernel) rfl (fun q => ?_) (fun q => ?_)
    · replace w := w.1 q
      exact ab_fin.lv ⟨(List.forall_mem_cons.mpr ⟨(List.Mem.head _), (List.forall_mem_cons.mpr ⟨(List.Mem.tail _ (List.Mem.tail _ (List.Mem.head _))), (List.forall_mem_cons.mpr ⟨(List.Mem.tail _ (List.Mem.tail _ (List.Mem.tail _ (List.Mem.tail _ (List.Mem.head _))))), (fun _ h => absurd h List.not_mem_nil)⟩)⟩)⟩), (show ([0, 1, 2, 3, 4, 5] : List Nat).Nodup from by decide)⟩ w
    · replace w := w.2 q
      refine ab_fin.s2 (i := .iload 4) (k := 2) (pc' := 65) (lv' := [(0, .ref 40), (1, .int l1), (2, .int l2), (3, .int l3), (4, .int l4), (5, .int l5)]) (st' := [.int l4]) (by decide +kernel) rfl rfl ?_
      refine ab_fin.s2 (i := .iload_n 2) (k := 1) (pc' := 66) (lv' := [(0, .ref 40), (1, .int l1), (2, .int l2), (3, .int l3), (4, .int l4), (5, .int l5)]) (st' := [.int l2, .int l4]) (by decide +kernel) rfl rfl ?_
      refine ab_fin.br (c := ¬ l4 = l2) (i := .if_icmp .ne 12) (off := 12) (t := 78) (pc' := 69) (r := []) (by decide +kernel) rfl (by decide +kernel) rfl (fun q => ?_) (fun q => ?_)
      · replace w := w.1 q
        exact ab_fin.lv ⟨(List.forall_mem_cons.mpr ⟨(List.Mem.head _), (List.forall_mem_cons.mpr ⟨(List.Mem.tail _ (List.Mem.head _)), (List.forall_mem_cons.mpr ⟨(List.Mem.tail _ (List.Mem.tail _ (List.Mem.head _))), (List.forall_mem_cons.mpr ⟨(List.Mem.tail _ (List.Mem.tail _ (List.Mem.tail _ (List.Mem.tail _ (List.Mem.head _))))), (List.forall_mem_cons.mpr ⟨(List.Mem.tail _ (List.Mem.tail _ (List.Mem.tail _ (List.Mem.tail _ (List.Mem.tail _ (List.Mem.head _)))))), (fun _ h => absurd h List.not_mem_nil)⟩)⟩)⟩)⟩)⟩), (show ([0, 1, 2, 3, 4, 5] : List Nat).Nodup from by decide)⟩ w
      · replace w := w.2 (Decidable.of_not_not q)
        refine ab_fin.s2 (i := .aload_n 0) (k := 1) (pc' := 70) (lv' := [(0, .ref 40), (1, .int l1), (2, .int l2), (3, .int l3), (4, .int l4), (5, .int l5)]) (st' := [.ref 40]) (by decide +kernel) rfl rfl ?_
        refine ab_fin.s1i (i := .iconst 4) (k := 1) (pc' := 71) (n := 4) (by decide +kernel) rfl (by decide +kernel) rfl ?_
        refine ab_fin.s2 (i := .aload_n 0) (k := 1) (pc' := 72) (lv' := [(0, .ref 40), (1, .int l1), (2, .int l2), (3, .int l3), (4, .int l4), (5, .int l5)]) (st' := [.ref 40, .int 4, .ref 40]) (by decide +kernel) rfl rfl ?_
        refine ab_fin.q_rI (x := (σ.i 40 3)) (ix := 97) (ci := 8) (k := 3) (pc' := 75) (by decide +kernel) rfl (c_rI (F.s t0_40) rfl) rfl ?_
        refine ab_fin.q_yN (i := .invokevirtual 126) (k := 3) (y := 1800) (As := [.ref 40, .int 4, .int (σ.i 40 3)]) (rest := []) (M' := (mX7_breakRule, [])) (lv2 := [(0, .ref 40), (1, .int 4), (2, .int (σ.i 40 3))]) (pc' := 78) (X := K) (by decide +kernel) (ab_cv rfl rfl (conc_get (σ := σ) (F.s t0_40)) ⟨(Nat.le_of_ble_eq_true rfl), (Nat.le_of_ble_eq_true rfl)⟩ rfl) rfl (Nat.le_of_ble_eq_true rfl) rfl rfl (hY_no fun E => rfl) w (fun τ1 F2 w => ?_)
        exact ab_fin.lv ⟨(List.forall_mem_cons.mpr ⟨(List.Mem.head _), (List.forall_mem_cons.mpr ⟨(List.Mem.tail _ (List.Mem.head _)), (List.forall_mem_cons.mpr ⟨(List.Mem.tail _ (List.Mem.tail _ (List.Mem.head _))), (List.forall_mem_cons.mpr ⟨(List.Mem.tail _ (List.Mem.tail _ (List.Mem.tail _ (List.Mem.tail _ (List.Mem.head _))))), (List.forall_mem_cons.mpr ⟨(List.Mem.tail _ (List.Mem.tail _ (List.Mem.tail _ (List.Mem.tail _ (List.Mem.tail _ (List.Mem.head _)))))), (fun _ h => absurd h List.not_mem_nil)⟩)⟩)⟩)⟩)⟩), (show ([0, 1, 2, 3, 4, 5] : List Nat).Nodup from by decide)⟩ w
theorem T_X7_readSpecs_78 {Z : zT} {d : Nat} {σ : Sg} {l1 : Int32} {l2 : Int32} {l4 : Int32} {l5 : Int32} {K : kS} (F : FX ΦC σ.sh σ.r) (w : (l2 ≤ l4 → C_X7_readSpecs_92 Z (d + 1) σ l1 l2 l4 l5 l1 (-1) K) ∧ (¬ l2 ≤ l4 → C_X7_readSpecs_92 Z (d + 1) σ l1 l2 l4 l5 l1 l4 K)) : C_X7_readSpecs_78 Z (d + 1) σ l1 l2 l4 l5 K := by
  unfold C_X7_readSpecs_78
  refine ab_fin.s2 (i := .aload_n 0) (k := 1) (pc' := 79) (lv' := [(0, .ref 40), (1, .int l1), (2, .int l2), (4, .int l4), (5, .int l5)]) (st' := [.ref 40]) (by decide +kernel) rfl rfl ?_
  refine ab_fin.s2 (i := .iload_n 1) (k := 1) (pc' := 80) (lv' := [(0, .ref 40), (1, .int l1), (2, .int l2), (4, .int l4), (5, .int l5)]) (st' := [.int l1, .ref 40]) (by decide +kernel) rfl rfl ?_
  refine ab_fin.s2 (i := .iload 4) (k := 2) (pc' := 82) (lv' := [(0, .ref 40), (1, .int l1), (2, .int l2), (4, .int l4), (5, .int l5)]) (st' := [.int l4, .int l1, .ref 40]) (by decide +kernel) rfl rfl ?_
  refine ab_fin.s2 (i := .iload_n 2) (k := 1) (pc' := 83) (lv' := [(0, .ref 40), (1, .int l1), (2, .int l2), (4, .int l4), (5, .int l5)]) (st' := [.int l2, .int l4, .int l1, .ref 40]) (by decide +kernel) rfl rfl ?_
  refine ab_fin.br (c := l2 ≤ l4) (i := .if_icmp .ge 8) (off := 8) (t := 91) (pc' := 86) (r := [.int l1, .ref 40]) (by decide +kernel) rfl (by decide +kernel) rfl (fun q => ?_) (fun q => ?_)
  · replace w := w.1 q
    refine ab_fin.s1i (i := .iconst (-1)) (k := 1) (pc' := 92) (n := (-1)) (by decide +kernel) rfl (by decide +kernel) rfl ?_
    exact ab_fin.lv ⟨(List.forall_mem_cons.mpr ⟨(List.Mem.head _), (List.forall_mem_cons.mpr ⟨(List.Mem.tail _ (List.Mem.head _)), (List.forall_mem_cons.mpr ⟨(List.Mem.tail _ (List.Mem.tail _ (List.Mem.head _))), (List.forall_mem_cons.mpr ⟨(List.Mem.tail _ (List.Mem.tail _ (List.Mem.tail _ (List.Mem.head _)))), (List.forall_mem_cons.mpr ⟨(List.Mem.tail _ (List.Mem.tail _ (List.Mem.tail _ (List.Mem.tail _ (List.Mem.head _))))), (fun _ h => absurd h List.not_mem_nil)⟩)⟩)⟩)⟩)⟩), (show ([0, 1, 2, 4, 5] : List Nat).Nodup from by decide)⟩ w
  · replace w := w.2 q
    refine ab_fin.s2 (i := .iload 4) (k := 2) (pc' := 88) (lv' := [(0, .ref 40), (1, .int l1), (2, .int l2), (4, .int l4), (5, .int l5)]) (st' := [.int l4, .int l1, .ref 40]) (by decide +kernel) rfl rfl ?_
    refine ab_fin.s3 (i := .goto 4) (k := 3) (t := 92) (st' := [.int l4, .int l1, .ref 40]) (by decide +kernel) (ab_gto (by decide +kernel)) ?_
    exact ab_fin.lv ⟨(List.forall_mem_cons.mpr ⟨(List.Mem.head _), (List.forall_mem_cons.mpr ⟨(List.Mem.tail _ (List.Mem.head _)), (List.forall_mem_cons.mpr ⟨(List.Mem.tail _ (List.Mem.tail _ (List.Mem.head _))), (List.forall_mem_cons.mpr ⟨(List.Mem.tail _ (List.Mem.tail _ (List.Mem.tail _ (List.Mem.head _)))), (List.forall_mem_cons.mpr ⟨(List.Mem.tail _ (List.Mem.tail _ (List.Mem.tail _ (List.Mem.tail _ (List.Mem.head _))))), (fun _ h => absurd h List.not_mem_nil)⟩)⟩)⟩)⟩)⟩), (show ([0, 1, 2, 4, 5] : List Nat).Nodup from by decide)⟩ w
theorem T_X7_readSpecs_92 {Z : zT} {d : Nat} {σ : Sg} {l1 : Int32} {l2 : Int32} {l4 : Int32} {l5 : Int32} {s1 : Int32} {s2 : Int32} {K : kS} (F : FX ΦC σ.sh σ.r) (w : C_X7_readSpec_0 Z d σ s1 s2 (yN K fun τ1 => C_X7_sign_0 Z d τ1  (yI K fun v5 τ3 => (¬ v5 = 6 → ((0 : Int32) = 0 → C_X7_readSpecs_47 Z (d + 1) τ3 l1 l2 0 (l4 + 1) (l5 + 1) K) ∧ (¬ (0 : Int32) = 0 → C_X7_take_0 Z d τ3 6 (yN K fun τ6 => C_X7_readSpecs_47 Z (d + 1) τ6 l1 l2 0 (l4 + 1) (l5 + 1) K))) ∧ (v5 = 6 → ((1 : Int32) = 0 → C_X7_readSpecs_47 Z (d + 1) τ3 l1 l2 1 (l4 + 1) (l5 + 1) K) ∧ (¬ (1 : Int32) = 0 → C_X7_take_0 Z d τ3 6 (yN K fun τ8 => C_X7_readSpecs_47 Z (d + 1) τ8 l1 l2 1 (l4 + 1) (l5 + 1) K)))))) : C_X7_readSpecs_92 Z (d + 1) σ l1 l2 l4 l5 s1 s2 K := by
  unfold C_X7_readSpecs_92
  refine ab_fin.q_yN (i := .invokevirtual 216) (k := 3) (y := 1808) (As := [.ref 40, .int s1, .int s2]) (rest := []) (M' := (mX7_readSpec, [])) (lv2 := [(0, .ref 40), (1, .int s1), (2, .int s2)]) (pc' := 95) (X := K) (by decide +kernel) (ab_cv rfl rfl (conc_get (σ := σ) (F.s t0_40)) ⟨(Nat.le_of_ble_eq_true rfl), (Nat.le_of_ble_eq_true rfl)⟩ rfl) rfl (Nat.le_of_ble_eq_true rfl) rfl rfl (hY_no fun E => rfl) w (fun τ1 F2 w => ?_)
  refine ab_fin.q_inc (n := 4) (c := 1) (pc' := 98) (lv' := [(4, .int (l4 + 1)), (0, .ref 40), (1, .int l1), (2, .int l2), (5, .int l5)]) (by decide +kernel) (by decide) rfl rfl rfl rfl ?_
  refine ab_fin.s2 (i := .aload_n 0) (k := 1) (pc' := 99) (lv' := [(4, .int (l4 + 1)), (0, .ref 40), (1, .int l1), (2, .int l2), (5, .int l5)]) (st' := [.ref 40]) (by decide +kernel) rfl rfl ?_
  refine ab_fin.q_yI (i := .invokevirtual 41) (k := 3) (y := 1798) (As := [.ref 40]) (rest := []) (M' := (mX7_sign, [])) (lv2 := [(0, .ref 40)]) (pc' := 102) (X := K) (by decide +kernel) (ab_cv rfl rfl (conc_get (σ := τ1) (F2.s t0_40)) ⟨(Nat.le_of_ble_eq_true rfl), (Nat.le_of_ble_eq_true rfl)⟩ rfl) rfl (Nat.le_of_ble_eq_true rfl) rfl rfl (hY_no fun E => rfl) w (fun v5 τ3 F4 w => ?_)
  refine ab_fin.s1i (i := .bipush 6) (k := 2) (pc' := 104) (n := 6) (by decide +kernel) rfl (by decide +kernel) rfl ?_
  refine ab_fin.br (c := ¬ v5 = 6) (i := .if_icmp .ne 7) (off := 7) (t := 111) (pc' := 107) (r := []) (by decide +kernel) rfl (by decide +kernel) rfl (fun q => ?_) (fun q => ?_)
  · replace w := w.1 q
    refine ab_fin.s1i (i := .iconst 0) (k := 1) (pc' := 112) (n := 0) (by decide +kernel) rfl (by decide +kernel) rfl ?_
    refine ab_fin.s2 (i := .istore_n 3) (k := 1) (pc' := 113) (lv' := [(3, .int 0), (4, .int (l4 + 1)), (0, .ref 40), (1, .int l1), (2, .int l2), (5, .int l5)]) (st' := []) (by decide +kernel) rfl rfl ?_
    refine ab_fin.s2 (i := .iload_n 3) (k := 1) (pc' := 114) (lv' := [(3, .int 0), (4, .int (l4 + 1)), (0, .ref 40), (1, .int l1), (2, .int l2), (5, .int l5)]) (st' := [.int 0]) (by decide +kernel) rfl rfl ?_
    refine ab_fin.br (c := (0 : Int32) = 0) (i := .ifCond .eq 9) (off := 9) (t := 123) (pc' := 117) (r := []) (by decide +kernel) rfl (by decide +kernel) rfl (fun q => ?_) (fun q => ?_)
    · replace w := w.1 q
      refine ab_fin.q_inc (n := 5) (c := 1) (pc' := 126) (lv' := [(5, .int (l5 + 1)), (3, .int 0), (4, .int (l4 + 1)), (0, .ref 40), (1, .int l1), (2, .int l2)]) (by decide +kernel) (by decide) rfl rfl rfl rfl ?_
      refine ab_fin.s3 (i := .goto (-79)) (k := 3) (t := 47) (st' := []) (by decide +kernel) (ab_gto (by decide +kernel)) ?_
      exact ab_fin.lv ⟨(List.forall_mem_cons.mpr ⟨(List.Mem.tail _ (List.Mem.tail _ (List.Mem.tail _ (List.Mem.head _)))), (List.forall_mem_cons.mpr ⟨(List.Mem.tail _ (List.Mem.tail _ (List.Mem.tail _ (List.Mem.tail _ (List.Mem.head _))))), (List.forall_mem_cons.mpr ⟨(List.Mem.tail _ (List.Mem.tail _ (List.Mem.tail _ (List.Mem.tail _ (List.Mem.tail _ (List.Mem.head _)))))), (List.forall_mem_cons.mpr ⟨(List.Mem.tail _ (List.Mem.head _)), (List.forall_mem_cons.mpr ⟨(List.Mem.tail _ (List.Mem.tail _ (List.Mem.head _))), (List.forall_mem_cons.mpr ⟨(List.Mem.head _), (fun _ h => absurd h List.not_mem_nil)⟩)⟩)⟩)⟩)⟩)⟩), (show ([5, 3, 4, 0, 1, 2] : List Nat).Nodup from by decide)⟩ w
    · replace w := w.2 q
      refine ab_fin.s2 (i := .aload_n 0) (k := 1) (pc' := 118) (lv' := [(3, .int 0), (4, .int (l4 + 1)), (0, .ref 40), (1, .int l1), (2, .int l2), (5, .int l5)]) (st' := [.ref 40]) (by decide +kernel) rfl rfl ?_
      refine ab_fin.s1i (i := .bipush 6) (k := 2) (pc' := 120) (n := 6) (by decide +kernel) rfl (by decide +kernel) rfl ?_
      refine ab_fin.q_yN (i := .invokevirtual 57) (k := 3) (y := 1799) (As := [.ref 40, .int 6]) (rest := []) (M' := (mX7_take, [])) (lv2 := [(0, .ref 40), (1, .int 6)]) (pc' := 123) (X := K) (by decide +kernel) (ab_cv rfl rfl (conc_get (σ := τ3) (F4.s t0_40)) ⟨(Nat.le_of_ble_eq_true rfl), (Nat.le_of_ble_eq_true rfl)⟩ rfl) rfl (Nat.le_of_ble_eq_true rfl) rfl rfl (hY_no fun E => rfl) w (fun τ6 F7 w => ?_)
      refine ab_fin.q_inc (n := 5) (c := 1) (pc' := 126) (lv' := [(5, .int (l5 + 1)), (3, .int 0), (4, .int (l4 + 1)), (0, .ref 40), (1, .int l1), (2, .int l2)]) (by decide +kernel) (by decide) rfl rfl rfl rfl ?_
      refine ab_fin.s3 (i := .goto (-79)) (k := 3) (t := 47) (st' := []) (by decide +kernel) (ab_gto (by decide +kernel)) ?_
      exact ab_fin.lv ⟨(List.forall_mem_cons.mpr ⟨(List.Mem.tail _ (List.Mem.tail _ (List.Mem.tail _ (List.Mem.head _)))), (List.forall_mem_cons.mpr ⟨(List.Mem.tail _ (List.Mem.tail _ (List.Mem.tail _ (List.Mem.tail _ (List.Mem.head _))))), (List.forall_mem_cons.mpr ⟨(List.Mem.tail _ (List.Mem.tail _ (List.Mem.tail _ (List.Mem.tail _ (List.Mem.tail _ (List.Mem.head _)))))), (List.forall_mem_cons.mpr ⟨(List.Mem.tail _ (List.Mem.head _)), (List.forall_mem_cons.mpr ⟨(List.Mem.tail _ (List.Mem.tail _ (List.Mem.head _))), (List.forall_mem_cons.mpr ⟨(List.Mem.head _), (fun _ h => absurd h List.not_mem_nil)⟩)⟩)⟩)⟩)⟩)⟩), (show ([5, 3, 4, 0, 1, 2] : List Nat).Nodup from by decide)⟩ w
  · replace w := w.2 (Decidable.of_not_not q)
    refine ab_fin.s1i (i := .iconst 1) (k := 1) (pc' := 108) (n := 1) (by decide +kernel) rfl (by decide +kernel) rfl ?_
    refine ab_fin.s3 (i := .goto 4) (k := 3) (t := 112) (st' := [.int 1]) (by decide +kernel) (ab_gto (by decide +kernel)) ?_
    refine ab_fin.s2 (i := .istore_n 3) (k := 1) (pc' := 113) (lv' := [(3, .int 1), (4, .int (l4 + 1)), (0, .ref 40), (1, .int l1), (2, .int l2), (5, .int l5)]) (st' := []) (by decide +kernel) rfl rfl ?_
    refine ab_fin.s2 (i := .iload_n 3) (k := 1) (pc' := 114) (lv' := [(3, .int 1), (4, .int (l4 + 1)), (0, .ref 40), (1, .int l1), (2, .int l2), (5, .int l5)]) (st' := [.int 1]) (by decide +kernel) rfl rfl ?_
    refine ab_fin.br (c := (1 : Int32) = 0) (i := .ifCond .eq 9) (off := 9) (t := 123) (pc' := 117) (r := []) (by decide +kernel) rfl (by decide +kernel) rfl (fun q => ?_) (fun q => ?_)
    · replace w := w.1 q
      refine ab_fin.q_inc (n := 5) (c := 1) (pc' := 126) (lv' := [(5, .int (l5 + 1)), (3, .int 1), (4, .int (l4 + 1)), (0, .ref 40), (1, .int l1), (2, .int l2)]) (by decide +kernel) (by decide) rfl rfl rfl rfl ?_
      refine ab_fin.s3 (i := .goto (-79)) (k := 3) (t := 47) (st' := []) (by decide +kernel) (ab_gto (by decide +kernel)) ?_
      exact ab_fin.lv ⟨(List.forall_mem_cons.mpr ⟨(List.Mem.tail _ (List.Mem.tail _ (List.Mem.tail _ (List.Mem.head _)))), (List.forall_mem_cons.mpr ⟨(List.Mem.tail _ (List.Mem.tail _ (List.Mem.tail _ (List.Mem.tail _ (List.Mem.head _))))), (List.forall_mem_cons.mpr ⟨(List.Mem.tail _ (List.Mem.tail _ (List.Mem.tail _ (List.Mem.tail _ (List.Mem.tail _ (List.Mem.head _)))))), (List.forall_mem_cons.mpr ⟨(List.Mem.tail _ (List.Mem.head _)), (List.forall_mem_cons.mpr ⟨(List.Mem.tail _ (List.Mem.tail _ (List.Mem.head _))), (List.forall_mem_cons.mpr ⟨(List.Mem.head _), (fun _ h => absurd h List.not_mem_nil)⟩)⟩)⟩)⟩)⟩)⟩), (show ([5, 3, 4, 0, 1, 2] : List Nat).Nodup from by decide)⟩ w
    · replace w := w.2 q
      refine ab_fin.s2 (i := .aload_n 0) (k := 1) (pc' := 118) (lv' := [(3, .int 1), (4, .int (l4 + 1)), (0, .ref 40), (1, .int l1), (2, .int l2), (5, .int l5)]) (st' := [.ref 40]) (by decide +kernel) rfl rfl ?_
      refine ab_fin.s1i (i := .bipush 6) (k := 2) (pc' := 120) (n := 6) (by decide +kernel) rfl (by decide +kernel) rfl ?_
      refine ab_fin.q_yN (i := .invokevirtual 57) (k := 3) (y := 1799) (As := [.ref 40, .int 6]) (rest := []) (M' := (mX7_take, [])) (lv2 := [(0, .ref 40), (1, .int 6)]) (pc' := 123) (X := K) (by decide +kernel) (ab_cv rfl rfl (conc_get (σ := τ3) (F4.s t0_40)) ⟨(Nat.le_of_ble_eq_true rfl), (Nat.le_of_ble_eq_true rfl)⟩ rfl) rfl (Nat.le_of_ble_eq_true rfl) rfl rfl (hY_no fun E => rfl) w (fun τ8 F9 w => ?_)
      refine ab_fin.q_inc (n := 5) (c := 1) (pc' := 126) (lv' := [(5, .int (l5 + 1)), (3, .int 1), (4, .int (l4 + 1)), (0, .ref 40), (1, .int l1), (2, .int l2)]) (by decide +kernel) (by decide) rfl rfl rfl rfl ?_
      refine ab_fin.s3 (i := .goto (-79)) (k := 3) (t := 47) (st' := []) (by decide +kernel) (ab_gto (by decide +kernel)) ?_
      exact ab_fin.lv ⟨(List.forall_mem_cons.mpr ⟨(List.Mem.tail _ (List.Mem.tail _ (List.Mem.tail _ (List.Mem.head _)))), (List.forall_mem_cons.mpr ⟨(List.Mem.tail _ (List.Mem.tail _ (List.Mem.tail _ (List.Mem.tail _ (List.Mem.head _))))), (List.forall_mem_cons.mpr ⟨(List.Mem.tail _ (List.Mem.tail _ (List.Mem.tail _ (List.Mem.tail _ (List.Mem.tail _ (List.Mem.head _)))))), (List.forall_mem_cons.mpr ⟨(List.Mem.tail _ (List.Mem.head _)), (List.forall_mem_cons.mpr ⟨(List.Mem.tail _ (List.Mem.tail _ (List.Mem.head _))), (List.forall_mem_cons.mpr ⟨(List.Mem.head _), (fun _ h => absurd h List.not_mem_nil)⟩)⟩)⟩)⟩)⟩)⟩), (show ([5, 3, 4, 0, 1, 2] : List Nat).Nodup from by decide)⟩ w
theorem T_X7_readSpecs_129 {Z : zT} {d : Nat} {σ : Sg} {l2 : Int32} {l4 : Int32} {K : kS} (F : FX ΦC σ.sh σ.r) (w : (l2 ≤ l4 → C_X7_take_0 Z d σ 5 (yN K fun τ1 => K (.inl none) τ1)) ∧ (¬ l2 ≤ l4 → ((σ.i 40 8) < 0 → C_X7_take_0 Z d σ 5 (yN K fun τ3 => K (.inl none) τ3)) ∧ (¬ (σ.i 40 8) < 0 → C_X7_breakRule_0 Z d σ 4 (σ.i 40 3) (yN K fun τ5 => C_X7_take_0 Z d τ5 5 (yN K fun τ7 => K (.inl none) τ7))))) : C_X7_readSpecs_129 Z (d + 1) σ l2 l4 K := by
  unfold C_X7_readSpecs_129
  refine ab_fin.s2 (i := .iload 4) (k := 2) (pc' := 131) (lv' := [(0, .ref 40), (2, .int l2), (4, .int l4)]) (st' := [.int l4]) (by decide +kernel) rfl rfl ?_
  refine ab_fin.s2 (i := .iload_n 2) (k := 1) (pc' := 132) (lv' := [(0, .ref 40), (2, .int l2), (4, .int l4)]) (st' := [.int l2, .int l4]) (by decide +kernel) rfl rfl ?_
  refine ab_fin.br (c := l2 ≤ l4) (i := .if_icmp .ge 19) (off := 19) (t := 151) (pc' := 135) (r := []) (by decide +kernel) rfl (by decide +kernel) rfl (fun q => ?_) (fun q => ?_)
  · replace w := w.1 q
    refine ab_fin.s2 (i := .aload_n 0) (k := 1) (pc' := 152) (lv' := [(0, .ref 40), (2, .int l2), (4, .int l4)]) (st' := [.ref 40]) (by decide +kernel) rfl rfl ?_
    refine ab_fin.s1i (i := .iconst 5) (k := 1) (pc' := 153) (n := 5) (by decide +kernel) rfl (by decide +kernel) rfl ?_
    refine ab_fin.q_yN (i := .invokevirtual 57) (k := 3) (y := 1799) (As := [.ref 40, .int 5]) (rest := []) (M' := (mX7_take, [])) (lv2 := [(0, .ref 40), (1, .int 5)]) (pc' := 156) (X := K) (by decide +kernel) (ab_cv rfl rfl (conc_get (σ := σ) (F.s t0_40)) ⟨(Nat.le_of_ble_eq_true rfl), (Nat.le_of_ble_eq_true rfl)⟩ rfl) rfl (Nat.le_of_ble_eq_true rfl) rfl rfl (hY_no fun E => rfl) w (fun τ1 F2 w => ?_)
    exact ab_fin.q_ret (i := .return_) (k := 1) (v := none) (by decide +kernel) rfl F2 w
  · replace w := w.2 q
    refine ab_fin.s2 (i := .aload_n 0) (k := 1) (pc' := 136) (lv' := [(0, .ref 40), (2, .int l2), (4, .int l4)]) (st' := [.ref 40]) (by decide +kernel) rfl rfl ?_
    refine ab_fin.q_rI (x := (σ.i 40 8)) (ix := 87) (ci := 8) (k := 8) (pc' := 139) (by decide +kernel) rfl (c_rI (F.s t0_40) rfl) rfl ?_
    refine ab_fin.br (c := (σ.i 40 8) < 0) (i := .ifCond .lt 12) (off := 12) (t := 151) (pc' := 142) (r := []) (by decide +kernel) rfl (by decide +kernel) rfl (fun q => ?_) (fun q => ?_)
    · replace w := w.1 q
      refine ab_fin.s2 (i := .aload_n 0) (k := 1) (pc' := 152) (lv' := [(0, .ref 40), (2, .int l2), (4, .int l4)]) (st' := [.ref 40]) (by decide +kernel) rfl rfl ?_
      refine ab_fin.s1i (i := .iconst 5) (k := 1) (pc' := 153) (n := 5) (by decide +kernel) rfl (by decide +kernel) rfl ?_
      refine ab_fin.q_yN (i := .invokevirtual 57) (k := 3) (y := 1799) (As := [.ref 40, .int 5]) (rest := []) (M' := (mX7_take, [])) (lv2 := [(0, .ref 40), (1, .int 5)]) (pc' := 156) (X := K) (by decide +kernel) (ab_cv rfl rfl (conc_get (σ := σ) (F.s t0_40)) ⟨(Nat.le_of_ble_eq_true rfl), (Nat.le_of_ble_eq_true rfl)⟩ rfl) rfl (Nat.le_of_ble_eq_true rfl) rfl rfl (hY_no fun E => rfl) w (fun τ3 F4 w => ?_)
      exact ab_fin.q_ret (i := .return_) (k := 1) (v := none) (by decide +kernel) rfl F4 w
    · replace w := w.2 q
      refine ab_fin.s2 (i := .aload_n 0) (k := 1) (pc' := 143) (lv' := [(0, .ref 40), (2, .int l2), (4, .int l4)]) (st' := [.ref 40]) (by decide +kernel) rfl rfl ?_
      refine ab_fin.s1i (i := .iconst 4) (k := 1) (pc' := 144) (n := 4) (by decide +kernel) rfl (by decide +kernel) rfl ?_
      refine ab_fin.s2 (i := .aload_n 0) (k := 1) (pc' := 145) (lv' := [(0, .ref 40), (2, .int l2), (4, .int l4)]) (st' := [.ref 40, .int 4, .ref 40]) (by decide +kernel) rfl rfl ?_
      refine ab_fin.q_rI (x := (σ.i 40 3)) (ix := 97) (ci := 8) (k := 3) (pc' := 148) (by decide +kernel) rfl (c_rI (F.s t0_40) rfl) rfl ?_
      refine ab_fin.q_yN (i := .invokevirtual 126) (k := 3) (y := 1800) (As := [.ref 40, .int 4, .int (σ.i 40 3)]) (rest := []) (M' := (mX7_breakRule, [])) (lv2 := [(0, .ref 40), (1, .int 4), (2, .int (σ.i 40 3))]) (pc' := 151) (X := K) (by decide +kernel) (ab_cv rfl rfl (conc_get (σ := σ) (F.s t0_40)) ⟨(Nat.le_of_ble_eq_true rfl), (Nat.le_of_ble_eq_true rfl)⟩ rfl) rfl (Nat.le_of_ble_eq_true rfl) rfl rfl (hY_no fun E => rfl) w (fun τ5 F6 w => ?_)
      refine ab_fin.s2 (i := .aload_n 0) (k := 1) (pc' := 152) (lv' := [(0, .ref 40), (2, .int l2), (4, .int l4)]) (st' := [.ref 40]) (by decide +kernel) rfl rfl ?_
      refine ab_fin.s1i (i := .iconst 5) (k := 1) (pc' := 153) (n := 5) (by decide +kernel) rfl (by decide +kernel) rfl ?_
      refine ab_fin.q_yN (i := .invokevirtual 57) (k := 3) (y := 1799) (As := [.ref 40, .int 5]) (rest := []) (M' := (mX7_take, [])) (lv2 := [(0, .ref 40), (1, .int 5)]) (pc' := 156) (X := K) (by decide +kernel) (ab_cv rfl rfl (conc_get (σ := τ5) (F6.s t0_40)) ⟨(Nat.le_of_ble_eq_true rfl), (Nat.le_of_ble_eq_true rfl)⟩ rfl) rfl (Nat.le_of_ble_eq_true rfl) rfl rfl (hY_no fun E => rfl) w (fun τ7 F8 w => ?_)
      exact ab_fin.q_ret (i := .return_) (k := 1) (v := none) (by decide +kernel) rfl F8 w
theorem T_X7_readSpec_0 {Z : zT} {d : Nat} {σ : Sg} {l1 : Int32} {l2 : Int32} {K : kS} (F : FX ΦC σ.sh σ.r) (w : C_X7_take_0 Z d σ 2 (yN K fun τ1 => ∃ b3, (τ1.r 41 2) = Rf.ptr b3 ∧ (∃ n6, τ1.sh[b3]? = some (Sh.arr 1 n6) ∧ (ib (σ.i 40 3) n6 ∧ (∃ b8, (τ1.r 41 3) = Rf.ptr b8 ∧ (∃ n11, τ1.sh[b8]? = some (Sh.arr 1 n11) ∧ (ib (σ.i 40 3) n11 ∧ (C_X11_find_0 Z d τ1 3 (τ1.l b3 ((σ.i 40 3).toNatClampNeg)) (τ1.l b8 ((σ.i 40 3).toNatClampNeg)) (yI K fun v15 τ13 => (v15 < 0 → C_X7_readSpec_45 Z (d + 1) τ13 l1 l2 (σ.i 40 3) K) ∧ (¬ v15 < 0 → C_X7_breakRule_0 Z d τ13 2 (σ.i 40 3) (yN K fun τ16 => C_X7_readSpec_45 Z (d + 1) τ16 l1 l2 (σ.i 40 3) K))))))))))) : C_X7_readSpec_0 Z (d + 1) σ l1 l2 K := by
  unfold C_X7_readSpec_0
  refine ab_fin.s2 (i := .aload_n 0) (k := 1) (pc' := 1) (lv' := [(0, .ref 40), (1, .int l1), (2, .int l2)]) (st' := [.ref 40]) (by decide +kernel) rfl rfl ?_
  refine ab_fin.q_rI (x := (σ.i 40 3)) (ix := 97) (ci := 8) (k := 3) (pc' := 4) (by decide +kernel) rfl (c_rI (F.s t0_40) rfl) rfl ?_
  refine ab_fin.s2 (i := .istore_n 3) (k := 1) (pc' := 5) (lv' := [(3, .int (σ.i 40 3)), (0, .ref 40), (1, .int l1), (2, .int l2)]) (st' := []) (by decide +kernel) rfl rfl ?_
  refine ab_fin.s2 (i := .aload_n 0) (k := 1) (pc' := 6) (lv' := [(3, .int (σ.i 40 3)), (0, .ref 40), (1, .int l1), (2, .int l2)]) (st' := [.ref 40]) (by decide +kernel) rfl rfl ?_
  refine ab_fin.s1i (i := .iconst 2) (k := 1) (pc' := 7) (n := 2) (by decide +kernel) rfl (by decide +kernel) rfl ?_
  refine ab_fin.q_yN (i := .invokevirtual 57) (k := 3) (y := 1799) (As := [.ref 40, .int 2]) (rest := []) (M' := (mX7_take, [])) (lv2 := [(0, .ref 40), (1, .int 2)]) (pc' := 10) (X := K) (by decide +kernel) (ab_cv rfl rfl (conc_get (σ := σ) (F.s t0_40)) ⟨(Nat.le_of_ble_eq_true rfl), (Nat.le_of_ble_eq_true rfl)⟩ rfl) rfl (Nat.le_of_ble_eq_true rfl) rfl rfl (hY_no fun E => rfl) w (fun τ1 F2 w => ?_)
  refine ab_fin.s2 (i := .aload_n 0) (k := 1) (pc' := 11) (lv' := [(3, .int (σ.i 40 3)), (0, .ref 40), (1, .int l1), (2, .int l2)]) (st' := [.ref 40]) (by decide +kernel) rfl rfl ?_
  refine ab_fin.q_rA (b := 1) (ix := 18) (ci := 8) (k := 0) (pc' := 14) (by decide +kernel) rfl (c_rA (F2.s t0_40) rfl (rC_8_0 F2 t0_40)) rfl ?_
  refine ab_fin.s1i (i := .iconst 3) (k := 1) (pc' := 15) (n := 3) (by decide +kernel) rfl (by decide +kernel) rfl ?_
  refine ab_fin.s2 (i := .aload_n 0) (k := 1) (pc' := 16) (lv' := [(3, .int (σ.i 40 3)), (0, .ref 40), (1, .int l1), (2, .int l2)]) (st' := [.ref 40, .int 3, .ref 1]) (by decide +kernel) rfl rfl ?_
  refine ab_fin.q_rA (b := 41) (ix := 12) (ci := 8) (k := 1) (pc' := 19) (by decide +kernel) rfl (c_rA (F2.s t0_40) rfl (rC_8_1 F2 t0_40)) rfl ?_
  obtain ⟨b3, e4, w⟩ := w
  refine ab_fin.q_rA (b := b3) (ix := 115) (ci := 9) (k := 2) (pc' := 22) (by decide +kernel) rfl (c_rA (F2.s t0_41) rfl e4) rfl ?_
  refine ab_fin.s2 (i := .iload_n 3) (k := 1) (pc' := 23) (lv' := [(3, .int (σ.i 40 3)), (0, .ref 40), (1, .int l1), (2, .int l2)]) (st' := [.int (σ.i 40 3), .ref b3, .int 3, .ref 1]) (by decide +kernel) rfl rfl ?_
  obtain ⟨n6, e5, w⟩ := w
  obtain ⟨e7, w⟩ := w
  refine ab_fin.q_eL (x := (τ1.l b3 ((σ.i 40 3).toNatClampNeg))) (pc' := 24) (by decide +kernel) (c_eL' e5 e7 rfl) rfl ?_
  refine ab_fin.s2 (i := .aload_n 0) (k := 1) (pc' := 25) (lv' := [(3, .int (σ.i 40 3)), (0, .ref 40), (1, .int l1), (2, .int l2)]) (st' := [.ref 40, .long (τ1.l b3 ((σ.i 40 3).toNatClampNeg)), .int 3, .ref 1]) (by decide +kernel) rfl rfl ?_
  refine ab_fin.q_rA (b := 41) (ix := 12) (ci := 8) (k := 1) (pc' := 28) (by decide +kernel) rfl (c_rA (F2.s t0_40) rfl (rC_8_1 F2 t0_40)) rfl ?_
  obtain ⟨b8, e9, w⟩ := w
  refine ab_fin.q_rA (b := b8) (ix := 119) (ci := 9) (k := 3) (pc' := 31) (by decide +kernel) rfl (c_rA (F2.s t0_41) rfl e9) rfl ?_
  refine ab_fin.s2 (i := .iload_n 3) (k := 1) (pc' := 32) (lv' := [(3, .int (σ.i 40 3)), (0, .ref 40), (1, .int l1), (2, .int l2)]) (st' := [.int (σ.i 40 3), .ref b8, .long (τ1.l b3 ((σ.i 40 3).toNatClampNeg)), .int 3, .ref 1]) (by decide +kernel) rfl rfl ?_
  obtain ⟨n11, e10, w⟩ := w
  obtain ⟨e12, w⟩ := w
  refine ab_fin.q_eL (x := (τ1.l b8 ((σ.i 40 3).toNatClampNeg))) (pc' := 33) (by decide +kernel) (c_eL' e10 e12 rfl) rfl ?_
  refine ab_fin.q_yI (i := .invokevirtual 134) (k := 3) (y := 2818) (As := [.ref 1, .int 3, .long (τ1.l b3 ((σ.i 40 3).toNatClampNeg)), .long (τ1.l b8 ((σ.i 40 3).toNatClampNeg))]) (rest := []) (M' := (mX11_find, [])) (lv2 := [(0, .ref 1), (1, .int 3), (2, .long (τ1.l b3 ((σ.i 40 3).toNatClampNeg))), (4, .long (τ1.l b8 ((σ.i 40 3).toNatClampNeg)))]) (pc' := 36) (X := K) (by decide +kernel) (ab_cv rfl rfl (conc_get (σ := τ1) (F2.s t0_1)) ⟨(Nat.le_of_ble_eq_true rfl), (Nat.le_of_ble_eq_true rfl)⟩ rfl) rfl (Nat.le_of_ble_eq_true rfl) rfl rfl (hY_no fun E => rfl) w (fun v15 τ13 F14 w => ?_)
  refine ab_fin.br (c := v15 < 0) (i := .ifCond .lt 9) (off := 9) (t := 45) (pc' := 39) (r := []) (by decide +kernel) rfl (by decide +kernel) rfl (fun q => ?_) (fun q => ?_)
  · replace w := w.1 q
    exact ab_fin.lv ⟨(List.forall_mem_cons.mpr ⟨(List.Mem.tail _ (List.Mem.head _)), (List.forall_mem_cons.mpr ⟨(List.Mem.tail _ (List.Mem.tail _ (List.Mem.head _))), (List.forall_mem_cons.mpr ⟨(List.Mem.tail _ (List.Mem.tail _ (List.Mem.tail _ (List.Mem.head _)))), (List.forall_mem_cons.mpr ⟨(List.Mem.head _), (fun _ h => absurd h List.not_mem_nil)⟩)⟩)⟩)⟩), (show ([3, 0, 1, 2] : List Nat).Nodup from by decide)⟩ w
  · replace w := w.2 q
    refine ab_fin.s2 (i := .aload_n 0) (k := 1) (pc' := 40) (lv' := [(3, .int (σ.i 40 3)), (0, .ref 40), (1, .int l1), (2, .int l2)]) (st' := [.ref 40]) (by decide +kernel) rfl rfl ?_
    refine ab_fin.s1i (i := .iconst 2) (k := 1) (pc' := 41) (n := 2) (by decide +kernel) rfl (by decide +kernel) rfl ?_
    refine ab_fin.s2 (i := .iload_n 3) (k := 1) (pc' := 42) (lv' := [(3, .int (σ.i 40 3)), (0, .ref 40), (1, .int l1), (2, .int l2)]) (st' := [.int (σ.i 40 3), .int 2, .ref 40]) (by decide +kernel) rfl rfl ?_
    refine ab_fin.q_yN (i := .invokevirtual 126) (k := 3) (y := 1800) (As := [.ref 40, .int 2, .int (σ.i 40 3)]) (rest := []) (M' := (mX7_breakRule, [])) (lv2 := [(0, .ref 40), (1, .int 2), (2, .int (σ.i 40 3))]) (pc' := 45) (X := K) (by decide +kernel) (ab_cv rfl rfl (conc_get (σ := τ13) (F14.s t0_40)) ⟨(Nat.le_of_ble_eq_true rfl), (Nat.le_of_ble_eq_true rfl)⟩ rfl) rfl (Nat.le_of_ble_eq_true rfl) rfl rfl (hY_no fun E => rfl) w (fun τ16 F17 w => ?_)
    exact ab_fin.lv ⟨(List.forall_mem_cons.mpr ⟨(List.Mem.tail _ (List.Mem.head _)), (List.forall_mem_cons.mpr ⟨(List.Mem.tail _ (List.Mem.tail _ (List.Mem.head _))), (List.forall_mem_cons.mpr ⟨(List.Mem.tail _ (List.Mem.tail _ (List.Mem.tail _ (List.Mem.head _)))), (List.forall_mem_cons.mpr ⟨(List.Mem.head _), (fun _ h => absurd h List.not_mem_nil)⟩)⟩)⟩)⟩), (show ([3, 0, 1, 2] : List Nat).Nodup from by decide)⟩ w
theorem T_X7_readSpec_45 {Z : zT} {d : Nat} {σ : Sg} {l1 : Int32} {l2 : Int32} {l3 : Int32} {K : kS} (F : FX ΦC σ.sh σ.r) (w : (l2 < 0 → C_X7_readSpec_75 Z (d + 1) σ l1 l2 K) ∧ (¬ l2 < 0 → ∃ b1, (σ.r 41 2) = Rf.ptr b1 ∧ (∃ n4, σ.sh[b1]? = some (Sh.arr 1 n4) ∧ (ib l3 n4 ∧ (∃ b6, (σ.r 41 3) = Rf.ptr b6 ∧ (∃ n9, σ.sh[b6]? = some (Sh.arr 1 n9) ∧ (ib l3 n9 ∧ (C_X11_addName_0 Z d σ 3 (σ.l b1 l3.toNatClampNeg) (σ.l b6 l3.toNatClampNeg) (yN K fun τ11 => C_X7_readSpec_75 Z (d + 1) τ11 l1 l2 K))))))))) : C_X7_readSpec_45 Z (d + 1) σ l1 l2 l3 K := by
  unfold C_X7_readSpec_45
  refine ab_fin.s2 (i := .iload_n 2) (k := 1) (pc' := 46) (lv' := [(0, .ref 40), (1, .int l1), (2, .int l2), (3, .int l3)]) (st' := [.int l2]) (by decide +kernel) rfl rfl ?_
  refine ab_fin.br (c := l2 < 0) (i := .ifCond .lt 29) (off := 29) (t := 75) (pc' := 49) (r := []) (by decide +kernel) rfl (by decide +kernel) rfl (fun q => ?_) (fun q => ?_)
  · replace w := w.1 q
    exact ab_fin.lv ⟨(List.forall_mem_cons.mpr ⟨(List.Mem.head _), (List.forall_mem_cons.mpr ⟨(List.Mem.tail _ (List.Mem.head _)), (List.forall_mem_cons.mpr ⟨(List.Mem.tail _ (List.Mem.tail _ (List.Mem.head _))), (fun _ h => absurd h List.not_mem_nil)⟩)⟩)⟩), (show ([0, 1, 2, 3] : List Nat).Nodup from by decide)⟩ w
  · replace w := w.2 q
    refine ab_fin.s2 (i := .aload_n 0) (k := 1) (pc' := 50) (lv' := [(0, .ref 40), (1, .int l1), (2, .int l2), (3, .int l3)]) (st' := [.ref 40]) (by decide +kernel) rfl rfl ?_
    refine ab_fin.q_rA (b := 1) (ix := 18) (ci := 8) (k := 0) (pc' := 53) (by decide +kernel) rfl (c_rA (F.s t0_40) rfl (rC_8_0 F t0_40)) rfl ?_
    refine ab_fin.s1i (i := .iconst 3) (k := 1) (pc' := 54) (n := 3) (by decide +kernel) rfl (by decide +kernel) rfl ?_
    refine ab_fin.s2 (i := .aload_n 0) (k := 1) (pc' := 55) (lv' := [(0, .ref 40), (1, .int l1), (2, .int l2), (3, .int l3)]) (st' := [.ref 40, .int 3, .ref 1]) (by decide +kernel) rfl rfl ?_
    refine ab_fin.q_rA (b := 41) (ix := 12) (ci := 8) (k := 1) (pc' := 58) (by decide +kernel) rfl (c_rA (F.s t0_40) rfl (rC_8_1 F t0_40)) rfl ?_
    obtain ⟨b1, e2, w⟩ := w
    refine ab_fin.q_rA (b := b1) (ix := 115) (ci := 9) (k := 2) (pc' := 61) (by decide +kernel) rfl (c_rA (F.s t0_41) rfl e2) rfl ?_
    refine ab_fin.s2 (i := .iload_n 3) (k := 1) (pc' := 62) (lv' := [(0, .ref 40), (1, .int l1), (2, .int l2), (3, .int l3)]) (st' := [.int l3, .ref b1, .int 3, .ref 1]) (by decide +kernel) rfl rfl ?_
    obtain ⟨n4, e3, w⟩ := w
    obtain ⟨e5, w⟩ := w
    refine ab_fin.q_eL (x := (σ.l b1 l3.toNatClampNeg)) (pc' := 63) (by decide +kernel) (c_eL' e3 e5 rfl) rfl ?_
    refine ab_fin.s2 (i := .aload_n 0) (k := 1) (pc' := 64) (lv' := [(0, .ref 40), (1, .int l1), (2, .int l2), (3, .int l3)]) (st' := [.ref 40, .long (σ.l b1 l3.toNatClampNeg), .int 3, .ref 1]) (by decide +kernel) rfl rfl ?_
    refine ab_fin.q_rA (b := 41) (ix := 12) (ci := 8) (k := 1) (pc' := 67) (by decide +kernel) rfl (c_rA (F.s t0_40) rfl (rC_8_1 F t0_40)) rfl ?_
    obtain ⟨b6, e7, w⟩ := w
    refine ab_fin.q_rA (b := b6) (ix := 119) (ci := 9) (k := 3) (pc' := 70) (by decide +kernel) rfl (c_rA (F.s t0_41) rfl e7) rfl ?_
    refine ab_fin.s2 (i := .iload_n 3) (k := 1) (pc' := 71) (lv' := [(0, .ref 40), (1, .int l1), (2, .int l2), (3, .int l3)]) (st' := [.int l3, .ref b6, .long (σ.l b1 l3.toNatClampNeg), .int 3, .ref 1]) (by decide +kernel) rfl rfl ?_
    obtain ⟨n9, e8, w⟩ := w
    obtain ⟨e10, w⟩ := w
    refine ab_fin.q_eL (x := (σ.l b6 l3.toNatClampNeg)) (pc' := 72) (by decide +kernel) (c_eL' e8 e10 rfl) rfl ?_
    refine ab_fin.q_yN (i := .invokevirtual 164) (k := 3) (y := 2821) (As := [.ref 1, .int 3, .long (σ.l b1 l3.toNatClampNeg), .long (σ.l b6 l3.toNatClampNeg)]) (rest := []) (M' := (mX11_addName, [])) (lv2 := [(0, .ref 1), (1, .int 3), (2, .long (σ.l b1 l3.toNatClampNeg)), (4, .long (σ.l b6 l3.toNatClampNeg))]) (pc' := 75) (X := K) (by decide +kernel) (ab_cv rfl rfl (conc_get (σ := σ) (F.s t0_1)) ⟨(Nat.le_of_ble_eq_true rfl), (Nat.le_of_ble_eq_true rfl)⟩ rfl) rfl (Nat.le_of_ble_eq_true rfl) rfl rfl (hY_no fun E => rfl) w (fun τ11 F12 w => ?_)
    exact ab_fin.lv ⟨(List.forall_mem_cons.mpr ⟨(List.Mem.head _), (List.forall_mem_cons.mpr ⟨(List.Mem.tail _ (List.Mem.head _)), (List.forall_mem_cons.mpr ⟨(List.Mem.tail _ (List.Mem.tail _ (List.Mem.head _))), (fun _ h => absurd h List.not_mem_nil)⟩)⟩)⟩), (show ([0, 1, 2, 3] : List Nat).Nodup from by decide)⟩ w
theorem T_X7_readSpec_75 {Z : zT} {d : Nat} {σ : Sg} {l1 : Int32} {l2 : Int32} {K : kS} (F : FX ΦC σ.sh σ.r) (w : C_X7_sign_0 Z d σ  (yI K fun v3 τ1 => (¬ v3 = 8 → C_X7_readSpec_124 Z (d + 1) τ1 l1 l2 K) ∧ (v3 = 8 → C_X7_take_0 Z d τ1 8 (yN K fun τ4 => C_X7_takeKnownName_0 Z d τ4 0 (yI K fun v8 τ6 => (l2 < 0 → C_X7_readSpec_124 Z (d + 1) τ6 l1 l2 K) ∧ (¬ l2 < 0 → (v8 < 0 → C_X7_readSpec_124 Z (d + 1) τ6 l1 l2 K) ∧ (¬ v8 < 0 → ib ((l1 * (3 : Int32)) + l2) 366 ∧ (C_X7_readSpec_124 Z (d + 1) (τ6.wi 15 (((l1 * (3 : Int32)) + l2).toNatClampNeg) v8) l1 l2 K)))))))) : C_X7_readSpec_75 Z (d + 1) σ l1 l2 K := by
  unfold C_X7_readSpec_75
  refine ab_fin.s2 (i := .aload_n 0) (k := 1) (pc' := 76) (lv' := [(0, .ref 40), (1, .int l1), (2, .int l2)]) (st' := [.ref 40]) (by decide +kernel) rfl rfl ?_
  refine ab_fin.q_yI (i := .invokevirtual 41) (k := 3) (y := 1798) (As := [.ref 40]) (rest := []) (M' := (mX7_sign, [])) (lv2 := [(0, .ref 40)]) (pc' := 79) (X := K) (by decide +kernel) (ab_cv rfl rfl (conc_get (σ := σ) (F.s t0_40)) ⟨(Nat.le_of_ble_eq_true rfl), (Nat.le_of_ble_eq_true rfl)⟩ rfl) rfl (Nat.le_of_ble_eq_true rfl) rfl rfl (hY_no fun E => rfl) w (fun v3 τ1 F2 w => ?_)
  refine ab_fin.s1i (i := .bipush 8) (k := 2) (pc' := 81) (n := 8) (by decide +kernel) rfl (by decide +kernel) rfl ?_
  refine ab_fin.br (c := ¬ v3 = 8) (i := .if_icmp .ne 43) (off := 43) (t := 124) (pc' := 84) (r := []) (by decide +kernel) rfl (by decide +kernel) rfl (fun q => ?_) (fun q => ?_)
  · replace w := w.1 q
    exact ab_fin.lv ⟨(List.forall_mem_cons.mpr ⟨(List.Mem.head _), (List.forall_mem_cons.mpr ⟨(List.Mem.tail _ (List.Mem.head _)), (List.forall_mem_cons.mpr ⟨(List.Mem.tail _ (List.Mem.tail _ (List.Mem.head _))), (fun _ h => absurd h List.not_mem_nil)⟩)⟩)⟩), (show ([0, 1, 2] : List Nat).Nodup from by decide)⟩ w
  · replace w := w.2 (Decidable.of_not_not q)
    refine ab_fin.s2 (i := .aload_n 0) (k := 1) (pc' := 85) (lv' := [(0, .ref 40), (1, .int l1), (2, .int l2)]) (st' := [.ref 40]) (by decide +kernel) rfl rfl ?_
    refine ab_fin.s1i (i := .bipush 8) (k := 2) (pc' := 87) (n := 8) (by decide +kernel) rfl (by decide +kernel) rfl ?_
    refine ab_fin.q_yN (i := .invokevirtual 57) (k := 3) (y := 1799) (As := [.ref 40, .int 8]) (rest := []) (M' := (mX7_take, [])) (lv2 := [(0, .ref 40), (1, .int 8)]) (pc' := 90) (X := K) (by decide +kernel) (ab_cv rfl rfl (conc_get (σ := τ1) (F2.s t0_40)) ⟨(Nat.le_of_ble_eq_true rfl), (Nat.le_of_ble_eq_true rfl)⟩ rfl) rfl (Nat.le_of_ble_eq_true rfl) rfl rfl (hY_no fun E => rfl) w (fun τ4 F5 w => ?_)
    refine ab_fin.s2 (i := .aload_n 0) (k := 1) (pc' := 91) (lv' := [(0, .ref 40), (1, .int l1), (2, .int l2)]) (st' := [.ref 40]) (by decide +kernel) rfl rfl ?_
    refine ab_fin.s1i (i := .iconst 0) (k := 1) (pc' := 92) (n := 0) (by decide +kernel) rfl (by decide +kernel) rfl ?_
    refine ab_fin.q_yI (i := .invokevirtual 151) (k := 3) (y := 1802) (As := [.ref 40, .int 0]) (rest := []) (M' := (mX7_takeKnownName, [])) (lv2 := [(0, .ref 40), (1, .int 0)]) (pc' := 95) (X := K) (by decide +kernel) (ab_cv rfl rfl (conc_get (σ := τ4) (F5.s t0_40)) ⟨(Nat.le_of_ble_eq_true rfl), (Nat.le_of_ble_eq_true rfl)⟩ rfl) rfl (Nat.le_of_ble_eq_true rfl) rfl rfl (hY_no fun E => rfl) w (fun v8 τ6 F7 w => ?_)
    refine ab_fin.s2 (i := .istore 4) (k := 2) (pc' := 97) (lv' := [(4, .int v8), (0, .ref 40), (1, .int l1), (2, .int l2)]) (st' := []) (by decide +kernel) rfl rfl ?_
    refine ab_fin.s2 (i := .iload_n 2) (k := 1) (pc' := 98) (lv' := [(4, .int v8), (0, .ref 40), (1, .int l1), (2, .int l2)]) (st' := [.int l2]) (by decide +kernel) rfl rfl ?_
    refine ab_fin.br (c := l2 < 0) (i := .ifCond .lt 26) (off := 26) (t := 124) (pc' := 101) (r := []) (by decide +kernel) rfl (by decide +kernel) rfl (fun q => ?_) (fun q => ?_)
    · replace w := w.1 q
      exact ab_fin.lv ⟨(List.forall_mem_cons.mpr ⟨(List.Mem.tail _ (List.Mem.head _)), (List.forall_mem_cons.mpr ⟨(List.Mem.tail _ (List.Mem.tail _ (List.Mem.head _))), (List.forall_mem_cons.mpr ⟨(List.Mem.tail _ (List.Mem.tail _ (List.Mem.tail _ (List.Mem.head _)))), (fun _ h => absurd h List.not_mem_nil)⟩)⟩)⟩), (show ([4, 0, 1, 2] : List Nat).Nodup from by decide)⟩ w
    · replace w := w.2 q
      refine ab_fin.s2 (i := .iload 4) (k := 2) (pc' := 103) (lv' := [(4, .int v8), (0, .ref 40), (1, .int l1), (2, .int l2)]) (st' := [.int v8]) (by decide +kernel) rfl rfl ?_
      refine ab_fin.br (c := v8 < 0) (i := .ifCond .lt 21) (off := 21) (t := 124) (pc' := 106) (r := []) (by decide +kernel) rfl (by decide +kernel) rfl (fun q => ?_) (fun q => ?_)
      · replace w := w.1 q
        exact ab_fin.lv ⟨(List.forall_mem_cons.mpr ⟨(List.Mem.tail _ (List.Mem.head _)), (List.forall_mem_cons.mpr ⟨(List.Mem.tail _ (List.Mem.tail _ (List.Mem.head _))), (List.forall_mem_cons.mpr ⟨(List.Mem.tail _ (List.Mem.tail _ (List.Mem.tail _ (List.Mem.head _)))), (fun _ h => absurd h List.not_mem_nil)⟩)⟩)⟩), (show ([4, 0, 1, 2] : List Nat).Nodup from by decide)⟩ w
      · replace w := w.2 q
        refine ab_fin.s2 (i := .aload_n 0) (k := 1) (pc' := 107) (lv' := [(4, .int v8), (0, .ref 40), (1, .int l1), (2, .int l2)]) (st' := [.ref 40]) (by decide +kernel) rfl rfl ?_
        refine ab_fin.q_rA (b := 1) (ix := 18) (ci := 8) (k := 0) (pc' := 110) (by decide +kernel) rfl (c_rA (F7.s t0_40) rfl (rC_8_0 F7 t0_40)) rfl ?_
        refine ab_fin.q_rA (b := 10) (ix := 179) (ci := 12) (k := 1) (pc' := 113) (by decide +kernel) rfl (c_rA (F7.s t0_1) rfl (rC_12_1 F7 t0_1)) rfl ?_
        refine ab_fin.q_rA (b := 15) (ix := 219) (ci := 6) (k := 5) (pc' := 116) (by decide +kernel) rfl (c_rA (F7.s t0_10) rfl (rC_6_5 F7 t0_10)) rfl ?_
        refine ab_fin.s2 (i := .iload_n 1) (k := 1) (pc' := 117) (lv' := [(4, .int v8), (0, .ref 40), (1, .int l1), (2, .int l2)]) (st' := [.int l1, .ref 15]) (by decide +kernel) rfl rfl ?_
        refine ab_fin.s1i (i := .iconst 3) (k := 1) (pc' := 118) (n := 3) (by decide +kernel) rfl (by decide +kernel) rfl ?_
        refine ab_fin.s1 (i := .imul) (k := 1) (pc' := 119) (st' := [.int (l1 * (3 : Int32)), .ref 15]) (by decide +kernel) rfl rfl ?_
        refine ab_fin.s2 (i := .iload_n 2) (k := 1) (pc' := 120) (lv' := [(4, .int v8), (0, .ref 40), (1, .int l1), (2, .int l2)]) (st' := [.int l2, .int (l1 * (3 : Int32)), .ref 15]) (by decide +kernel) rfl rfl ?_
        refine ab_fin.s1 (i := .iadd) (k := 1) (pc' := 121) (st' := [.int ((l1 * (3 : Int32)) + l2), .ref 15]) (by decide +kernel) rfl rfl ?_
        refine ab_fin.s2 (i := .iload 4) (k := 2) (pc' := 123) (lv' := [(4, .int v8), (0, .ref 40), (1, .int l1), (2, .int l2)]) (st' := [.int v8, .int ((l1 * (3 : Int32)) + l2), .ref 15]) (by decide +kernel) rfl rfl ?_
        obtain ⟨e9, w⟩ := w
        refine ab_fin.q_sI (h1 := conc (τ6.wi 15 (((l1 * (3 : Int32)) + l2).toNatClampNeg) v8)) (pc' := 124) (by decide +kernel) (c_sI' (F7.s t0_15) e9 rfl) rfl ?_
        exact ab_fin.lv ⟨(List.forall_mem_cons.mpr ⟨(List.Mem.tail _ (List.Mem.head _)), (List.forall_mem_cons.mpr ⟨(List.Mem.tail _ (List.Mem.tail _ (List.Mem.head _))), (List.forall_mem_cons.mpr ⟨(List.Mem.tail _ (List.Mem.tail _ (List.Mem.tail _ (List.Mem.head _)))), (fun _ h => absurd h List.not_mem_nil)⟩)⟩)⟩), (show ([4, 0, 1, 2] : List Nat).Nodup from by decide)⟩ w
theorem T_X7_readSpec_124 {Z : zT} {d : Nat} {σ : Sg} {l1 : Int32} {l2 : Int32} {K : kS} (F : FX ΦC σ.sh σ.r) (w : C_X7_sign_0 Z d σ  (yI K fun v3 τ1 => (¬ v3 = 16 → K (.inl none) τ1) ∧ (v3 = 16 → C_X7_take_0 Z d τ1 16 (yN K fun τ4 => C_X7_takeNumber_0 Z d τ4  (yI K fun v8 τ6 => (l2 < 0 → K (.inl none) τ6) ∧ (¬ l2 < 0 → ib ((l1 * (3 : Int32)) + l2) 366 ∧ (ib ((l1 * (3 : Int32)) + l2) 366 ∧ (K (.inl none) ((τ6.wi 16 (((l1 * (3 : Int32)) + l2).toNatClampNeg) (vp_nar .boolean (1 : Int32))).wi 17 (((l1 * (3 : Int32)) + l2).toNatClampNeg) v8))))))))) : C_X7_readSpec_124 Z (d + 1) σ l1 l2 K := by
  unfold C_X7_readSpec_124
  refine ab_fin.s2 (i := .aload_n 0) (k := 1) (pc' := 125) (lv' := [(0, .ref 40), (1, .int l1), (2, .int l2)]) (st' := [.ref 40]) (by decide +kernel) rfl rfl ?_
  refine ab_fin.q_yI (i := .invokevirtual 41) (k := 3) (y := 1798) (As := [.ref 40]) (rest := []) (M' := (mX7_sign, [])) (lv2 := [(0, .ref 40)]) (pc' := 128) (X := K) (by decide +kernel) (ab_cv rfl rfl (conc_get (σ := σ) (F.s t0_40)) ⟨(Nat.le_of_ble_eq_true rfl), (Nat.le_of_ble_eq_true rfl)⟩ rfl) rfl (Nat.le_of_ble_eq_true rfl) rfl rfl (hY_no fun E => rfl) w (fun v3 τ1 F2 w => ?_)
  refine ab_fin.s1i (i := .bipush 16) (k := 2) (pc' := 130) (n := 16) (by decide +kernel) rfl (by decide +kernel) rfl ?_
  refine ab_fin.br (c := ¬ v3 = 16) (i := .if_icmp .ne 54) (off := 54) (t := 184) (pc' := 133) (r := []) (by decide +kernel) rfl (by decide +kernel) rfl (fun q => ?_) (fun q => ?_)
  · replace w := w.1 q
    exact ab_fin.q_ret (i := .return_) (k := 1) (v := none) (by decide +kernel) rfl F2 w
  · replace w := w.2 (Decidable.of_not_not q)
    refine ab_fin.s2 (i := .aload_n 0) (k := 1) (pc' := 134) (lv' := [(0, .ref 40), (1, .int l1), (2, .int l2)]) (st' := [.ref 40]) (by decide +kernel) rfl rfl ?_
    refine ab_fin.s1i (i := .bipush 16) (k := 2) (pc' := 136) (n := 16) (by decide +kernel) rfl (by decide +kernel) rfl ?_
    refine ab_fin.q_yN (i := .invokevirtual 57) (k := 3) (y := 1799) (As := [.ref 40, .int 16]) (rest := []) (M' := (mX7_take, [])) (lv2 := [(0, .ref 40), (1, .int 16)]) (pc' := 139) (X := K) (by decide +kernel) (ab_cv rfl rfl (conc_get (σ := τ1) (F2.s t0_40)) ⟨(Nat.le_of_ble_eq_true rfl), (Nat.le_of_ble_eq_true rfl)⟩ rfl) rfl (Nat.le_of_ble_eq_true rfl) rfl rfl (hY_no fun E => rfl) w (fun τ4 F5 w => ?_)
    refine ab_fin.s2 (i := .aload_n 0) (k := 1) (pc' := 140) (lv' := [(0, .ref 40), (1, .int l1), (2, .int l2)]) (st' := [.ref 40]) (by decide +kernel) rfl rfl ?_
    refine ab_fin.q_yI (i := .invokevirtual 222) (k := 3) (y := 1809) (As := [.ref 40]) (rest := []) (M' := (mX7_takeNumber, [])) (lv2 := [(0, .ref 40)]) (pc' := 143) (X := K) (by decide +kernel) (ab_cv rfl rfl (conc_get (σ := τ4) (F5.s t0_40)) ⟨(Nat.le_of_ble_eq_true rfl), (Nat.le_of_ble_eq_true rfl)⟩ rfl) rfl (Nat.le_of_ble_eq_true rfl) rfl rfl (hY_no fun E => rfl) w (fun v8 τ6 F7 w => ?_)
    refine ab_fin.s2 (i := .istore 4) (k := 2) (pc' := 145) (lv' := [(4, .int v8), (0, .ref 40), (1, .int l1), (2, .int l2)]) (st' := []) (by decide +kernel) rfl rfl ?_
    refine ab_fin.s2 (i := .iload_n 2) (k := 1) (pc' := 146) (lv' := [(4, .int v8), (0, .ref 40), (1, .int l1), (2, .int l2)]) (st' := [.int l2]) (by decide +kernel) rfl rfl ?_
    refine ab_fin.br (c := l2 < 0) (i := .ifCond .lt 38) (off := 38) (t := 184) (pc' := 149) (r := []) (by decide +kernel) rfl (by decide +kernel) rfl (fun q => ?_) (fun q => ?_)
    · replace w := w.1 q
      exact ab_fin.q_ret (i := .return_) (k := 1) (v := none) (by decide +kernel) rfl F7 w
    · replace w := w.2 q
      refine ab_fin.s2 (i := .aload_n 0) (k := 1) (pc' := 150) (lv' := [(4, .int v8), (0, .ref 40), (1, .int l1), (2, .int l2)]) (st' := [.ref 40]) (by decide +kernel) rfl rfl ?_
      refine ab_fin.q_rA (b := 1) (ix := 18) (ci := 8) (k := 0) (pc' := 153) (by decide +kernel) rfl (c_rA (F7.s t0_40) rfl (rC_8_0 F7 t0_40)) rfl ?_
      refine ab_fin.q_rA (b := 10) (ix := 179) (ci := 12) (k := 1) (pc' := 156) (by decide +kernel) rfl (c_rA (F7.s t0_1) rfl (rC_12_1 F7 t0_1)) rfl ?_
      refine ab_fin.q_rA (b := 16) (ix := 225) (ci := 6) (k := 6) (pc' := 159) (by decide +kernel) rfl (c_rA (F7.s t0_10) rfl (rC_6_6 F7 t0_10)) rfl ?_
      refine ab_fin.s2 (i := .iload_n 1) (k := 1) (pc' := 160) (lv' := [(4, .int v8), (0, .ref 40), (1, .int l1), (2, .int l2)]) (st' := [.int l1, .ref 16]) (by decide +kernel) rfl rfl ?_
      refine ab_fin.s1i (i := .iconst 3) (k := 1) (pc' := 161) (n := 3) (by decide +kernel) rfl (by decide +kernel) rfl ?_
      refine ab_fin.s1 (i := .imul) (k := 1) (pc' := 162) (st' := [.int (l1 * (3 : Int32)), .ref 16]) (by decide +kernel) rfl rfl ?_
      refine ab_fin.s2 (i := .iload_n 2) (k := 1) (pc' := 163) (lv' := [(4, .int v8), (0, .ref 40), (1, .int l1), (2, .int l2)]) (st' := [.int l2, .int (l1 * (3 : Int32)), .ref 16]) (by decide +kernel) rfl rfl ?_
      refine ab_fin.s1 (i := .iadd) (k := 1) (pc' := 164) (st' := [.int ((l1 * (3 : Int32)) + l2), .ref 16]) (by decide +kernel) rfl rfl ?_
      refine ab_fin.s1i (i := .iconst 1) (k := 1) (pc' := 165) (n := 1) (by decide +kernel) rfl (by decide +kernel) rfl ?_
      obtain ⟨e9, w⟩ := w
      refine ab_fin.q_sB (h1 := conc (τ6.wi 16 (((l1 * (3 : Int32)) + l2).toNatClampNeg) (vp_nar .boolean (1 : Int32)))) (pc' := 166) (by decide +kernel) (c_sB3' (F7.s t0_16) e9 rfl) rfl ?_
      refine ab_fin.s2 (i := .aload_n 0) (k := 1) (pc' := 167) (lv' := [(4, .int v8), (0, .ref 40), (1, .int l1), (2, .int l2)]) (st' := [.ref 40]) (by decide +kernel) rfl rfl ?_
      refine ab_fin.q_rA (b := 1) (ix := 18) (ci := 8) (k := 0) (pc' := 170) (by decide +kernel) rfl (c_rA (F7.s t0_40) rfl (rC_8_0 F7 t0_40)) rfl ?_
      refine ab_fin.q_rA (b := 10) (ix := 179) (ci := 12) (k := 1) (pc' := 173) (by decide +kernel) rfl (c_rA (F7.s t0_1) rfl (rC_12_1 F7 t0_1)) rfl ?_
      refine ab_fin.q_rA (b := 17) (ix := 229) (ci := 6) (k := 7) (pc' := 176) (by decide +kernel) rfl (c_rA (F7.s t0_10) rfl (rC_6_7 F7 t0_10)) rfl ?_
      refine ab_fin.s2 (i := .iload_n 1) (k := 1) (pc' := 177) (lv' := [(4, .int v8), (0, .ref 40), (1, .int l1), (2, .int l2)]) (st' := [.int l1, .ref 17]) (by decide +kernel) rfl rfl ?_
      refine ab_fin.s1i (i := .iconst 3) (k := 1) (pc' := 178) (n := 3) (by decide +kernel) rfl (by decide +kernel) rfl ?_
      refine ab_fin.s1 (i := .imul) (k := 1) (pc' := 179) (st' := [.int (l1 * (3 : Int32)), .ref 17]) (by decide +kernel) rfl rfl ?_
      refine ab_fin.s2 (i := .iload_n 2) (k := 1) (pc' := 180) (lv' := [(4, .int v8), (0, .ref 40), (1, .int l1), (2, .int l2)]) (st' := [.int l2, .int (l1 * (3 : Int32)), .ref 17]) (by decide +kernel) rfl rfl ?_
      refine ab_fin.s1 (i := .iadd) (k := 1) (pc' := 181) (st' := [.int ((l1 * (3 : Int32)) + l2), .ref 17]) (by decide +kernel) rfl rfl ?_
      refine ab_fin.s2 (i := .iload 4) (k := 2) (pc' := 183) (lv' := [(4, .int v8), (0, .ref 40), (1, .int l1), (2, .int l2)]) (st' := [.int v8, .int ((l1 * (3 : Int32)) + l2), .ref 17]) (by decide +kernel) rfl rfl ?_
      obtain ⟨e10, w⟩ := w
      refine ab_fin.q_sI (h1 := conc ((τ6.wi 16 (((l1 * (3 : Int32)) + l2).toNatClampNeg) (vp_nar .boolean (1 : Int32))).wi 17 (((l1 * (3 : Int32)) + l2).toNatClampNeg) v8)) (pc' := 184) (by decide +kernel) (c_sI' (F7.s t0_17) e10 rfl) rfl ?_
      exact ab_fin.q_ret (i := .return_) (k := 1) (v := none) (by decide +kernel) rfl F7 w
theorem T_X7_takeNumber_0 {Z : zT} {d : Nat} {σ : Sg}  {K : kS} (F : FX ΦC σ.sh σ.r) (w : C_X7_sign_0 Z d σ  (yI K fun v3 τ1 => (¬ v3 = 10 → C_X7_takeNumber_14 Z (d + 1) τ1 0 K) ∧ (v3 = 10 → C_X7_takeNumber_14 Z (d + 1) τ1 1 K))) : C_X7_takeNumber_0 Z (d + 1) σ  K := by
  unfold C_X7_takeNumber_0
  refine ab_fin.s2 (i := .aload_n 0) (k := 1) (pc' := 1) (lv' := [(0, .ref 40)]) (st' := [.ref 40]) (by decide +kernel) rfl rfl ?_
  refine ab_fin.q_yI (i := .invokevirtual 41) (k := 3) (y := 1798) (As := [.ref 40]) (rest := []) (M' := (mX7_sign, [])) (lv2 := [(0, .ref 40)]) (pc' := 4) (X := K) (by decide +kernel) (ab_cv rfl rfl (conc_get (σ := σ) (F.s t0_40)) ⟨(Nat.le_of_ble_eq_true rfl), (Nat.le_of_ble_eq_true rfl)⟩ rfl) rfl (Nat.le_of_ble_eq_true rfl) rfl rfl (hY_no fun E => rfl) w (fun v3 τ1 F2 w => ?_)
  refine ab_fin.s1i (i := .bipush 10) (k := 2) (pc' := 6) (n := 10) (by decide +kernel) rfl (by decide +kernel) rfl ?_
  refine ab_fin.br (c := ¬ v3 = 10) (i := .if_icmp .ne 7) (off := 7) (t := 13) (pc' := 9) (r := []) (by decide +kernel) rfl (by decide +kernel) rfl (fun q => ?_) (fun q => ?_)
  · replace w := w.1 q
    refine ab_fin.s1i (i := .iconst 0) (k := 1) (pc' := 14) (n := 0) (by decide +kernel) rfl (by decide +kernel) rfl ?_
    exact ab_fin.lv ⟨(List.forall_mem_cons.mpr ⟨(List.Mem.head _), (fun _ h => absurd h List.not_mem_nil)⟩), (show ([0] : List Nat).Nodup from by decide)⟩ w
  · replace w := w.2 (Decidable.of_not_not q)
    refine ab_fin.s1i (i := .iconst 1) (k := 1) (pc' := 10) (n := 1) (by decide +kernel) rfl (by decide +kernel) rfl ?_
    refine ab_fin.s3 (i := .goto 4) (k := 3) (t := 14) (st' := [.int 1]) (by decide +kernel) (ab_gto (by decide +kernel)) ?_
    exact ab_fin.lv ⟨(List.forall_mem_cons.mpr ⟨(List.Mem.head _), (fun _ h => absurd h List.not_mem_nil)⟩), (show ([0] : List Nat).Nodup from by decide)⟩ w
theorem T_X7_takeNumber_14 {Z : zT} {d : Nat} {σ : Sg} {s0 : Int32} {K : kS} (F : FX ΦC σ.sh σ.r) (w : (s0 = 0 → C_X7_takeNumber_25 Z (d + 1) σ s0 K) ∧ (¬ s0 = 0 → C_X7_take_0 Z d σ 10 (yN K fun τ1 => C_X7_takeNumber_25 Z (d + 1) τ1 s0 K))) : C_X7_takeNumber_14 Z (d + 1) σ s0 K := by
  unfold C_X7_takeNumber_14
  refine ab_fin.s2 (i := .istore_n 1) (k := 1) (pc' := 15) (lv' := [(1, .int s0), (0, .ref 40)]) (st' := []) (by decide +kernel) rfl rfl ?_
  refine ab_fin.s2 (i := .iload_n 1) (k := 1) (pc' := 16) (lv' := [(1, .int s0), (0, .ref 40)]) (st' := [.int s0]) (by decide +kernel) rfl rfl ?_
  refine ab_fin.br (c := s0 = 0) (i := .ifCond .eq 9) (off := 9) (t := 25) (pc' := 19) (r := []) (by decide +kernel) rfl (by decide +kernel) rfl (fun q => ?_) (fun q => ?_)
  · replace w := w.1 q
    exact ab_fin.lv ⟨(List.forall_mem_cons.mpr ⟨(List.Mem.tail _ (List.Mem.head _)), (List.forall_mem_cons.mpr ⟨(List.Mem.head _), (fun _ h => absurd h List.not_mem_nil)⟩)⟩), (show ([1, 0] : List Nat).Nodup from by decide)⟩ w
  · replace w := w.2 q
    refine ab_fin.s2 (i := .aload_n 0) (k := 1) (pc' := 20) (lv' := [(1, .int s0), (0, .ref 40)]) (st' := [.ref 40]) (by decide +kernel) rfl rfl ?_
    refine ab_fin.s1i (i := .bipush 10) (k := 2) (pc' := 22) (n := 10) (by decide +kernel) rfl (by decide +kernel) rfl ?_
    refine ab_fin.q_yN (i := .invokevirtual 57) (k := 3) (y := 1799) (As := [.ref 40, .int 10]) (rest := []) (M' := (mX7_take, [])) (lv2 := [(0, .ref 40), (1, .int 10)]) (pc' := 25) (X := K) (by decide +kernel) (ab_cv rfl rfl (conc_get (σ := σ) (F.s t0_40)) ⟨(Nat.le_of_ble_eq_true rfl), (Nat.le_of_ble_eq_true rfl)⟩ rfl) rfl (Nat.le_of_ble_eq_true rfl) rfl rfl (hY_no fun E => rfl) w (fun τ1 F2 w => ?_)
    exact ab_fin.lv ⟨(List.forall_mem_cons.mpr ⟨(List.Mem.tail _ (List.Mem.head _)), (List.forall_mem_cons.mpr ⟨(List.Mem.head _), (fun _ h => absurd h List.not_mem_nil)⟩)⟩), (show ([1, 0] : List Nat).Nodup from by decide)⟩ w
theorem T_X7_takeNumber_25 {Z : zT} {d : Nat} {σ : Sg} {l1 : Int32} {K : kS} (F : FX ΦC σ.sh σ.r) (w : ∃ b1, (σ.r 41 2) = Rf.ptr b1 ∧ (∃ n4, σ.sh[b1]? = some (Sh.arr 1 n4) ∧ (ib (σ.i 40 3) n4 ∧ (C_X7_take_0 Z d σ 3 (yN K fun τ6 => (l1 = 0 → K (.inl (some (.int ((Int64.toInt32 (σ.l b1 ((σ.i 40 3).toNatClampNeg))))))) τ6) ∧ (¬ l1 = 0 → K (.inl (some (.int ((-((Int64.toInt32 (σ.l b1 ((σ.i 40 3).toNatClampNeg))))))))) τ6)))))) : C_X7_takeNumber_25 Z (d + 1) σ l1 K := by
  unfold C_X7_takeNumber_25
  refine ab_fin.s2 (i := .aload_n 0) (k := 1) (pc' := 26) (lv' := [(0, .ref 40), (1, .int l1)]) (st' := [.ref 40]) (by decide +kernel) rfl rfl ?_
  refine ab_fin.q_rA (b := 41) (ix := 12) (ci := 8) (k := 1) (pc' := 29) (by decide +kernel) rfl (c_rA (F.s t0_40) rfl (rC_8_1 F t0_40)) rfl ?_
  obtain ⟨b1, e2, w⟩ := w
  refine ab_fin.q_rA (b := b1) (ix := 115) (ci := 9) (k := 2) (pc' := 32) (by decide +kernel) rfl (c_rA (F.s t0_41) rfl e2) rfl ?_
  refine ab_fin.s2 (i := .aload_n 0) (k := 1) (pc' := 33) (lv' := [(0, .ref 40), (1, .int l1)]) (st' := [.ref 40, .ref b1]) (by decide +kernel) rfl rfl ?_
  refine ab_fin.q_rI (x := (σ.i 40 3)) (ix := 97) (ci := 8) (k := 3) (pc' := 36) (by decide +kernel) rfl (c_rI (F.s t0_40) rfl) rfl ?_
  obtain ⟨n4, e3, w⟩ := w
  obtain ⟨e5, w⟩ := w
  refine ab_fin.q_eL (x := (σ.l b1 ((σ.i 40 3).toNatClampNeg))) (pc' := 37) (by decide +kernel) (c_eL' e3 e5 rfl) rfl ?_
  refine ab_fin.s1 (i := .l2i) (k := 1) (pc' := 38) (st' := [.int ((Int64.toInt32 (σ.l b1 ((σ.i 40 3).toNatClampNeg))))]) (by decide +kernel) rfl rfl ?_
  refine ab_fin.s2 (i := .istore_n 2) (k := 1) (pc' := 39) (lv' := [(2, .int ((Int64.toInt32 (σ.l b1 ((σ.i 40 3).toNatClampNeg))))), (0, .ref 40), (1, .int l1)]) (st' := []) (by decide +kernel) rfl rfl ?_
  refine ab_fin.s2 (i := .aload_n 0) (k := 1) (pc' := 40) (lv' := [(2, .int ((Int64.toInt32 (σ.l b1 ((σ.i 40 3).toNatClampNeg))))), (0, .ref 40), (1, .int l1)]) (st' := [.ref 40]) (by decide +kernel) rfl rfl ?_
  refine ab_fin.s1i (i := .iconst 3) (k := 1) (pc' := 41) (n := 3) (by decide +kernel) rfl (by decide +kernel) rfl ?_
  refine ab_fin.q_yN (i := .invokevirtual 57) (k := 3) (y := 1799) (As := [.ref 40, .int 3]) (rest := []) (M' := (mX7_take, [])) (lv2 := [(0, .ref 40), (1, .int 3)]) (pc' := 44) (X := K) (by decide +kernel) (ab_cv rfl rfl (conc_get (σ := σ) (F.s t0_40)) ⟨(Nat.le_of_ble_eq_true rfl), (Nat.le_of_ble_eq_true rfl)⟩ rfl) rfl (Nat.le_of_ble_eq_true rfl) rfl rfl (hY_no fun E => rfl) w (fun τ6 F7 w => ?_)
  refine ab_fin.s2 (i := .iload_n 1) (k := 1) (pc' := 45) (lv' := [(2, .int ((Int64.toInt32 (σ.l b1 ((σ.i 40 3).toNatClampNeg))))), (0, .ref 40), (1, .int l1)]) (st' := [.int l1]) (by decide +kernel) rfl rfl ?_
  refine ab_fin.br (c := l1 = 0) (i := .ifCond .eq 8) (off := 8) (t := 53) (pc' := 48) (r := []) (by decide +kernel) rfl (by decide +kernel) rfl (fun q => ?_) (fun q => ?_)
  · replace w := w.1 q
    refine ab_fin.s2 (i := .iload_n 2) (k := 1) (pc' := 54) (lv' := [(2, .int ((Int64.toInt32 (σ.l b1 ((σ.i 40 3).toNatClampNeg))))), (0, .ref 40), (1, .int l1)]) (st' := [.int ((Int64.toInt32 (σ.l b1 ((σ.i 40 3).toNatClampNeg))))]) (by decide +kernel) rfl rfl ?_
    exact ab_fin.q_ret (i := .ireturn) (k := 1) (v := some (.int ((Int64.toInt32 (σ.l b1 ((σ.i 40 3).toNatClampNeg)))))) (by decide +kernel) rfl F7 w
  · replace w := w.2 q
    refine ab_fin.s2 (i := .iload_n 2) (k := 1) (pc' := 49) (lv' := [(2, .int ((Int64.toInt32 (σ.l b1 ((σ.i 40 3).toNatClampNeg))))), (0, .ref 40), (1, .int l1)]) (st' := [.int ((Int64.toInt32 (σ.l b1 ((σ.i 40 3).toNatClampNeg))))]) (by decide +kernel) rfl rfl ?_
    refine ab_fin.s1 (i := .ineg) (k := 1) (pc' := 50) (st' := [.int ((-((Int64.toInt32 (σ.l b1 ((σ.i 40 3).toNatClampNeg))))))]) (by decide +kernel) rfl rfl ?_
    refine ab_fin.s3 (i := .goto 4) (k := 3) (t := 54) (st' := [.int ((-((Int64.toInt32 (σ.l b1 ((σ.i 40 3).toNatClampNeg))))))]) (by decide +kernel) (ab_gto (by decide +kernel)) ?_
    exact ab_fin.q_ret (i := .ireturn) (k := 1) (v := some (.int ((-((Int64.toInt32 (σ.l b1 ((σ.i 40 3).toNatClampNeg)))))))) (by decide +kernel) rfl F7 w
theorem T_X7_readTest_0 {Z : zT} {d : Nat} {σ : Sg} {l1 : Int32} {l2 : Int32} {K : kS} (F : FX ΦC σ.sh σ.r) (w : C_X7_readTest_8 Z (d + 1) σ l1 l2 0 1 0 K) : C_X7_readTest_0 Z (d + 1) σ l1 l2 K := by
  unfold C_X7_readTest_0
  refine ab_fin.s1l (i := .lconst 0) (k := 1) (pc' := 1) (n := 0) (by decide +kernel) rfl (by decide +kernel) rfl ?_
  refine ab_fin.s2 (i := .lstore_n 3) (k := 1) (pc' := 2) (lv' := [(3, .long 0), (0, .ref 40), (1, .int l1), (2, .int l2)]) (st' := []) (by decide +kernel) rfl rfl ?_
  refine ab_fin.s1i (i := .iconst 1) (k := 1) (pc' := 3) (n := 1) (by decide +kernel) rfl (by decide +kernel) rfl ?_
  refine ab_fin.s2 (i := .istore 5) (k := 2) (pc' := 5) (lv' := [(5, .int 1), (3, .long 0), (0, .ref 40), (1, .int l1), (2, .int l2)]) (st' := []) (by decide +kernel) rfl rfl ?_
  refine ab_fin.s1i (i := .iconst 0) (k := 1) (pc' := 6) (n := 0) (by decide +kernel) rfl (by decide +kernel) rfl ?_
  refine ab_fin.s2 (i := .istore 6) (k := 2) (pc' := 8) (lv' := [(6, .int 0), (5, .int 1), (3, .long 0), (0, .ref 40), (1, .int l1), (2, .int l2)]) (st' := []) (by decide +kernel) rfl rfl ?_
  exact ab_fin.lv ⟨(List.forall_mem_cons.mpr ⟨(List.Mem.tail _ (List.Mem.tail _ (List.Mem.tail _ (List.Mem.head _)))), (List.forall_mem_cons.mpr ⟨(List.Mem.tail _ (List.Mem.tail _ (List.Mem.tail _ (List.Mem.tail _ (List.Mem.head _))))), (List.forall_mem_cons.mpr ⟨(List.Mem.tail _ (List.Mem.tail _ (List.Mem.tail _ (List.Mem.tail _ (List.Mem.tail _ (List.Mem.head _)))))), (List.forall_mem_cons.mpr ⟨(List.Mem.tail _ (List.Mem.tail _ (List.Mem.head _))), (List.forall_mem_cons.mpr ⟨(List.Mem.tail _ (List.Mem.head _)), (List.forall_mem_cons.mpr ⟨(List.Mem.head _), (fun _ h => absurd h List.not_mem_nil)⟩)⟩)⟩)⟩)⟩)⟩), (show ([6, 5, 3, 0, 1, 2] : List Nat).Nodup from by decide)⟩ w
theorem T_X7_readTest_8 {Z : zT} {d : Nat} {σ : Sg} {l1 : Int32} {l2 : Int32} {l3 : Int64} {l5 : Int32} {l6 : Int32} {K : kS} (F : FX ΦC σ.sh σ.r) (w : ((σ.i 41 4) ≤ l6 → K (.inl (some (.long l3))) σ) ∧ (¬ (σ.i 41 4) ≤ l6 → (l5 = 0 → K (.inl (some (.long l3))) σ) ∧ (¬ l5 = 0 → C_X7_readTest_36 Z (d + 1) σ l1 l2 l3 l6 (-1) 1 0 K))) : C_X7_readTest_8 Z (d + 1) σ l1 l2 l3 l5 l6 K := by
  unfold C_X7_readTest_8
  refine ab_fin.s2 (i := .iload 6) (k := 2) (pc' := 10) (lv' := [(0, .ref 40), (1, .int l1), (2, .int l2), (3, .long l3), (5, .int l5), (6, .int l6)]) (st' := [.int l6]) (by decide +kernel) rfl rfl ?_
  refine ab_fin.s2 (i := .aload_n 0) (k := 1) (pc' := 11) (lv' := [(0, .ref 40), (1, .int l1), (2, .int l2), (3, .long l3), (5, .int l5), (6, .int l6)]) (st' := [.ref 40, .int l6]) (by decide +kernel) rfl rfl ?_
  refine ab_fin.q_rA (b := 41) (ix := 12) (ci := 8) (k := 1) (pc' := 14) (by decide +kernel) rfl (c_rA (F.s t0_40) rfl (rC_8_1 F t0_40)) rfl ?_
  refine ab_fin.q_rI (x := (σ.i 41 4)) (ix := 34) (ci := 9) (k := 4) (pc' := 17) (by decide +kernel) rfl (c_rI (F.s t0_41) rfl) rfl ?_
  refine ab_fin.br (c := (σ.i 41 4) ≤ l6) (i := .if_icmp .ge 120) (off := 120) (t := 137) (pc' := 20) (r := []) (by decide +kernel) rfl (by decide +kernel) rfl (fun q => ?_) (fun q => ?_)
  · replace w := w.1 q
    refine ab_fin.s2 (i := .lload_n 3) (k := 1) (pc' := 138) (lv' := [(0, .ref 40), (1, .int l1), (2, .int l2), (3, .long l3), (5, .int l5), (6, .int l6)]) (st' := [.long l3]) (by decide +kernel) rfl rfl ?_
    exact ab_fin.q_ret (i := .lreturn) (k := 1) (v := some (.long l3)) (by decide +kernel) rfl F w
  · replace w := w.2 q
    refine ab_fin.s2 (i := .iload 5) (k := 2) (pc' := 22) (lv' := [(0, .ref 40), (1, .int l1), (2, .int l2), (3, .long l3), (5, .int l5), (6, .int l6)]) (st' := [.int l5]) (by decide +kernel) rfl rfl ?_
    refine ab_fin.br (c := l5 = 0) (i := .ifCond .eq 115) (off := 115) (t := 137) (pc' := 25) (r := []) (by decide +kernel) rfl (by decide +kernel) rfl (fun q => ?_) (fun q => ?_)
    · replace w := w.1 q
      refine ab_fin.s2 (i := .lload_n 3) (k := 1) (pc' := 138) (lv' := [(0, .ref 40), (1, .int l1), (2, .int l2), (3, .long l3), (5, .int l5), (6, .int l6)]) (st' := [.long l3]) (by decide +kernel) rfl rfl ?_
      exact ab_fin.q_ret (i := .lreturn) (k := 1) (v := some (.long l3)) (by decide +kernel) rfl F w
    · replace w := w.2 q
      refine ab_fin.s7 (i := .ldc2_w 232) (k := 3) (pc' := 28) (st' := [.long (-1)]) (by decide +kernel) rfl rfl ?_
      refine ab_fin.s2 (i := .lstore 7) (k := 2) (pc' := 30) (lv' := [(7, .long (-1)), (0, .ref 40), (1, .int l1), (2, .int l2), (3, .long l3), (5, .int l5), (6, .int l6)]) (st' := []) (by decide +kernel) rfl rfl ?_
      refine ab_fin.s1i (i := .iconst 1) (k := 1) (pc' := 31) (n := 1) (by decide +kernel) rfl (by decide +kernel) rfl ?_
      refine ab_fin.s2 (i := .istore 9) (k := 2) (pc' := 33) (lv' := [(9, .int 1), (7, .long (-1)), (0, .ref 40), (1, .int l1), (2, .int l2), (3, .long l3), (5, .int l5), (6, .int l6)]) (st' := []) (by decide +kernel) rfl rfl ?_
      refine ab_fin.s1i (i := .iconst 0) (k := 1) (pc' := 34) (n := 0) (by decide +kernel) rfl (by decide +kernel) rfl ?_
      refine ab_fin.s2 (i := .istore 10) (k := 2) (pc' := 36) (lv' := [(10, .int 0), (9, .int 1), (7, .long (-1)), (0, .ref 40), (1, .int l1), (2, .int l2), (3, .long l3), (5, .int l5), (6, .int l6)]) (st' := []) (by decide +kernel) rfl rfl ?_
      exact ab_fin.lv ⟨(List.forall_mem_cons.mpr ⟨(List.Mem.tail _ (List.Mem.tail _ (List.Mem.tail _ (List.Mem.head _)))), (List.forall_mem_cons.mpr ⟨(List.Mem.tail _ (List.Mem.tail _ (List.Mem.tail _ (List.Mem.tail _ (List.Mem.head _))))), (List.forall_mem_cons.mpr ⟨(List.Mem.tail _ (List.Mem.tail _ (List.Mem.tail _ (List.Mem.tail _ (List.Mem.tail _ (List.Mem.head _)))))), (List.forall_mem_cons.mpr ⟨(List.Mem.tail _ (List.Mem.tail _ (List.Mem.tail _ (List.Mem.tail _ (List.Mem.tail _ (List.Mem.tail _ (List.Mem.head _))))))), (List.forall_mem_cons.mpr ⟨(List.Mem.tail _ (List.Mem.tail _ (List.Mem.tail _ (List.Mem.tail _ (List.Mem.tail _ (List.Mem.tail _ (List.Mem.tail _ (List.Mem.tail _ (List.Mem.head _))))))))), (List.forall_mem_cons.mpr ⟨(List.Mem.tail _ (List.Mem.tail _ (List.Mem.head _))), (List.forall_mem_cons.mpr ⟨(List.Mem.tail _ (List.Mem.head _)), (List.forall_mem_cons.mpr ⟨(List.Mem.head _), (fun _ h => absurd h List.not_mem_nil)⟩)⟩)⟩)⟩)⟩)⟩)⟩)⟩), (show ([10, 9, 7, 0, 1, 2, 3, 5, 6] : List Nat).Nodup from by decide)⟩ w
theorem T_X7_readTest_36 {Z : zT} {d : Nat} {σ : Sg} {l1 : Int32} {l2 : Int32} {l3 : Int64} {l6 : Int32} {l7 : Int64} {l9 : Int32} {l10 : Int32} {K : kS} (F : FX ΦC σ.sh σ.r) (w : ((σ.i 41 4) ≤ l10 → C_X7_readTest_99 Z (d + 1) σ l1 l2 l3 l6 l7 K) ∧ (¬ (σ.i 41 4) ≤ l10 → (l9 = 0 → C_X7_readTest_99 Z (d + 1) σ l1 l2 l3 l6 l7 K) ∧ (¬ l9 = 0 → C_X7_readOneOfTest_0 Z d σ l1 (l2 + (1 : Int32)) (yL K fun v3 τ1 => C_X7_sign_0 Z d τ1  (yI K fun v6 τ4 => (¬ v6 = 30 → ((0 : Int32) = 0 → C_X7_readTest_36 Z (d + 1) τ4 l1 l2 l3 l6 (l7 &&& v3) 0 (l10 + 1) K) ∧ (¬ (0 : Int32) = 0 → C_X7_take_0 Z d τ4 30 (yN K fun τ7 => C_X7_readTest_36 Z (d + 1) τ7 l1 l2 l3 l6 (l7 &&& v3) 0 (l10 + 1) K))) ∧ (v6 = 30 → ((1 : Int32) = 0 → C_X7_readTest_36 Z (d + 1) τ4 l1 l2 l3 l6 (l7 &&& v3) 1 (l10 + 1) K) ∧ (¬ (1 : Int32) = 0 → C_X7_take_0 Z d τ4 30 (yN K fun τ9 => C_X7_readTest_36 Z (d + 1) τ9 l1 l2 l3 l6 (l7 &&& v3) 1 (l10 + 1) K)))))))) : C_X7_readTest_36 Z (d + 1) σ l1 l2 l3 l6 l7 l9 l10 K := by
  unfold C_X7_readTest_36
  refine ab_fin.s2 (i := .iload 10) (k := 2) (pc' := 38) (lv' := [(0, .ref 40), (1, .int l1), (2, .int l2), (3, .long l3), (6, .int l6), (7, .long l7), (9, .int l9), (10, .int l10)]) (st' := [.int l10]) (by decide +kernel) rfl rfl ?_
  refine ab_fin.s2 (i := .aload_n 0) (k := 1) (pc' := 39) (lv' := [(0, .ref 40), (1, .int l1), (2, .int l2), (3, .long l3), (6, .int l6), (7, .long l7), (9, .int l9), (10, .int l10)]) (st' := [.ref 40, .int l10]) (by decide +kernel) rfl rfl ?_
  refine ab_fin.q_rA (b := 41) (ix := 12) (ci := 8) (k := 1) (pc' := 42) (by decide +kernel) rfl (c_rA (F.s t0_40) rfl (rC_8_1 F t0_40)) rfl ?_
  refine ab_fin.q_rI (x := (σ.i 41 4)) (ix := 34) (ci := 9) (k := 4) (pc' := 45) (by decide +kernel) rfl (c_rI (F.s t0_41) rfl) rfl ?_
  refine ab_fin.br (c := (σ.i 41 4) ≤ l10) (i := .if_icmp .ge 54) (off := 54) (t := 99) (pc' := 48) (r := []) (by decide +kernel) rfl (by decide +kernel) rfl (fun q => ?_) (fun q => ?_)
  · replace w := w.1 q
    exact ab_fin.lv ⟨(List.forall_mem_cons.mpr ⟨(List.Mem.head _), (List.forall_mem_cons.mpr ⟨(List.Mem.tail _ (List.Mem.head _)), (List.forall_mem_cons.mpr ⟨(List.Mem.tail _ (List.Mem.tail _ (List.Mem.head _))), (List.forall_mem_cons.mpr ⟨(List.Mem.tail _ (List.Mem.tail _ (List.Mem.tail _ (List.Mem.head _)))), (List.forall_mem_cons.mpr ⟨(List.Mem.tail _ (List.Mem.tail _ (List.Mem.tail _ (List.Mem.tail _ (List.Mem.head _))))), (List.forall_mem_cons.mpr ⟨(List.Mem.tail _ (List.Mem.tail _ (List.Mem.tail _ (List.Mem.tail _ (List.Mem.tail _ (List.Mem.head _)))))), (fun _ h => absurd h List.not_mem_nil)⟩)⟩)⟩)⟩)⟩)⟩), (show ([0, 1, 2, 3, 6, 7, 9, 10] : List Nat).Nodup from by decide)⟩ w
  · replace w := w.2 q
    refine ab_fin.s2 (i := .iload 9) (k := 2) (pc' := 50) (lv' := [(0, .ref 40), (1, .int l1), (2, .int l2), (3, .long l3), (6, .int l6), (7, .long l7), (9, .int l9), (10, .int l10)]) (st' := [.int l9]) (by decide +kernel) rfl rfl ?_
    refine ab_fin.br (c := l9 = 0) (i := .ifCond .eq 49) (off := 49) (t := 99) (pc' := 53) (r := []) (by decide +kernel) rfl (by decide +kernel) rfl (fun q => ?_) (fun q => ?_)
    · replace w := w.1 q
      exact ab_fin.lv ⟨(List.forall_mem_cons.mpr ⟨(List.Mem.head _), (List.forall_mem_cons.mpr ⟨(List.Mem.tail _ (List.Mem.head _)), (List.forall_mem_cons.mpr ⟨(List.Mem.tail _ (List.Mem.tail _ (List.Mem.head _))), (List.forall_mem_cons.mpr ⟨(List.Mem.tail _ (List.Mem.tail _ (List.Mem.tail _ (List.Mem.head _)))), (List.forall_mem_cons.mpr ⟨(List.Mem.tail _ (List.Mem.tail _ (List.Mem.tail _ (List.Mem.tail _ (List.Mem.head _))))), (List.forall_mem_cons.mpr ⟨(List.Mem.tail _ (List.Mem.tail _ (List.Mem.tail _ (List.Mem.tail _ (List.Mem.tail _ (List.Mem.head _)))))), (fun _ h => absurd h List.not_mem_nil)⟩)⟩)⟩)⟩)⟩)⟩), (show ([0, 1, 2, 3, 6, 7, 9, 10] : List Nat).Nodup from by decide)⟩ w
    · replace w := w.2 q
      refine ab_fin.s2 (i := .lload 7) (k := 2) (pc' := 55) (lv' := [(0, .ref 40), (1, .int l1), (2, .int l2), (3, .long l3), (6, .int l6), (7, .long l7), (9, .int l9), (10, .int l10)]) (st' := [.long l7]) (by decide +kernel) rfl rfl ?_
      refine ab_fin.s2 (i := .aload_n 0) (k := 1) (pc' := 56) (lv' := [(0, .ref 40), (1, .int l1), (2, .int l2), (3, .long l3), (6, .int l6), (7, .long l7), (9, .int l9), (10, .int l10)]) (st' := [.ref 40, .long l7]) (by decide +kernel) rfl rfl ?_
      refine ab_fin.s2 (i := .iload_n 1) (k := 1) (pc' := 57) (lv' := [(0, .ref 40), (1, .int l1), (2, .int l2), (3, .long l3), (6, .int l6), (7, .long l7), (9, .int l9), (10, .int l10)]) (st' := [.int l1, .ref 40, .long l7]) (by decide +kernel) rfl rfl ?_
      refine ab_fin.s2 (i := .iload_n 2) (k := 1) (pc' := 58) (lv' := [(0, .ref 40), (1, .int l1), (2, .int l2), (3, .long l3), (6, .int l6), (7, .long l7), (9, .int l9), (10, .int l10)]) (st' := [.int l2, .int l1, .ref 40, .long l7]) (by decide +kernel) rfl rfl ?_
      refine ab_fin.s1i (i := .iconst 1) (k := 1) (pc' := 59) (n := 1) (by decide +kernel) rfl (by decide +kernel) rfl ?_
      refine ab_fin.s1 (i := .iadd) (k := 1) (pc' := 60) (st' := [.int (l2 + (1 : Int32)), .int l1, .ref 40, .long l7]) (by decide +kernel) rfl rfl ?_
      refine ab_fin.q_yL (i := .invokevirtual 234) (k := 3) (y := 1811) (As := [.ref 40, .int l1, .int (l2 + (1 : Int32))]) (rest := [.long l7]) (M' := (mX7_readOneOfTest, [])) (lv2 := [(0, .ref 40), (1, .int l1), (2, .int (l2 + (1 : Int32)))]) (pc' := 63) (X := K) (by decide +kernel) (ab_cv rfl rfl (conc_get (σ := σ) (F.s t0_40)) ⟨(Nat.le_of_ble_eq_true rfl), (Nat.le_of_ble_eq_true rfl)⟩ rfl) rfl (Nat.le_of_ble_eq_true rfl) rfl rfl (hY_no fun E => rfl) w (fun v3 τ1 F2 w => ?_)
      refine ab_fin.s1 (i := .land) (k := 1) (pc' := 64) (st' := [.long (l7 &&& v3)]) (by decide +kernel) rfl rfl ?_
      refine ab_fin.s2 (i := .lstore 7) (k := 2) (pc' := 66) (lv' := [(7, .long (l7 &&& v3)), (0, .ref 40), (1, .int l1), (2, .int l2), (3, .long l3), (6, .int l6), (9, .int l9), (10, .int l10)]) (st' := []) (by decide +kernel) rfl rfl ?_
      refine ab_fin.s2 (i := .aload_n 0) (k := 1) (pc' := 67) (lv' := [(7, .long (l7 &&& v3)), (0, .ref 40), (1, .int l1), (2, .int l2), (3, .long l3), (6, .int l6), (9, .int l9), (10, .int l10)]) (st' := [.ref 40]) (by decide +kernel) rfl rfl ?_
      refine ab_fin.q_yI (i := .invokevirtual 41) (k := 3) (y := 1798) (As := [.ref 40]) (rest := []) (M' := (mX7_sign, [])) (lv2 := [(0, .ref 40)]) (pc' := 70) (X := K) (by decide +kernel) (ab_cv rfl rfl (conc_get (σ := τ1) (F2.s t0_40)) ⟨(Nat.le_of_ble_eq_true rfl), (Nat.le_of_ble_eq_true rfl)⟩ rfl) rfl (Nat.le_of_ble_eq_true rfl) rfl rfl (hY_no fun E => rfl) w (fun v6 τ4 F5 w => ?_)
      refine ab_fin.s1i (i := .bipush 30) (k := 2) (pc' := 72) (n := 30) (by decide +kernel) rfl (by decide +kernel) rfl ?_
      refine ab_fin.br (c := ¬ v6 = 30) (i := .if_icmp .ne 7) (off := 7) (t := 79) (pc' := 75) (r := []) (by decide +kernel) rfl (by decide +kernel) rfl (fun q => ?_) (fun q => ?_)
      · replace w := w.1 q
        refine ab_fin.s1i (i := .iconst 0) (k := 1) (pc' := 80) (n := 0) (by decide +kernel) rfl (by decide +kernel) rfl ?_
        refine ab_fin.s2 (i := .istore 9) (k := 2) (pc' := 82) (lv' := [(9, .int 0), (7, .long (l7 &&& v3)), (0, .ref 40), (1, .int l1), (2, .int l2), (3, .long l3), (6, .int l6), (10, .int l10)]) (st' := []) (by decide +kernel) rfl rfl ?_
        refine ab_fin.s2 (i := .iload 9) (k := 2) (pc' := 84) (lv' := [(9, .int 0), (7, .long (l7 &&& v3)), (0, .ref 40), (1, .int l1), (2, .int l2), (3, .long l3), (6, .int l6), (10, .int l10)]) (st' := [.int 0]) (by decide +kernel) rfl rfl ?_
        refine ab_fin.br (c := (0 : Int32) = 0) (i := .ifCond .eq 9) (off := 9) (t := 93) (pc' := 87) (r := []) (by decide +kernel) rfl (by decide +kernel) rfl (fun q => ?_) (fun q => ?_)
        · replace w := w.1 q
          refine ab_fin.q_inc (n := 10) (c := 1) (pc' := 96) (lv' := [(10, .int (l10 + 1)), (9, .int 0), (7, .long (l7 &&& v3)), (0, .ref 40), (1, .int l1), (2, .int l2), (3, .long l3), (6, .int l6)]) (by decide +kernel) (by decide) rfl rfl rfl rfl ?_
          refine ab_fin.s3 (i := .goto (-60)) (k := 3) (t := 36) (st' := []) (by decide +kernel) (ab_gto (by decide +kernel)) ?_
          exact ab_fin.lv ⟨(List.forall_mem_cons.mpr ⟨(List.Mem.tail _ (List.Mem.tail _ (List.Mem.tail _ (List.Mem.head _)))), (List.forall_mem_cons.mpr ⟨(List.Mem.tail _ (List.Mem.tail _ (List.Mem.tail _ (List.Mem.tail _ (List.Mem.head _))))), (List.forall_mem_cons.mpr ⟨(List.Mem.tail _ (List.Mem.tail _ (List.Mem.tail _ (List.Mem.tail _ (List.Mem.tail _ (List.Mem.head _)))))), (List.forall_mem_cons.mpr ⟨(List.Mem.tail _ (List.Mem.tail _ (List.Mem.tail _ (List.Mem.tail _ (List.Mem.tail _ (List.Mem.tail _ (List.Mem.head _))))))), (List.forall_mem_cons.mpr ⟨(List.Mem.tail _ (List.Mem.tail _ (List.Mem.tail _ (List.Mem.tail _ (List.Mem.tail _ (List.Mem.tail _ (List.Mem.tail _ (List.Mem.head _)))))))), (List.forall_mem_cons.mpr ⟨(List.Mem.tail _ (List.Mem.tail _ (List.Mem.head _))), (List.forall_mem_cons.mpr ⟨(List.Mem.tail _ (List.Mem.head _)), (List.forall_mem_cons.mpr ⟨(List.Mem.head _), (fun _ h => absurd h List.not_mem_nil)⟩)⟩)⟩)⟩)⟩)⟩)⟩)⟩), (show ([10, 9, 7, 0, 1, 2, 3, 6] : List Nat).Nodup from by decide)⟩ w
        · replace w := w.2 q
          refine ab_fin.s2 (i := .aload_n 0) (k := 1) (pc' := 88) (lv' := [(9, .int 0), (7, .long (l7 &&& v3)), (0, .ref 40), (1, .int l1), (2, .int l2), (3, .long l3), (6, .int l6), (10, .int l10)]) (st' := [.ref 40]) (by decide +kernel) rfl rfl ?_
          refine ab_fin.s1i (i := .bipush 30) (k := 2) (pc' := 90) (n := 30) (by decide +kernel) rfl (by decide +kernel) rfl ?_
          refine ab_fin.q_yN (i := .invokevirtual 57) (k := 3) (y := 1799) (As := [.ref 40, .int 30]) (rest := []) (M' := (mX7_take, [])) (lv2 := [(0, .ref 40), (1, .int 30)]) (pc' := 93) (X := K) (by decide +kernel) (ab_cv rfl rfl (conc_get (σ := τ4) (F5.s t0_40)) ⟨(Nat.le_of_ble_eq_true rfl), (Nat.le_of_ble_eq_true rfl)⟩ rfl) rfl (Nat.le_of_ble_eq_true rfl) rfl rfl (hY_no fun E => rfl) w (fun τ7 F8 w => ?_)
          refine ab_fin.q_inc (n := 10) (c := 1) (pc' := 96) (lv' := [(10, .int (l10 + 1)), (9, .int 0), (7, .long (l7 &&& v3)), (0, .ref 40), (1, .int l1), (2, .int l2), (3, .long l3), (6, .int l6)]) (by decide +kernel) (by decide) rfl rfl rfl rfl ?_
          refine ab_fin.s3 (i := .goto (-60)) (k := 3) (t := 36) (st' := []) (by decide +kernel) (ab_gto (by decide +kernel)) ?_
          exact ab_fin.lv ⟨(List.forall_mem_cons.mpr ⟨(List.Mem.tail _ (List.Mem.tail _ (List.Mem.tail _ (List.Mem.head _)))), (List.forall_mem_cons.mpr ⟨(List.Mem.tail _ (List.Mem.tail _ (List.Mem.tail _ (List.Mem.tail _ (List.Mem.head _))))), (List.forall_mem_cons.mpr ⟨(List.Mem.tail _ (List.Mem.tail _ (List.Mem.tail _ (List.Mem.tail _ (List.Mem.tail _ (List.Mem.head _)))))), (List.forall_mem_cons.mpr ⟨(List.Mem.tail _ (List.Mem.tail _ (List.Mem.tail _ (List.Mem.tail _ (List.Mem.tail _ (List.Mem.tail _ (List.Mem.head _))))))), (List.forall_mem_cons.mpr ⟨(List.Mem.tail _ (List.Mem.tail _ (List.Mem.tail _ (List.Mem.tail _ (List.Mem.tail _ (List.Mem.tail _ (List.Mem.tail _ (List.Mem.head _)))))))), (List.forall_mem_cons.mpr ⟨(List.Mem.tail _ (List.Mem.tail _ (List.Mem.head _))), (List.forall_mem_cons.mpr ⟨(List.Mem.tail _ (List.Mem.head _)), (List.forall_mem_cons.mpr ⟨(List.Mem.head _), (fun _ h => absurd h List.not_mem_nil)⟩)⟩)⟩)⟩)⟩)⟩)⟩)⟩), (show ([10, 9, 7, 0, 1, 2, 3, 6] : List Nat).Nodup from by decide)⟩ w
      · replace w := w.2 (Decidable.of_not_not q)
        refine ab_fin.s1i (i := .iconst 1) (k := 1) (pc' := 76) (n := 1) (by decide +kernel) rfl (by decide +kernel) rfl ?_
        refine ab_fin.s3 (i := .goto 4) (k := 3) (t := 80) (st' := [.int 1]) (by decide +kernel) (ab_gto (by decide +kernel)) ?_
        refine ab_fin.s2 (i := .istore 9) (k := 2) (pc' := 82) (lv' := [(9, .int 1), (7, .long (l7 &&& v3)), (0, .ref 40), (1, .int l1), (2, .int l2), (3, .long l3), (6, .int l6), (10, .int l10)]) (st' := []) (by decide +kernel) rfl rfl ?_
        refine ab_fin.s2 (i := .iload 9) (k := 2) (pc' := 84) (lv' := [(9, .int 1), (7, .long (l7 &&& v3)), (0, .ref 40), (1, .int l1), (2, .int l2), (3, .long l3), (6, .int l6), (10, .int l10)]) (st' := [.int 1]) (by decide +kernel) rfl rfl ?_
        refine ab_fin.br (c := (1 : Int32) = 0) (i := .ifCond .eq 9) (off := 9) (t := 93) (pc' := 87) (r := []) (by decide +kernel) rfl (by decide +kernel) rfl (fun q => ?_) (fun q => ?_)
        · replace w := w.1 q
          refine ab_fin.q_inc (n := 10) (c := 1) (pc' := 96) (lv' := [(10, .int (l10 + 1)), (9, .int 1), (7, .long (l7 &&& v3)), (0, .ref 40), (1, .int l1), (2, .int l2), (3, .long l3), (6, .int l6)]) (by decide +kernel) (by decide) rfl rfl rfl rfl ?_
          refine ab_fin.s3 (i := .goto (-60)) (k := 3) (t := 36) (st' := []) (by decide +kernel) (ab_gto (by decide +kernel)) ?_
          exact ab_fin.lv ⟨(List.forall_mem_cons.mpr ⟨(List.Mem.tail _ (List.Mem.tail _ (List.Mem.tail _ (List.Mem.head _)))), (List.forall_mem_cons.mpr ⟨(List.Mem.tail _ (List.Mem.tail _ (List.Mem.tail _ (List.Mem.tail _ (List.Mem.head _))))), (List.forall_mem_cons.mpr ⟨(List.Mem.tail _ (List.Mem.tail _ (List.Mem.tail _ (List.Mem.tail _ (List.Mem.tail _ (List.Mem.head _)))))), (List.forall_mem_cons.mpr ⟨(List.Mem.tail _ (List.Mem.tail _ (List.Mem.tail _ (List.Mem.tail _ (List.Mem.tail _ (List.Mem.tail _ (List.Mem.head _))))))), (List.forall_mem_cons.mpr ⟨(List.Mem.tail _ (List.Mem.tail _ (List.Mem.tail _ (List.Mem.tail _ (List.Mem.tail _ (List.Mem.tail _ (List.Mem.tail _ (List.Mem.head _)))))))), (List.forall_mem_cons.mpr ⟨(List.Mem.tail _ (List.Mem.tail _ (List.Mem.head _))), (List.forall_mem_cons.mpr ⟨(List.Mem.tail _ (List.Mem.head _)), (List.forall_mem_cons.mpr ⟨(List.Mem.head _), (fun _ h => absurd h List.not_mem_nil)⟩)⟩)⟩)⟩)⟩)⟩)⟩)⟩), (show ([10, 9, 7, 0, 1, 2, 3, 6] : List Nat).Nodup from by decide)⟩ w
        · replace w := w.2 q
          refine ab_fin.s2 (i := .aload_n 0) (k := 1) (pc' := 88) (lv' := [(9, .int 1), (7, .long (l7 &&& v3)), (0, .ref 40), (1, .int l1), (2, .int l2), (3, .long l3), (6, .int l6), (10, .int l10)]) (st' := [.ref 40]) (by decide +kernel) rfl rfl ?_
          refine ab_fin.s1i (i := .bipush 30) (k := 2) (pc' := 90) (n := 30) (by decide +kernel) rfl (by decide +kernel) rfl ?_
          refine ab_fin.q_yN (i := .invokevirtual 57) (k := 3) (y := 1799) (As := [.ref 40, .int 30]) (rest := []) (M' := (mX7_take, [])) (lv2 := [(0, .ref 40), (1, .int 30)]) (pc' := 93) (X := K) (by decide +kernel) (ab_cv rfl rfl (conc_get (σ := τ4) (F5.s t0_40)) ⟨(Nat.le_of_ble_eq_true rfl), (Nat.le_of_ble_eq_true rfl)⟩ rfl) rfl (Nat.le_of_ble_eq_true rfl) rfl rfl (hY_no fun E => rfl) w (fun τ9 F10 w => ?_)
          refine ab_fin.q_inc (n := 10) (c := 1) (pc' := 96) (lv' := [(10, .int (l10 + 1)), (9, .int 1), (7, .long (l7 &&& v3)), (0, .ref 40), (1, .int l1), (2, .int l2), (3, .long l3), (6, .int l6)]) (by decide +kernel) (by decide) rfl rfl rfl rfl ?_
          refine ab_fin.s3 (i := .goto (-60)) (k := 3) (t := 36) (st' := []) (by decide +kernel) (ab_gto (by decide +kernel)) ?_
          exact ab_fin.lv ⟨(List.forall_mem_cons.mpr ⟨(List.Mem.tail _ (List.Mem.tail _ (List.Mem.tail _ (List.Mem.head _)))), (List.forall_mem_cons.mpr ⟨(List.Mem.tail _ (List.Mem.tail _ (List.Mem.tail _ (List.Mem.tail _ (List.Mem.head _))))), (List.forall_mem_cons.mpr ⟨(List.Mem.tail _ (List.Mem.tail _ (List.Mem.tail _ (List.Mem.tail _ (List.Mem.tail _ (List.Mem.head _)))))), (List.forall_mem_cons.mpr ⟨(List.Mem.tail _ (List.Mem.tail _ (List.Mem.tail _ (List.Mem.tail _ (List.Mem.tail _ (List.Mem.tail _ (List.Mem.head _))))))), (List.forall_mem_cons.mpr ⟨(List.Mem.tail _ (List.Mem.tail _ (List.Mem.tail _ (List.Mem.tail _ (List.Mem.tail _ (List.Mem.tail _ (List.Mem.tail _ (List.Mem.head _)))))))), (List.forall_mem_cons.mpr ⟨(List.Mem.tail _ (List.Mem.tail _ (List.Mem.head _))), (List.forall_mem_cons.mpr ⟨(List.Mem.tail _ (List.Mem.head _)), (List.forall_mem_cons.mpr ⟨(List.Mem.head _), (fun _ h => absurd h List.not_mem_nil)⟩)⟩)⟩)⟩)⟩)⟩)⟩)⟩), (show ([10, 9, 7, 0, 1, 2, 3, 6] : List Nat).Nodup from by decide)⟩ w
theorem T_X7_readTest_99 {Z : zT} {d : Nat} {σ : Sg} {l1 : Int32} {l2 : Int32} {l3 : Int64} {l6 : Int32} {l7 : Int64} {K : kS} (F : FX ΦC σ.sh σ.r) (w : C_X7_sign_0 Z d σ  (yI K fun v3 τ1 => (¬ v3 = 31 → ((0 : Int32) = 0 → C_X7_readTest_8 Z (d + 1) τ1 l1 l2 (l3 ||| l7) 0 (l6 + 1) K) ∧ (¬ (0 : Int32) = 0 → C_X7_take_0 Z d τ1 31 (yN K fun τ4 => C_X7_readTest_8 Z (d + 1) τ4 l1 l2 (l3 ||| l7) 0 (l6 + 1) K))) ∧ (v3 = 31 → ((1 : Int32) = 0 → C_X7_readTest_8 Z (d + 1) τ1 l1 l2 (l3 ||| l7) 1 (l6 + 1) K) ∧ (¬ (1 : Int32) = 0 → C_X7_take_0 Z d τ1 31 (yN K fun τ6 => C_X7_readTest_8 Z (d + 1) τ6 l1 l2 (l3 ||| l7) 1 (l6 + 1) K))))) : C_X7_readTest_99 Z (d + 1) σ l1 l2 l3 l6 l7 K := by
  unfold C_X7_readTest_99
  refine ab_fin.s2 (i := .lload_n 3) (k := 1) (pc' := 100) (lv' := [(0, .ref 40), (1, .int l1), (2, .int l2), (3, .long l3), (6, .int l6), (7, .long l7)]) (st' := [.long l3]) (by decide +kernel) rfl rfl ?_
  refine ab_fin.s2 (i := .lload 7) (k := 2) (pc' := 102) (lv' := [(0, .ref 40), (1, .int l1), (2, .int l2), (3, .long l3), (6, .int l6), (7, .long l7)]) (st' := [.long l7, .long l3]) (by decide +kernel) rfl rfl ?_
  refine ab_fin.s1 (i := .lor) (k := 1) (pc' := 103) (st' := [.long (l3 ||| l7)]) (by decide +kernel) rfl rfl ?_
  refine ab_fin.s2 (i := .lstore_n 3) (k := 1) (pc' := 104) (lv' := [(3, .long (l3 ||| l7)), (0, .ref 40), (1, .int l1), (2, .int l2), (6, .int l6), (7, .long l7)]) (st' := []) (by decide +kernel) rfl rfl ?_
  refine ab_fin.s2 (i := .aload_n 0) (k := 1) (pc' := 105) (lv' := [(3, .long (l3 ||| l7)), (0, .ref 40), (1, .int l1), (2, .int l2), (6, .int l6), (7, .long l7)]) (st' := [.ref 40]) (by decide +kernel) rfl rfl ?_
  refine ab_fin.q_yI (i := .invokevirtual 41) (k := 3) (y := 1798) (As := [.ref 40]) (rest := []) (M' := (mX7_sign, [])) (lv2 := [(0, .ref 40)]) (pc' := 108) (X := K) (by decide +kernel) (ab_cv rfl rfl (conc_get (σ := σ) (F.s t0_40)) ⟨(Nat.le_of_ble_eq_true rfl), (Nat.le_of_ble_eq_true rfl)⟩ rfl) rfl (Nat.le_of_ble_eq_true rfl) rfl rfl (hY_no fun E => rfl) w (fun v3 τ1 F2 w => ?_)
  refine ab_fin.s1i (i := .bipush 31) (k := 2) (pc' := 110) (n := 31) (by decide +kernel) rfl (by decide +kernel) rfl ?_
  refine ab_fin.br (c := ¬ v3 = 31) (i := .if_icmp .ne 7) (off := 7) (t := 117) (pc' := 113) (r := []) (by decide +kernel) rfl (by decide +kernel) rfl (fun q => ?_) (fun q => ?_)
  · replace w := w.1 q
    refine ab_fin.s1i (i := .iconst 0) (k := 1) (pc' := 118) (n := 0) (by decide +kernel) rfl (by decide +kernel) rfl ?_
    refine ab_fin.s2 (i := .istore 5) (k := 2) (pc' := 120) (lv' := [(5, .int 0), (3, .long (l3 ||| l7)), (0, .ref 40), (1, .int l1), (2, .int l2), (6, .int l6), (7, .long l7)]) (st' := []) (by decide +kernel) rfl rfl ?_
    refine ab_fin.s2 (i := .iload 5) (k := 2) (pc' := 122) (lv' := [(5, .int 0), (3, .long (l3 ||| l7)), (0, .ref 40), (1, .int l1), (2, .int l2), (6, .int l6), (7, .long l7)]) (st' := [.int 0]) (by decide +kernel) rfl rfl ?_
    refine ab_fin.br (c := (0 : Int32) = 0) (i := .ifCond .eq 9) (off := 9) (t := 131) (pc' := 125) (r := []) (by decide +kernel) rfl (by decide +kernel) rfl (fun q => ?_) (fun q => ?_)
    · replace w := w.1 q
      refine ab_fin.q_inc (n := 6) (c := 1) (pc' := 134) (lv' := [(6, .int (l6 + 1)), (5, .int 0), (3, .long (l3 ||| l7)), (0, .ref 40), (1, .int l1), (2, .int l2), (7, .long l7)]) (by decide +kernel) (by decide) rfl rfl rfl rfl ?_
      refine ab_fin.s3 (i := .goto (-126)) (k := 3) (t := 8) (st' := []) (by decide +kernel) (ab_gto (by decide +kernel)) ?_
      exact ab_fin.lv ⟨(List.forall_mem_cons.mpr ⟨(List.Mem.tail _ (List.Mem.tail _ (List.Mem.tail _ (List.Mem.head _)))), (List.forall_mem_cons.mpr ⟨(List.Mem.tail _ (List.Mem.tail _ (List.Mem.tail _ (List.Mem.tail _ (List.Mem.head _))))), (List.forall_mem_cons.mpr ⟨(List.Mem.tail _ (List.Mem.tail _ (List.Mem.tail _ (List.Mem.tail _ (List.Mem.tail _ (List.Mem.head _)))))), (List.forall_mem_cons.mpr ⟨(List.Mem.tail _ (List.Mem.tail _ (List.Mem.head _))), (List.forall_mem_cons.mpr ⟨(List.Mem.tail _ (List.Mem.head _)), (List.forall_mem_cons.mpr ⟨(List.Mem.head _), (fun _ h => absurd h List.not_mem_nil)⟩)⟩)⟩)⟩)⟩)⟩), (show ([6, 5, 3, 0, 1, 2, 7] : List Nat).Nodup from by decide)⟩ w
    · replace w := w.2 q
      refine ab_fin.s2 (i := .aload_n 0) (k := 1) (pc' := 126) (lv' := [(5, .int 0), (3, .long (l3 ||| l7)), (0, .ref 40), (1, .int l1), (2, .int l2), (6, .int l6), (7, .long l7)]) (st' := [.ref 40]) (by decide +kernel) rfl rfl ?_
      refine ab_fin.s1i (i := .bipush 31) (k := 2) (pc' := 128) (n := 31) (by decide +kernel) rfl (by decide +kernel) rfl ?_
      refine ab_fin.q_yN (i := .invokevirtual 57) (k := 3) (y := 1799) (As := [.ref 40, .int 31]) (rest := []) (M' := (mX7_take, [])) (lv2 := [(0, .ref 40), (1, .int 31)]) (pc' := 131) (X := K) (by decide +kernel) (ab_cv rfl rfl (conc_get (σ := τ1) (F2.s t0_40)) ⟨(Nat.le_of_ble_eq_true rfl), (Nat.le_of_ble_eq_true rfl)⟩ rfl) rfl (Nat.le_of_ble_eq_true rfl) rfl rfl (hY_no fun E => rfl) w (fun τ4 F5 w => ?_)
      refine ab_fin.q_inc (n := 6) (c := 1) (pc' := 134) (lv' := [(6, .int (l6 + 1)), (5, .int 0), (3, .long (l3 ||| l7)), (0, .ref 40), (1, .int l1), (2, .int l2), (7, .long l7)]) (by decide +kernel) (by decide) rfl rfl rfl rfl ?_
      refine ab_fin.s3 (i := .goto (-126)) (k := 3) (t := 8) (st' := []) (by decide +kernel) (ab_gto (by decide +kernel)) ?_
      exact ab_fin.lv ⟨(List.forall_mem_cons.mpr ⟨(List.Mem.tail _ (List.Mem.tail _ (List.Mem.tail _ (List.Mem.head _)))), (List.forall_mem_cons.mpr ⟨(List.Mem.tail _ (List.Mem.tail _ (List.Mem.tail _ (List.Mem.tail _ (List.Mem.head _))))), (List.forall_mem_cons.mpr ⟨(List.Mem.tail _ (List.Mem.tail _ (List.Mem.tail _ (List.Mem.tail _ (List.Mem.tail _ (List.Mem.head _)))))), (List.forall_mem_cons.mpr ⟨(List.Mem.tail _ (List.Mem.tail _ (List.Mem.head _))), (List.forall_mem_cons.mpr ⟨(List.Mem.tail _ (List.Mem.head _)), (List.forall_mem_cons.mpr ⟨(List.Mem.head _), (fun _ h => absurd h List.not_mem_nil)⟩)⟩)⟩)⟩)⟩)⟩), (show ([6, 5, 3, 0, 1, 2, 7] : List Nat).Nodup from by decide)⟩ w
  · replace w := w.2 (Decidable.of_not_not q)
    refine ab_fin.s1i (i := .iconst 1) (k := 1) (pc' := 114) (n := 1) (by decide +kernel) rfl (by decide +kernel) rfl ?_
    refine ab_fin.s3 (i := .goto 4) (k := 3) (t := 118) (st' := [.int 1]) (by decide +kernel) (ab_gto (by decide +kernel)) ?_
    refine ab_fin.s2 (i := .istore 5) (k := 2) (pc' := 120) (lv' := [(5, .int 1), (3, .long (l3 ||| l7)), (0, .ref 40), (1, .int l1), (2, .int l2), (6, .int l6), (7, .long l7)]) (st' := []) (by decide +kernel) rfl rfl ?_
    refine ab_fin.s2 (i := .iload 5) (k := 2) (pc' := 122) (lv' := [(5, .int 1), (3, .long (l3 ||| l7)), (0, .ref 40), (1, .int l1), (2, .int l2), (6, .int l6), (7, .long l7)]) (st' := [.int 1]) (by decide +kernel) rfl rfl ?_
    refine ab_fin.br (c := (1 : Int32) = 0) (i := .ifCond .eq 9) (off := 9) (t := 131) (pc' := 125) (r := []) (by decide +kernel) rfl (by decide +kernel) rfl (fun q => ?_) (fun q => ?_)
    · replace w := w.1 q
      refine ab_fin.q_inc (n := 6) (c := 1) (pc' := 134) (lv' := [(6, .int (l6 + 1)), (5, .int 1), (3, .long (l3 ||| l7)), (0, .ref 40), (1, .int l1), (2, .int l2), (7, .long l7)]) (by decide +kernel) (by decide) rfl rfl rfl rfl ?_
      refine ab_fin.s3 (i := .goto (-126)) (k := 3) (t := 8) (st' := []) (by decide +kernel) (ab_gto (by decide +kernel)) ?_
      exact ab_fin.lv ⟨(List.forall_mem_cons.mpr ⟨(List.Mem.tail _ (List.Mem.tail _ (List.Mem.tail _ (List.Mem.head _)))), (List.forall_mem_cons.mpr ⟨(List.Mem.tail _ (List.Mem.tail _ (List.Mem.tail _ (List.Mem.tail _ (List.Mem.head _))))), (List.forall_mem_cons.mpr ⟨(List.Mem.tail _ (List.Mem.tail _ (List.Mem.tail _ (List.Mem.tail _ (List.Mem.tail _ (List.Mem.head _)))))), (List.forall_mem_cons.mpr ⟨(List.Mem.tail _ (List.Mem.tail _ (List.Mem.head _))), (List.forall_mem_cons.mpr ⟨(List.Mem.tail _ (List.Mem.head _)), (List.forall_mem_cons.mpr ⟨(List.Mem.head _), (fun _ h => absurd h List.not_mem_nil)⟩)⟩)⟩)⟩)⟩)⟩), (show ([6, 5, 3, 0, 1, 2, 7] : List Nat).Nodup from by decide)⟩ w
    · replace w := w.2 q
      refine ab_fin.s2 (i := .aload_n 0) (k := 1) (pc' := 126) (lv' := [(5, .int 1), (3, .long (l3 ||| l7)), (0, .ref 40), (1, .int l1), (2, .int l2), (6, .int l6), (7, .long l7)]) (st' := [.ref 40]) (by decide +kernel) rfl rfl ?_
      refine ab_fin.s1i (i := .bipush 31) (k := 2) (pc' := 128) (n := 31) (by decide +kernel) rfl (by decide +kernel) rfl ?_
      refine ab_fin.q_yN (i := .invokevirtual 57) (k := 3) (y := 1799) (As := [.ref 40, .int 31]) (rest := []) (M' := (mX7_take, [])) (lv2 := [(0, .ref 40), (1, .int 31)]) (pc' := 131) (X := K) (by decide +kernel) (ab_cv rfl rfl (conc_get (σ := τ1) (F2.s t0_40)) ⟨(Nat.le_of_ble_eq_true rfl), (Nat.le_of_ble_eq_true rfl)⟩ rfl) rfl (Nat.le_of_ble_eq_true rfl) rfl rfl (hY_no fun E => rfl) w (fun τ6 F7 w => ?_)
      refine ab_fin.q_inc (n := 6) (c := 1) (pc' := 134) (lv' := [(6, .int (l6 + 1)), (5, .int 1), (3, .long (l3 ||| l7)), (0, .ref 40), (1, .int l1), (2, .int l2), (7, .long l7)]) (by decide +kernel) (by decide) rfl rfl rfl rfl ?_
      refine ab_fin.s3 (i := .goto (-126)) (k := 3) (t := 8) (st' := []) (by decide +kernel) (ab_gto (by decide +kernel)) ?_
      exact ab_fin.lv ⟨(List.forall_mem_cons.mpr ⟨(List.Mem.tail _ (List.Mem.tail _ (List.Mem.tail _ (List.Mem.head _)))), (List.forall_mem_cons.mpr ⟨(List.Mem.tail _ (List.Mem.tail _ (List.Mem.tail _ (List.Mem.tail _ (List.Mem.head _))))), (List.forall_mem_cons.mpr ⟨(List.Mem.tail _ (List.Mem.tail _ (List.Mem.tail _ (List.Mem.tail _ (List.Mem.tail _ (List.Mem.head _)))))), (List.forall_mem_cons.mpr ⟨(List.Mem.tail _ (List.Mem.tail _ (List.Mem.head _))), (List.forall_mem_cons.mpr ⟨(List.Mem.tail _ (List.Mem.head _)), (List.forall_mem_cons.mpr ⟨(List.Mem.head _), (fun _ h => absurd h List.not_mem_nil)⟩)⟩)⟩)⟩)⟩)⟩), (show ([6, 5, 3, 0, 1, 2, 7] : List Nat).Nodup from by decide)⟩ w
theorem T_X7_readOneOfTest_0 {Z : zT} {d : Nat} {σ : Sg} {l1 : Int32} {l2 : Int32} {K : kS} (F : FX ΦC σ.sh σ.r) (w : (l2 ≤ 12 → C_X7_sign_0 Z d σ  (yI K fun v3 τ1 => (¬ v3 = 32 → C_X7_sign_0 Z d τ1  (yI K fun v6 τ4 => (¬ v6 = 4 → C_X7_readComparison_0 Z d τ4 l1 (yI K fun v9 τ7 => ∃ v10, xJ1 2 v9 v10 ∧ (K (.inl (some (.long v10))) τ7))) ∧ (v6 = 4 → C_X7_take_0 Z d τ4 4 (yN K fun τ12 => C_X7_readTest_0 Z d τ12 l1 l2 (yL K fun v16 τ14 => C_X7_take_0 Z d τ14 5 (yN K fun τ17 => K (.inl (some (.long v16))) τ17)))))) ∧ (v3 = 32 → C_X7_take_0 Z d τ1 32 (yN K fun τ19 => C_X7_readOneOfTest_0 Z d τ19 l1 (l2 + (1 : Int32)) (yL K fun v23 τ21 => K (.inl (some (.long (v23 ^^^ (-1 : Int64))))) τ21))))) ∧ (¬ l2 ≤ 12 → C_X7_take_0 Z d σ (-1) (yN K fun τ24 => K (.inl (some (.long 0))) τ24))) : C_X7_readOneOfTest_0 Z (d + 1) σ l1 l2 K := by
  unfold C_X7_readOneOfTest_0
  refine ab_fin.s2 (i := .iload_n 2) (k := 1) (pc' := 1) (lv' := [(0, .ref 40), (1, .int l1), (2, .int l2)]) (st' := [.int l2]) (by decide +kernel) rfl rfl ?_
  refine ab_fin.s1i (i := .bipush 12) (k := 2) (pc' := 3) (n := 12) (by decide +kernel) rfl (by decide +kernel) rfl ?_
  refine ab_fin.br (c := l2 ≤ 12) (i := .if_icmp .le 10) (off := 10) (t := 13) (pc' := 6) (r := []) (by decide +kernel) rfl (by decide +kernel) rfl (fun q => ?_) (fun q => ?_)
  · replace w := w.1 q
    refine ab_fin.s2 (i := .aload_n 0) (k := 1) (pc' := 14) (lv' := [(0, .ref 40), (1, .int l1), (2, .int l2)]) (st' := [.ref 40]) (by decide +kernel) rfl rfl ?_
    refine ab_fin.q_yI (i := .invokevirtual 41) (k := 3) (y := 1798) (As := [.ref 40]) (rest := []) (M' := (mX7_sign, [])) (lv2 := [(0, .ref 40)]) (pc' := 17) (X := K) (by decide +kernel) (ab_cv rfl rfl (conc_get (σ := σ) (F.s t0_40)) ⟨(Nat.le_of_ble_eq_true rfl), (Nat.le_of_ble_eq_true rfl)⟩ rfl) rfl (Nat.le_of_ble_eq_true rfl) rfl rfl (hY_no fun E => rfl) w (fun v3 τ1 F2 w => ?_)
    refine ab_fin.s1i (i := .bipush 32) (k := 2) (pc' := 19) (n := 32) (by decide +kernel) rfl (by decide +kernel) rfl ?_
    refine ab_fin.br (c := ¬ v3 = 32) (i := .if_icmp .ne 22) (off := 22) (t := 41) (pc' := 22) (r := []) (by decide +kernel) rfl (by decide +kernel) rfl (fun q => ?_) (fun q => ?_)
    · replace w := w.1 q
      refine ab_fin.s2 (i := .aload_n 0) (k := 1) (pc' := 42) (lv' := [(0, .ref 40), (1, .int l1), (2, .int l2)]) (st' := [.ref 40]) (by decide +kernel) rfl rfl ?_
      refine ab_fin.q_yI (i := .invokevirtual 41) (k := 3) (y := 1798) (As := [.ref 40]) (rest := []) (M' := (mX7_sign, [])) (lv2 := [(0, .ref 40)]) (pc' := 45) (X := K) (by decide +kernel) (ab_cv rfl rfl (conc_get (σ := τ1) (F2.s t0_40)) ⟨(Nat.le_of_ble_eq_true rfl), (Nat.le_of_ble_eq_true rfl)⟩ rfl) rfl (Nat.le_of_ble_eq_true rfl) rfl rfl (hY_no fun E => rfl) w (fun v6 τ4 F5 w => ?_)
      refine ab_fin.s1i (i := .iconst 4) (k := 1) (pc' := 46) (n := 4) (by decide +kernel) rfl (by decide +kernel) rfl ?_
      refine ab_fin.br (c := ¬ v6 = 4) (i := .if_icmp .ne 22) (off := 22) (t := 68) (pc' := 49) (r := []) (by decide +kernel) rfl (by decide +kernel) rfl (fun q => ?_) (fun q => ?_)
      · replace w := w.1 q
        refine ab_fin.s8 (i := .getstatic 237) (k := 3) (pc' := 71) (st' := [.retAddr 2]) (by decide +kernel) rfl rfl rfl rfl ?_
        refine ab_fin.s2 (i := .aload_n 0) (k := 1) (pc' := 72) (lv' := [(0, .ref 40), (1, .int l1), (2, .int l2)]) (st' := [.ref 40, .retAddr 2]) (by decide +kernel) rfl rfl ?_
        refine ab_fin.s2 (i := .iload_n 1) (k := 1) (pc' := 73) (lv' := [(0, .ref 40), (1, .int l1), (2, .int l2)]) (st' := [.int l1, .ref 40, .retAddr 2]) (by decide +kernel) rfl rfl ?_
        refine ab_fin.q_yI (i := .invokevirtual 240) (k := 3) (y := 1812) (As := [.ref 40, .int l1]) (rest := [.retAddr 2]) (M' := (mX7_readComparison, [])) (lv2 := [(0, .ref 40), (1, .int l1)]) (pc' := 76) (X := K) (by decide +kernel) (ab_cv rfl rfl (conc_get (σ := τ4) (F5.s t0_40)) ⟨(Nat.le_of_ble_eq_true rfl), (Nat.le_of_ble_eq_true rfl)⟩ rfl) rfl (Nat.le_of_ble_eq_true rfl) rfl rfl (hY_no fun E => rfl) w (fun v9 τ7 F8 w => ?_)
        obtain ⟨v10, e11, w⟩ := w
        refine ab_fin.q_x1 (pc' := 77) (by decide +kernel) e11 rfl ?_
        exact ab_fin.q_ret (i := .lreturn) (k := 1) (v := some (.long v10)) (by decide +kernel) rfl F8 w
      · replace w := w.2 (Decidable.of_not_not q)
        refine ab_fin.s2 (i := .aload_n 0) (k := 1) (pc' := 50) (lv' := [(0, .ref 40), (1, .int l1), (2, .int l2)]) (st' := [.ref 40]) (by decide +kernel) rfl rfl ?_
        refine ab_fin.s1i (i := .iconst 4) (k := 1) (pc' := 51) (n := 4) (by decide +kernel) rfl (by decide +kernel) rfl ?_
        refine ab_fin.q_yN (i := .invokevirtual 57) (k := 3) (y := 1799) (As := [.ref 40, .int 4]) (rest := []) (M' := (mX7_take, [])) (lv2 := [(0, .ref 40), (1, .int 4)]) (pc' := 54) (X := K) (by decide +kernel) (ab_cv rfl rfl (conc_get (σ := τ4) (F5.s t0_40)) ⟨(Nat.le_of_ble_eq_true rfl), (Nat.le_of_ble_eq_true rfl)⟩ rfl) rfl (Nat.le_of_ble_eq_true rfl) rfl rfl (hY_no fun E => rfl) w (fun τ12 F13 w => ?_)
        refine ab_fin.s2 (i := .aload_n 0) (k := 1) (pc' := 55) (lv' := [(0, .ref 40), (1, .int l1), (2, .int l2)]) (st' := [.ref 40]) (by decide +kernel) rfl rfl ?_
        refine ab_fin.s2 (i := .iload_n 1) (k := 1) (pc' := 56) (lv' := [(0, .ref 40), (1, .int l1), (2, .int l2)]) (st' := [.int l1, .ref 40]) (by decide +kernel) rfl rfl ?_
        refine ab_fin.s2 (i := .iload_n 2) (k := 1) (pc' := 57) (lv' := [(0, .ref 40), (1, .int l1), (2, .int l2)]) (st' := [.int l2, .int l1, .ref 40]) (by decide +kernel) rfl rfl ?_
        refine ab_fin.q_yL (i := .invokevirtual 206) (k := 3) (y := 1810) (As := [.ref 40, .int l1, .int l2]) (rest := []) (M' := (mX7_readTest, [])) (lv2 := [(0, .ref 40), (1, .int l1), (2, .int l2)]) (pc' := 60) (X := K) (by decide +kernel) (ab_cv rfl rfl (conc_get (σ := τ12) (F13.s t0_40)) ⟨(Nat.le_of_ble_eq_true rfl), (Nat.le_of_ble_eq_true rfl)⟩ rfl) rfl (Nat.le_of_ble_eq_true rfl) rfl rfl (hY_no fun E => rfl) w (fun v16 τ14 F15 w => ?_)
        refine ab_fin.s2 (i := .lstore_n 3) (k := 1) (pc' := 61) (lv' := [(3, .long v16), (0, .ref 40), (1, .int l1), (2, .int l2)]) (st' := []) (by decide +kernel) rfl rfl ?_
        refine ab_fin.s2 (i := .aload_n 0) (k := 1) (pc' := 62) (lv' := [(3, .long v16), (0, .ref 40), (1, .int l1), (2, .int l2)]) (st' := [.ref 40]) (by decide +kernel) rfl rfl ?_
        refine ab_fin.s1i (i := .iconst 5) (k := 1) (pc' := 63) (n := 5) (by decide +kernel) rfl (by decide +kernel) rfl ?_
        refine ab_fin.q_yN (i := .invokevirtual 57) (k := 3) (y := 1799) (As := [.ref 40, .int 5]) (rest := []) (M' := (mX7_take, [])) (lv2 := [(0, .ref 40), (1, .int 5)]) (pc' := 66) (X := K) (by decide +kernel) (ab_cv rfl rfl (conc_get (σ := τ14) (F15.s t0_40)) ⟨(Nat.le_of_ble_eq_true rfl), (Nat.le_of_ble_eq_true rfl)⟩ rfl) rfl (Nat.le_of_ble_eq_true rfl) rfl rfl (hY_no fun E => rfl) w (fun τ17 F18 w => ?_)
        refine ab_fin.s2 (i := .lload_n 3) (k := 1) (pc' := 67) (lv' := [(3, .long v16), (0, .ref 40), (1, .int l1), (2, .int l2)]) (st' := [.long v16]) (by decide +kernel) rfl rfl ?_
        exact ab_fin.q_ret (i := .lreturn) (k := 1) (v := some (.long v16)) (by decide +kernel) rfl F18 w
    · replace w := w.2 (Decidable.of_not_not q)
      refine ab_fin.s2 (i := .aload_n 0) (k := 1) (pc' := 23) (lv' := [(0, .ref 40), (1, .int l1), (2, .int l2)]) (st' := [.ref 40]) (by decide +kernel) rfl rfl ?_
      refine ab_fin.s1i (i := .bipush 32) (k := 2) (pc' := 25) (n := 32) (by decide +kernel) rfl (by decide +kernel) rfl ?_
      refine ab_fin.q_yN (i := .invokevirtual 57) (k := 3) (y := 1799) (As := [.ref 40, .int 32]) (rest := []) (M' := (mX7_take, [])) (lv2 := [(0, .ref 40), (1, .int 32)]) (pc' := 28) (X := K) (by decide +kernel) (ab_cv rfl rfl (conc_get (σ := τ1) (F2.s t0_40)) ⟨(Nat.le_of_ble_eq_true rfl), (Nat.le_of_ble_eq_true rfl)⟩ rfl) rfl (Nat.le_of_ble_eq_true rfl) rfl rfl (hY_no fun E => rfl) w (fun τ19 F20 w => ?_)
      refine ab_fin.s2 (i := .aload_n 0) (k := 1) (pc' := 29) (lv' := [(0, .ref 40), (1, .int l1), (2, .int l2)]) (st' := [.ref 40]) (by decide +kernel) rfl rfl ?_
      refine ab_fin.s2 (i := .iload_n 1) (k := 1) (pc' := 30) (lv' := [(0, .ref 40), (1, .int l1), (2, .int l2)]) (st' := [.int l1, .ref 40]) (by decide +kernel) rfl rfl ?_
      refine ab_fin.s2 (i := .iload_n 2) (k := 1) (pc' := 31) (lv' := [(0, .ref 40), (1, .int l1), (2, .int l2)]) (st' := [.int l2, .int l1, .ref 40]) (by decide +kernel) rfl rfl ?_
      refine ab_fin.s1i (i := .iconst 1) (k := 1) (pc' := 32) (n := 1) (by decide +kernel) rfl (by decide +kernel) rfl ?_
      refine ab_fin.s1 (i := .iadd) (k := 1) (pc' := 33) (st' := [.int (l2 + (1 : Int32)), .int l1, .ref 40]) (by decide +kernel) rfl rfl ?_
      refine ab_fin.q_yL (i := .invokevirtual 234) (k := 3) (y := 1811) (As := [.ref 40, .int l1, .int (l2 + (1 : Int32))]) (rest := []) (M' := (mX7_readOneOfTest, [])) (lv2 := [(0, .ref 40), (1, .int l1), (2, .int (l2 + (1 : Int32)))]) (pc' := 36) (X := K) (by decide +kernel) (ab_cv rfl rfl (conc_get (σ := τ19) (F20.s t0_40)) ⟨(Nat.le_of_ble_eq_true rfl), (Nat.le_of_ble_eq_true rfl)⟩ rfl) rfl (Nat.le_of_ble_eq_true rfl) rfl rfl (hY_no fun E => rfl) w (fun v23 τ21 F22 w => ?_)
      refine ab_fin.s7 (i := .ldc2_w 232) (k := 3) (pc' := 39) (st' := [.long (-1), .long v23]) (by decide +kernel) rfl rfl ?_
      refine ab_fin.s1 (i := .lxor) (k := 1) (pc' := 40) (st' := [.long (v23 ^^^ (-1 : Int64))]) (by decide +kernel) rfl rfl ?_
      exact ab_fin.q_ret (i := .lreturn) (k := 1) (v := some (.long (v23 ^^^ (-1 : Int64)))) (by decide +kernel) rfl F22 w
  · replace w := w.2 q
    refine ab_fin.s2 (i := .aload_n 0) (k := 1) (pc' := 7) (lv' := [(0, .ref 40), (1, .int l1), (2, .int l2)]) (st' := [.ref 40]) (by decide +kernel) rfl rfl ?_
    refine ab_fin.s1i (i := .iconst (-1)) (k := 1) (pc' := 8) (n := (-1)) (by decide +kernel) rfl (by decide +kernel) rfl ?_
    refine ab_fin.q_yN (i := .invokevirtual 57) (k := 3) (y := 1799) (As := [.ref 40, .int (-1)]) (rest := []) (M' := (mX7_take, [])) (lv2 := [(0, .ref 40), (1, .int (-1))]) (pc' := 11) (X := K) (by decide +kernel) (ab_cv rfl rfl (conc_get (σ := σ) (F.s t0_40)) ⟨(Nat.le_of_ble_eq_true rfl), (Nat.le_of_ble_eq_true rfl)⟩ rfl) rfl (Nat.le_of_ble_eq_true rfl) rfl rfl (hY_no fun E => rfl) w (fun τ24 F25 w => ?_)
    refine ab_fin.s1l (i := .lconst 0) (k := 1) (pc' := 12) (n := 0) (by decide +kernel) rfl (by decide +kernel) rfl ?_
    exact ab_fin.q_ret (i := .lreturn) (k := 1) (v := some (.long 0)) (by decide +kernel) rfl F25 w
theorem T_X7_readComparison_0 {Z : zT} {d : Nat} {σ : Sg} {l1 : Int32} {K : kS} (F : FX ΦC σ.sh σ.r) (w : (((σ.i 40 10) + (1 : Int32)) ≤ 6 → C_X7_readComparison_29 Z (d + 1) (σ.wi 40 10 ((σ.i 40 10) + (1 : Int32))) l1 K) ∧ (¬ ((σ.i 40 10) + (1 : Int32)) ≤ 6 → C_X7_breakRule_0 Z d (σ.wi 40 10 ((σ.i 40 10) + (1 : Int32))) 7 (σ.i 40 3) (yN K fun τ1 => C_X7_readComparison_29 Z (d + 1) τ1 l1 K))) : C_X7_readComparison_0 Z (d + 1) σ l1 K := by
  unfold C_X7_readComparison_0
  refine ab_fin.s2 (i := .aload_n 0) (k := 1) (pc' := 1) (lv' := [(0, .ref 40), (1, .int l1)]) (st' := [.ref 40]) (by decide +kernel) rfl rfl ?_
  refine ab_fin.s1 (i := .dup) (k := 1) (pc' := 2) (st' := [.ref 40, .ref 40]) (by decide +kernel) rfl rfl ?_
  refine ab_fin.q_rI (x := (σ.i 40 10)) (ix := 200) (ci := 8) (k := 10) (pc' := 5) (by decide +kernel) rfl (c_rI (F.s t0_40) rfl) rfl ?_
  refine ab_fin.s1i (i := .iconst 1) (k := 1) (pc' := 6) (n := 1) (by decide +kernel) rfl (by decide +kernel) rfl ?_
  refine ab_fin.s1 (i := .iadd) (k := 1) (pc' := 7) (st' := [.int ((σ.i 40 10) + (1 : Int32)), .ref 40]) (by decide +kernel) rfl rfl ?_
  refine ab_fin.q_pF (ix := 200) (ci := 8) (k := 10) (h1 := conc (σ.wi 40 10 ((σ.i 40 10) + (1 : Int32)))) (pc' := 10) (by decide +kernel) rfl (c_pI (v := ((σ.i 40 10) + (1 : Int32))) (F.s t0_40) rfl) rfl rfl rfl ?_
  refine ab_fin.s2 (i := .aload_n 0) (k := 1) (pc' := 11) (lv' := [(0, .ref 40), (1, .int l1)]) (st' := [.ref 40]) (by decide +kernel) rfl rfl ?_
  refine ab_fin.q_rI (x := ((σ.i 40 10) + (1 : Int32))) (ix := 200) (ci := 8) (k := 10) (pc' := 14) (by decide +kernel) rfl (c_rI (F.s t0_40) rfl) rfl ?_
  refine ab_fin.s1i (i := .bipush 6) (k := 2) (pc' := 16) (n := 6) (by decide +kernel) rfl (by decide +kernel) rfl ?_
  refine ab_fin.br (c := ((σ.i 40 10) + (1 : Int32)) ≤ 6) (i := .if_icmp .le 13) (off := 13) (t := 29) (pc' := 19) (r := []) (by decide +kernel) rfl (by decide +kernel) rfl (fun q => ?_) (fun q => ?_)
  · replace w := w.1 q
    exact ab_fin.lv ⟨(List.forall_mem_cons.mpr ⟨(List.Mem.head _), (List.forall_mem_cons.mpr ⟨(List.Mem.tail _ (List.Mem.head _)), (fun _ h => absurd h List.not_mem_nil)⟩)⟩), (show ([0, 1] : List Nat).Nodup from by decide)⟩ w
  · replace w := w.2 q
    refine ab_fin.s2 (i := .aload_n 0) (k := 1) (pc' := 20) (lv' := [(0, .ref 40), (1, .int l1)]) (st' := [.ref 40]) (by decide +kernel) rfl rfl ?_
    refine ab_fin.s1i (i := .bipush 7) (k := 2) (pc' := 22) (n := 7) (by decide +kernel) rfl (by decide +kernel) rfl ?_
    refine ab_fin.s2 (i := .aload_n 0) (k := 1) (pc' := 23) (lv' := [(0, .ref 40), (1, .int l1)]) (st' := [.ref 40, .int 7, .ref 40]) (by decide +kernel) rfl rfl ?_
    refine ab_fin.q_rI (x := (σ.i 40 3)) (ix := 97) (ci := 8) (k := 3) (pc' := 26) (by decide +kernel) rfl (c_rI (F.s t0_40) rfl) rfl ?_
    refine ab_fin.q_yN (i := .invokevirtual 126) (k := 3) (y := 1800) (As := [.ref 40, .int 7, .int (σ.i 40 3)]) (rest := []) (M' := (mX7_breakRule, [])) (lv2 := [(0, .ref 40), (1, .int 7), (2, .int (σ.i 40 3))]) (pc' := 29) (X := K) (by decide +kernel) (ab_cv rfl rfl (conc_get (σ := (σ.wi 40 10 ((σ.i 40 10) + (1 : Int32)))) (F.s t0_40)) ⟨(Nat.le_of_ble_eq_true rfl), (Nat.le_of_ble_eq_true rfl)⟩ rfl) rfl (Nat.le_of_ble_eq_true rfl) rfl rfl (hY_no fun E => rfl) w (fun τ1 F2 w => ?_)
    exact ab_fin.lv ⟨(List.forall_mem_cons.mpr ⟨(List.Mem.head _), (List.forall_mem_cons.mpr ⟨(List.Mem.tail _ (List.Mem.head _)), (fun _ h => absurd h List.not_mem_nil)⟩)⟩), (show ([0, 1] : List Nat).Nodup from by decide)⟩ w
theorem T_X7_readComparison_29 {Z : zT} {d : Nat} {σ : Sg} {l1 : Int32} {K : kS} (F : FX ΦC σ.sh σ.r) (w : C_X7_sign_0 Z d σ  (yI K fun v3 τ1 => (¬ v3 = 2 → C_X7_readComparison_94 Z (d + 1) τ1 l1 K) ∧ (v3 = 2 → ∃ b4, (τ1.r 41 0) = Rf.ptr b4 ∧ (∃ n7, τ1.sh[b4]? = some (Sh.arr 0 n7) ∧ (ib ((τ1.i 40 3) + (1 : Int32)) n7 ∧ ((¬ (τ1.i b4 (((τ1.i 40 3) + (1 : Int32)).toNatClampNeg)) = 33 → C_X7_readComparison_94 Z (d + 1) τ1 l1 K) ∧ ((τ1.i b4 (((τ1.i 40 3) + (1 : Int32)).toNatClampNeg)) = 33 → C_X7_takeKnownName_0 Z d τ1 3 (yI K fun v11 τ9 => C_X7_take_0 Z d τ9 33 (yN K fun τ12 => C_X7_takeKnownName_0 Z d τ12 0 (yI K fun v16 τ14 => C_X5_addTest_0 Z d τ14 l1 2 (v11 + (1 : Int32)) (if (0 : Int32) < v16 then v16 else (0 : Int32)) 0 (yI K fun v19 τ17 => K (.inl (some (.int v19))) τ17))))))))))) : C_X7_readComparison_29 Z (d + 1) σ l1 K := by
  unfold C_X7_readComparison_29
  refine ab_fin.s2 (i := .aload_n 0) (k := 1) (pc' := 30) (lv' := [(0, .ref 40), (1, .int l1)]) (st' := [.ref 40]) (by decide +kernel) rfl rfl ?_
  refine ab_fin.q_yI (i := .invokevirtual 41) (k := 3) (y := 1798) (As := [.ref 40]) (rest := []) (M' := (mX7_sign, [])) (lv2 := [(0, .ref 40)]) (pc' := 33) (X := K) (by decide +kernel) (ab_cv rfl rfl (conc_get (σ := σ) (F.s t0_40)) ⟨(Nat.le_of_ble_eq_true rfl), (Nat.le_of_ble_eq_true rfl)⟩ rfl) rfl (Nat.le_of_ble_eq_true rfl) rfl rfl (hY_no fun E => rfl) w (fun v3 τ1 F2 w => ?_)
  refine ab_fin.s1i (i := .iconst 2) (k := 1) (pc' := 34) (n := 2) (by decide +kernel) rfl (by decide +kernel) rfl ?_
  refine ab_fin.br (c := ¬ v3 = 2) (i := .if_icmp .ne 60) (off := 60) (t := 94) (pc' := 37) (r := []) (by decide +kernel) rfl (by decide +kernel) rfl (fun q => ?_) (fun q => ?_)
  · replace w := w.1 q
    exact ab_fin.lv ⟨(List.forall_mem_cons.mpr ⟨(List.Mem.head _), (List.forall_mem_cons.mpr ⟨(List.Mem.tail _ (List.Mem.head _)), (fun _ h => absurd h List.not_mem_nil)⟩)⟩), (show ([0, 1] : List Nat).Nodup from by decide)⟩ w
  · replace w := w.2 (Decidable.of_not_not q)
    refine ab_fin.s2 (i := .aload_n 0) (k := 1) (pc' := 38) (lv' := [(0, .ref 40), (1, .int l1)]) (st' := [.ref 40]) (by decide +kernel) rfl rfl ?_
    refine ab_fin.q_rA (b := 41) (ix := 12) (ci := 8) (k := 1) (pc' := 41) (by decide +kernel) rfl (c_rA (F2.s t0_40) rfl (rC_8_1 F2 t0_40)) rfl ?_
    obtain ⟨b4, e5, w⟩ := w
    refine ab_fin.q_rA (b := b4) (ix := 109) (ci := 9) (k := 0) (pc' := 44) (by decide +kernel) rfl (c_rA (F2.s t0_41) rfl e5) rfl ?_
    refine ab_fin.s2 (i := .aload_n 0) (k := 1) (pc' := 45) (lv' := [(0, .ref 40), (1, .int l1)]) (st' := [.ref 40, .ref b4]) (by decide +kernel) rfl rfl ?_
    refine ab_fin.q_rI (x := (τ1.i 40 3)) (ix := 97) (ci := 8) (k := 3) (pc' := 48) (by decide +kernel) rfl (c_rI (F2.s t0_40) rfl) rfl ?_
    refine ab_fin.s1i (i := .iconst 1) (k := 1) (pc' := 49) (n := 1) (by decide +kernel) rfl (by decide +kernel) rfl ?_
    refine ab_fin.s1 (i := .iadd) (k := 1) (pc' := 50) (st' := [.int ((τ1.i 40 3) + (1 : Int32)), .ref b4]) (by decide +kernel) rfl rfl ?_
    obtain ⟨n7, e6, w⟩ := w
    obtain ⟨e8, w⟩ := w
    refine ab_fin.q_eI (x := (τ1.i b4 (((τ1.i 40 3) + (1 : Int32)).toNatClampNeg))) (pc' := 51) (by decide +kernel) (c_eI' e6 e8 rfl) rfl ?_
    refine ab_fin.s1i (i := .bipush 33) (k := 2) (pc' := 53) (n := 33) (by decide +kernel) rfl (by decide +kernel) rfl ?_
    refine ab_fin.br (c := ¬ (τ1.i b4 (((τ1.i 40 3) + (1 : Int32)).toNatClampNeg)) = 33) (i := .if_icmp .ne 41) (off := 41) (t := 94) (pc' := 56) (r := []) (by decide +kernel) rfl (by decide +kernel) rfl (fun q => ?_) (fun q => ?_)
    · replace w := w.1 q
      exact ab_fin.lv ⟨(List.forall_mem_cons.mpr ⟨(List.Mem.head _), (List.forall_mem_cons.mpr ⟨(List.Mem.tail _ (List.Mem.head _)), (fun _ h => absurd h List.not_mem_nil)⟩)⟩), (show ([0, 1] : List Nat).Nodup from by decide)⟩ w
    · replace w := w.2 (Decidable.of_not_not q)
      refine ab_fin.s2 (i := .aload_n 0) (k := 1) (pc' := 57) (lv' := [(0, .ref 40), (1, .int l1)]) (st' := [.ref 40]) (by decide +kernel) rfl rfl ?_
      refine ab_fin.s1i (i := .iconst 3) (k := 1) (pc' := 58) (n := 3) (by decide +kernel) rfl (by decide +kernel) rfl ?_
      refine ab_fin.q_yI (i := .invokevirtual 151) (k := 3) (y := 1802) (As := [.ref 40, .int 3]) (rest := []) (M' := (mX7_takeKnownName, [])) (lv2 := [(0, .ref 40), (1, .int 3)]) (pc' := 61) (X := K) (by decide +kernel) (ab_cv rfl rfl (conc_get (σ := τ1) (F2.s t0_40)) ⟨(Nat.le_of_ble_eq_true rfl), (Nat.le_of_ble_eq_true rfl)⟩ rfl) rfl (Nat.le_of_ble_eq_true rfl) rfl rfl (hY_no fun E => rfl) w (fun v11 τ9 F10 w => ?_)
      refine ab_fin.s2 (i := .istore_n 2) (k := 1) (pc' := 62) (lv' := [(2, .int v11), (0, .ref 40), (1, .int l1)]) (st' := []) (by decide +kernel) rfl rfl ?_
      refine ab_fin.s2 (i := .aload_n 0) (k := 1) (pc' := 63) (lv' := [(2, .int v11), (0, .ref 40), (1, .int l1)]) (st' := [.ref 40]) (by decide +kernel) rfl rfl ?_
      refine ab_fin.s1i (i := .bipush 33) (k := 2) (pc' := 65) (n := 33) (by decide +kernel) rfl (by decide +kernel) rfl ?_
      refine ab_fin.q_yN (i := .invokevirtual 57) (k := 3) (y := 1799) (As := [.ref 40, .int 33]) (rest := []) (M' := (mX7_take, [])) (lv2 := [(0, .ref 40), (1, .int 33)]) (pc' := 68) (X := K) (by decide +kernel) (ab_cv rfl rfl (conc_get (σ := τ9) (F10.s t0_40)) ⟨(Nat.le_of_ble_eq_true rfl), (Nat.le_of_ble_eq_true rfl)⟩ rfl) rfl (Nat.le_of_ble_eq_true rfl) rfl rfl (hY_no fun E => rfl) w (fun τ12 F13 w => ?_)
      refine ab_fin.s2 (i := .aload_n 0) (k := 1) (pc' := 69) (lv' := [(2, .int v11), (0, .ref 40), (1, .int l1)]) (st' := [.ref 40]) (by decide +kernel) rfl rfl ?_
      refine ab_fin.q_rA (b := 1) (ix := 18) (ci := 8) (k := 0) (pc' := 72) (by decide +kernel) rfl (c_rA (F13.s t0_40) rfl (rC_8_0 F13 t0_40)) rfl ?_
      refine ab_fin.q_rA (b := 10) (ix := 179) (ci := 12) (k := 1) (pc' := 75) (by decide +kernel) rfl (c_rA (F13.s t0_1) rfl (rC_12_1 F13 t0_1)) rfl ?_
      refine ab_fin.s2 (i := .iload_n 1) (k := 1) (pc' := 76) (lv' := [(2, .int v11), (0, .ref 40), (1, .int l1)]) (st' := [.int l1, .ref 10]) (by decide +kernel) rfl rfl ?_
      refine ab_fin.s1i (i := .iconst 2) (k := 1) (pc' := 77) (n := 2) (by decide +kernel) rfl (by decide +kernel) rfl ?_
      refine ab_fin.s2 (i := .iload_n 2) (k := 1) (pc' := 78) (lv' := [(2, .int v11), (0, .ref 40), (1, .int l1)]) (st' := [.int v11, .int 2, .int l1, .ref 10]) (by decide +kernel) rfl rfl ?_
      refine ab_fin.s1i (i := .iconst 1) (k := 1) (pc' := 79) (n := 1) (by decide +kernel) rfl (by decide +kernel) rfl ?_
      refine ab_fin.s1 (i := .iadd) (k := 1) (pc' := 80) (st' := [.int (v11 + (1 : Int32)), .int 2, .int l1, .ref 10]) (by decide +kernel) rfl rfl ?_
      refine ab_fin.s1i (i := .iconst 0) (k := 1) (pc' := 81) (n := 0) (by decide +kernel) rfl (by decide +kernel) rfl ?_
      refine ab_fin.s2 (i := .aload_n 0) (k := 1) (pc' := 82) (lv' := [(2, .int v11), (0, .ref 40), (1, .int l1)]) (st' := [.ref 40, .int 0, .int (v11 + (1 : Int32)), .int 2, .int l1, .ref 10]) (by decide +kernel) rfl rfl ?_
      refine ab_fin.s1i (i := .iconst 0) (k := 1) (pc' := 83) (n := 0) (by decide +kernel) rfl (by decide +kernel) rfl ?_
      refine ab_fin.q_yI (i := .invokevirtual 151) (k := 3) (y := 1802) (As := [.ref 40, .int 0]) (rest := [.int 0, .int (v11 + (1 : Int32)), .int 2, .int l1, .ref 10]) (M' := (mX7_takeKnownName, [])) (lv2 := [(0, .ref 40), (1, .int 0)]) (pc' := 86) (X := K) (by decide +kernel) (ab_cv rfl rfl (conc_get (σ := τ12) (F13.s t0_40)) ⟨(Nat.le_of_ble_eq_true rfl), (Nat.le_of_ble_eq_true rfl)⟩ rfl) rfl (Nat.le_of_ble_eq_true rfl) rfl rfl (hY_no fun E => rfl) w (fun v16 τ14 F15 w => ?_)
      refine ab_fin.cpy (i := .invokestatic 243) (k := 3) (pc' := 89) (h1 := conc τ14) (st' := [.int (if (0 : Int32) < v16 then v16 else (0 : Int32)), .int (v11 + (1 : Int32)), .int 2, .int l1, .ref 10]) (by decide +kernel) rfl rfl ?_
      refine ab_fin.s1l (i := .lconst 0) (k := 1) (pc' := 90) (n := 0) (by decide +kernel) rfl (by decide +kernel) rfl ?_
      refine ab_fin.q_yI (i := .invokevirtual 249) (k := 3) (y := 1283) (As := [.ref 10, .int l1, .int 2, .int (v11 + (1 : Int32)), .int (if (0 : Int32) < v16 then v16 else (0 : Int32)), .long 0]) (rest := []) (M' := (mX5_addTest, [])) (lv2 := [(0, .ref 10), (1, .int l1), (2, .int 2), (3, .int (v11 + (1 : Int32))), (4, .int (if (0 : Int32) < v16 then v16 else (0 : Int32))), (5, .long 0)]) (pc' := 93) (X := K) (by decide +kernel) (ab_cv rfl rfl (conc_get (σ := τ14) (F15.s t0_10)) ⟨(Nat.le_of_ble_eq_true rfl), (Nat.le_of_ble_eq_true rfl)⟩ rfl) rfl (Nat.le_of_ble_eq_true rfl) rfl rfl (hY_no fun E => rfl) w (fun v19 τ17 F18 w => ?_)
      exact ab_fin.q_ret (i := .ireturn) (k := 1) (v := some (.int v19)) (by decide +kernel) rfl F18 w
theorem T_X7_readComparison_94 {Z : zT} {d : Nat} {σ : Sg} {l1 : Int32} {K : kS} (F : FX ΦC σ.sh σ.r) (w : C_X7_readTerm_0 Z d σ  (yN K fun τ1 => C_X7_sign_0 Z d τ1  (yI K fun v5 τ3 => (v5 = 15 → C_X7_readComparison_136 Z (d + 1) τ3 l1 (τ1.i 40 11) (τ1.l 40 12) v5 K) ∧ (¬ v5 = 15 → (v5 = 17 → C_X7_readComparison_136 Z (d + 1) τ3 l1 (τ1.i 40 11) (τ1.l 40 12) v5 K) ∧ (¬ v5 = 17 → (¬ v5 = 16 → C_X7_readComparison_142 Z (d + 1) τ3 l1 (τ1.i 40 11) (τ1.l 40 12) v5 (-1) K) ∧ (v5 = 16 → C_X7_readComparison_136 Z (d + 1) τ3 l1 (τ1.i 40 11) (τ1.l 40 12) v5 K)))))) : C_X7_readComparison_94 Z (d + 1) σ l1 K := by
  unfold C_X7_readComparison_94
  refine ab_fin.s2 (i := .aload_n 0) (k := 1) (pc' := 95) (lv' := [(0, .ref 40), (1, .int l1)]) (st' := [.ref 40]) (by decide +kernel) rfl rfl ?_
  refine ab_fin.q_yN (i := .invokevirtual 253) (k := 3) (y := 1813) (As := [.ref 40]) (rest := []) (M' := (mX7_readTerm, [])) (lv2 := [(0, .ref 40)]) (pc' := 98) (X := K) (by decide +kernel) (ab_cv rfl rfl (conc_get (σ := σ) (F.s t0_40)) ⟨(Nat.le_of_ble_eq_true rfl), (Nat.le_of_ble_eq_true rfl)⟩ rfl) rfl (Nat.le_of_ble_eq_true rfl) rfl rfl (hY_no fun E => rfl) w (fun τ1 F2 w => ?_)
  refine ab_fin.s2 (i := .aload_n 0) (k := 1) (pc' := 99) (lv' := [(0, .ref 40), (1, .int l1)]) (st' := [.ref 40]) (by decide +kernel) rfl rfl ?_
  refine ab_fin.q_rI (x := (τ1.i 40 11)) (ix := 256) (ci := 8) (k := 11) (pc' := 102) (by decide +kernel) rfl (c_rI (F2.s t0_40) rfl) rfl ?_
  refine ab_fin.s2 (i := .istore_n 2) (k := 1) (pc' := 103) (lv' := [(2, .int (τ1.i 40 11)), (0, .ref 40), (1, .int l1)]) (st' := []) (by decide +kernel) rfl rfl ?_
  refine ab_fin.s2 (i := .aload_n 0) (k := 1) (pc' := 104) (lv' := [(2, .int (τ1.i 40 11)), (0, .ref 40), (1, .int l1)]) (st' := [.ref 40]) (by decide +kernel) rfl rfl ?_
  refine ab_fin.q_rL (x := (τ1.l 40 12)) (ix := 259) (ci := 8) (k := 12) (pc' := 107) (by decide +kernel) rfl (c_rL (F2.s t0_40) rfl) rfl ?_
  refine ab_fin.s2 (i := .lstore_n 3) (k := 1) (pc' := 108) (lv' := [(3, .long (τ1.l 40 12)), (2, .int (τ1.i 40 11)), (0, .ref 40), (1, .int l1)]) (st' := []) (by decide +kernel) rfl rfl ?_
  refine ab_fin.s2 (i := .aload_n 0) (k := 1) (pc' := 109) (lv' := [(3, .long (τ1.l 40 12)), (2, .int (τ1.i 40 11)), (0, .ref 40), (1, .int l1)]) (st' := [.ref 40]) (by decide +kernel) rfl rfl ?_
  refine ab_fin.q_yI (i := .invokevirtual 41) (k := 3) (y := 1798) (As := [.ref 40]) (rest := []) (M' := (mX7_sign, [])) (lv2 := [(0, .ref 40)]) (pc' := 112) (X := K) (by decide +kernel) (ab_cv rfl rfl (conc_get (σ := τ1) (F2.s t0_40)) ⟨(Nat.le_of_ble_eq_true rfl), (Nat.le_of_ble_eq_true rfl)⟩ rfl) rfl (Nat.le_of_ble_eq_true rfl) rfl rfl (hY_no fun E => rfl) w (fun v5 τ3 F4 w => ?_)
  refine ab_fin.s2 (i := .istore 5) (k := 2) (pc' := 114) (lv' := [(5, .int v5), (3, .long (τ1.l 40 12)), (2, .int (τ1.i 40 11)), (0, .ref 40), (1, .int l1)]) (st' := []) (by decide +kernel) rfl rfl ?_
  refine ab_fin.s2 (i := .aload_n 0) (k := 1) (pc' := 115) (lv' := [(5, .int v5), (3, .long (τ1.l 40 12)), (2, .int (τ1.i 40 11)), (0, .ref 40), (1, .int l1)]) (st' := [.ref 40]) (by decide +kernel) rfl rfl ?_
  refine ab_fin.s2 (i := .iload 5) (k := 2) (pc' := 117) (lv' := [(5, .int v5), (3, .long (τ1.l 40 12)), (2, .int (τ1.i 40 11)), (0, .ref 40), (1, .int l1)]) (st' := [.int v5, .ref 40]) (by decide +kernel) rfl rfl ?_
  refine ab_fin.s1i (i := .bipush 15) (k := 2) (pc' := 119) (n := 15) (by decide +kernel) rfl (by decide +kernel) rfl ?_
  refine ab_fin.br (c := v5 = 15) (i := .if_icmp .eq 17) (off := 17) (t := 136) (pc' := 122) (r := [.ref 40]) (by decide +kernel) rfl (by decide +kernel) rfl (fun q => ?_) (fun q => ?_)
  · replace w := w.1 q
    exact ab_fin.lv ⟨(List.forall_mem_cons.mpr ⟨(List.Mem.tail _ (List.Mem.tail _ (List.Mem.tail _ (List.Mem.head _)))), (List.forall_mem_cons.mpr ⟨(List.Mem.tail _ (List.Mem.tail _ (List.Mem.tail _ (List.Mem.tail _ (List.Mem.head _))))), (List.forall_mem_cons.mpr ⟨(List.Mem.tail _ (List.Mem.tail _ (List.Mem.head _))), (List.forall_mem_cons.mpr ⟨(List.Mem.tail _ (List.Mem.head _)), (List.forall_mem_cons.mpr ⟨(List.Mem.head _), (fun _ h => absurd h List.not_mem_nil)⟩)⟩)⟩)⟩)⟩), (show ([5, 3, 2, 0, 1] : List Nat).Nodup from by decide)⟩ w
  · replace w := w.2 q
    refine ab_fin.s2 (i := .iload 5) (k := 2) (pc' := 124) (lv' := [(5, .int v5), (3, .long (τ1.l 40 12)), (2, .int (τ1.i 40 11)), (0, .ref 40), (1, .int l1)]) (st' := [.int v5, .ref 40]) (by decide +kernel) rfl rfl ?_
    refine ab_fin.s1i (i := .bipush 17) (k := 2) (pc' := 126) (n := 17) (by decide +kernel) rfl (by decide +kernel) rfl ?_
    refine ab_fin.br (c := v5 = 17) (i := .if_icmp .eq 10) (off := 10) (t := 136) (pc' := 129) (r := [.ref 40]) (by decide +kernel) rfl (by decide +kernel) rfl (fun q => ?_) (fun q => ?_)
    · replace w := w.1 q
      exact ab_fin.lv ⟨(List.forall_mem_cons.mpr ⟨(List.Mem.tail _ (List.Mem.tail _ (List.Mem.tail _ (List.Mem.head _)))), (List.forall_mem_cons.mpr ⟨(List.Mem.tail _ (List.Mem.tail _ (List.Mem.tail _ (List.Mem.tail _ (List.Mem.head _))))), (List.forall_mem_cons.mpr ⟨(List.Mem.tail _ (List.Mem.tail _ (List.Mem.head _))), (List.forall_mem_cons.mpr ⟨(List.Mem.tail _ (List.Mem.head _)), (List.forall_mem_cons.mpr ⟨(List.Mem.head _), (fun _ h => absurd h List.not_mem_nil)⟩)⟩)⟩)⟩)⟩), (show ([5, 3, 2, 0, 1] : List Nat).Nodup from by decide)⟩ w
    · replace w := w.2 q
      refine ab_fin.s2 (i := .iload 5) (k := 2) (pc' := 131) (lv' := [(5, .int v5), (3, .long (τ1.l 40 12)), (2, .int (τ1.i 40 11)), (0, .ref 40), (1, .int l1)]) (st' := [.int v5, .ref 40]) (by decide +kernel) rfl rfl ?_
      refine ab_fin.s1i (i := .bipush 16) (k := 2) (pc' := 133) (n := 16) (by decide +kernel) rfl (by decide +kernel) rfl ?_
      refine ab_fin.br (c := ¬ v5 = 16) (i := .if_icmp .ne 8) (off := 8) (t := 141) (pc' := 136) (r := [.ref 40]) (by decide +kernel) rfl (by decide +kernel) rfl (fun q => ?_) (fun q => ?_)
      · replace w := w.1 q
        refine ab_fin.s1i (i := .iconst (-1)) (k := 1) (pc' := 142) (n := (-1)) (by decide +kernel) rfl (by decide +kernel) rfl ?_
        exact ab_fin.lv ⟨(List.forall_mem_cons.mpr ⟨(List.Mem.tail _ (List.Mem.tail _ (List.Mem.tail _ (List.Mem.head _)))), (List.forall_mem_cons.mpr ⟨(List.Mem.tail _ (List.Mem.tail _ (List.Mem.tail _ (List.Mem.tail _ (List.Mem.head _))))), (List.forall_mem_cons.mpr ⟨(List.Mem.tail _ (List.Mem.tail _ (List.Mem.head _))), (List.forall_mem_cons.mpr ⟨(List.Mem.tail _ (List.Mem.head _)), (List.forall_mem_cons.mpr ⟨(List.Mem.head _), (fun _ h => absurd h List.not_mem_nil)⟩)⟩)⟩)⟩)⟩), (show ([5, 3, 2, 0, 1] : List Nat).Nodup from by decide)⟩ w
      · replace w := w.2 (Decidable.of_not_not q)
        exact ab_fin.lv ⟨(List.forall_mem_cons.mpr ⟨(List.Mem.tail _ (List.Mem.tail _ (List.Mem.tail _ (List.Mem.head _)))), (List.forall_mem_cons.mpr ⟨(List.Mem.tail _ (List.Mem.tail _ (List.Mem.tail _ (List.Mem.tail _ (List.Mem.head _))))), (List.forall_mem_cons.mpr ⟨(List.Mem.tail _ (List.Mem.tail _ (List.Mem.head _))), (List.forall_mem_cons.mpr ⟨(List.Mem.tail _ (List.Mem.head _)), (List.forall_mem_cons.mpr ⟨(List.Mem.head _), (fun _ h => absurd h List.not_mem_nil)⟩)⟩)⟩)⟩)⟩), (show ([5, 3, 2, 0, 1] : List Nat).Nodup from by decide)⟩ w
theorem T_X7_readComparison_136 {Z : zT} {d : Nat} {σ : Sg} {l1 : Int32} {l2 : Int32} {l3 : Int64} {l5 : Int32} {K : kS} (F : FX ΦC σ.sh σ.r) (w : C_X7_readComparison_142 Z (d + 1) σ l1 l2 l3 l5 l5 K) : C_X7_readComparison_136 Z (d + 1) σ l1 l2 l3 l5 K := by
  unfold C_X7_readComparison_136
  refine ab_fin.s2 (i := .iload 5) (k := 2) (pc' := 138) (lv' := [(0, .ref 40), (1, .int l1), (2, .int l2), (3, .long l3), (5, .int l5)]) (st' := [.int l5, .ref 40]) (by decide +kernel) rfl rfl ?_
  refine ab_fin.s3 (i := .goto 4) (k := 3) (t := 142) (st' := [.int l5, .ref 40]) (by decide +kernel) (ab_gto (by decide +kernel)) ?_
  exact ab_fin.lv ⟨(List.forall_mem_cons.mpr ⟨(List.Mem.head _), (List.forall_mem_cons.mpr ⟨(List.Mem.tail _ (List.Mem.head _)), (List.forall_mem_cons.mpr ⟨(List.Mem.tail _ (List.Mem.tail _ (List.Mem.head _))), (List.forall_mem_cons.mpr ⟨(List.Mem.tail _ (List.Mem.tail _ (List.Mem.tail _ (List.Mem.head _)))), (List.forall_mem_cons.mpr ⟨(List.Mem.tail _ (List.Mem.tail _ (List.Mem.tail _ (List.Mem.tail _ (List.Mem.head _))))), (fun _ h => absurd h List.not_mem_nil)⟩)⟩)⟩)⟩)⟩), (show ([0, 1, 2, 3, 5] : List Nat).Nodup from by decide)⟩ w
theorem T_X7_readComparison_142 {Z : zT} {d : Nat} {σ : Sg} {l1 : Int32} {l2 : Int32} {l3 : Int64} {l5 : Int32} {s1 : Int32} {K : kS} (F : FX ΦC σ.sh σ.r) (w : C_X7_take_0 Z d σ s1 (yN K fun τ1 => C_X7_readTerm_0 Z d τ1  (yN K fun τ3 => (¬ l5 = 15 → C_X7_readComparison_167 Z (d + 1) τ3 l1 l2 l5 ((τ3.l 40 12) - l3) 0 K) ∧ (l5 = 15 → C_X7_readComparison_167 Z (d + 1) τ3 l1 l2 l5 ((τ3.l 40 12) - l3) 1 K)))) : C_X7_readComparison_142 Z (d + 1) σ l1 l2 l3 l5 s1 K := by
  unfold C_X7_readComparison_142
  refine ab_fin.q_yN (i := .invokevirtual 57) (k := 3) (y := 1799) (As := [.ref 40, .int s1]) (rest := []) (M' := (mX7_take, [])) (lv2 := [(0, .ref 40), (1, .int s1)]) (pc' := 145) (X := K) (by decide +kernel) (ab_cv rfl rfl (conc_get (σ := σ) (F.s t0_40)) ⟨(Nat.le_of_ble_eq_true rfl), (Nat.le_of_ble_eq_true rfl)⟩ rfl) rfl (Nat.le_of_ble_eq_true rfl) rfl rfl (hY_no fun E => rfl) w (fun τ1 F2 w => ?_)
  refine ab_fin.s2 (i := .aload_n 0) (k := 1) (pc' := 146) (lv' := [(0, .ref 40), (1, .int l1), (2, .int l2), (3, .long l3), (5, .int l5)]) (st' := [.ref 40]) (by decide +kernel) rfl rfl ?_
  refine ab_fin.q_yN (i := .invokevirtual 253) (k := 3) (y := 1813) (As := [.ref 40]) (rest := []) (M' := (mX7_readTerm, [])) (lv2 := [(0, .ref 40)]) (pc' := 149) (X := K) (by decide +kernel) (ab_cv rfl rfl (conc_get (σ := τ1) (F2.s t0_40)) ⟨(Nat.le_of_ble_eq_true rfl), (Nat.le_of_ble_eq_true rfl)⟩ rfl) rfl (Nat.le_of_ble_eq_true rfl) rfl rfl (hY_no fun E => rfl) w (fun τ3 F4 w => ?_)
  refine ab_fin.s2 (i := .aload_n 0) (k := 1) (pc' := 150) (lv' := [(0, .ref 40), (1, .int l1), (2, .int l2), (3, .long l3), (5, .int l5)]) (st' := [.ref 40]) (by decide +kernel) rfl rfl ?_
  refine ab_fin.q_rL (x := (τ3.l 40 12)) (ix := 259) (ci := 8) (k := 12) (pc' := 153) (by decide +kernel) rfl (c_rL (F4.s t0_40) rfl) rfl ?_
  refine ab_fin.s2 (i := .lload_n 3) (k := 1) (pc' := 154) (lv' := [(0, .ref 40), (1, .int l1), (2, .int l2), (3, .long l3), (5, .int l5)]) (st' := [.long l3, .long (τ3.l 40 12)]) (by decide +kernel) rfl rfl ?_
  refine ab_fin.s1 (i := .lsub) (k := 1) (pc' := 155) (st' := [.long ((τ3.l 40 12) - l3)]) (by decide +kernel) rfl rfl ?_
  refine ab_fin.s2 (i := .iload 5) (k := 2) (pc' := 157) (lv' := [(0, .ref 40), (1, .int l1), (2, .int l2), (3, .long l3), (5, .int l5)]) (st' := [.int l5, .long ((τ3.l 40 12) - l3)]) (by decide +kernel) rfl rfl ?_
  refine ab_fin.s1i (i := .bipush 15) (k := 2) (pc' := 159) (n := 15) (by decide +kernel) rfl (by decide +kernel) rfl ?_
  refine ab_fin.br (c := ¬ l5 = 15) (i := .if_icmp .ne 7) (off := 7) (t := 166) (pc' := 162) (r := [.long ((τ3.l 40 12) - l3)]) (by decide +kernel) rfl (by decide +kernel) rfl (fun q => ?_) (fun q => ?_)
  · replace w := w.1 q
    refine ab_fin.s1i (i := .iconst 0) (k := 1) (pc' := 167) (n := 0) (by decide +kernel) rfl (by decide +kernel) rfl ?_
    exact ab_fin.lv ⟨(List.forall_mem_cons.mpr ⟨(List.Mem.head _), (List.forall_mem_cons.mpr ⟨(List.Mem.tail _ (List.Mem.head _)), (List.forall_mem_cons.mpr ⟨(List.Mem.tail _ (List.Mem.tail _ (List.Mem.head _))), (List.forall_mem_cons.mpr ⟨(List.Mem.tail _ (List.Mem.tail _ (List.Mem.tail _ (List.Mem.tail _ (List.Mem.head _))))), (fun _ h => absurd h List.not_mem_nil)⟩)⟩)⟩)⟩), (show ([0, 1, 2, 3, 5] : List Nat).Nodup from by decide)⟩ w
  · replace w := w.2 (Decidable.of_not_not q)
    refine ab_fin.s1i (i := .iconst 1) (k := 1) (pc' := 163) (n := 1) (by decide +kernel) rfl (by decide +kernel) rfl ?_
    refine ab_fin.s3 (i := .goto 4) (k := 3) (t := 167) (st' := [.int 1, .long ((τ3.l 40 12) - l3)]) (by decide +kernel) (ab_gto (by decide +kernel)) ?_
    exact ab_fin.lv ⟨(List.forall_mem_cons.mpr ⟨(List.Mem.head _), (List.forall_mem_cons.mpr ⟨(List.Mem.tail _ (List.Mem.head _)), (List.forall_mem_cons.mpr ⟨(List.Mem.tail _ (List.Mem.tail _ (List.Mem.head _))), (List.forall_mem_cons.mpr ⟨(List.Mem.tail _ (List.Mem.tail _ (List.Mem.tail _ (List.Mem.tail _ (List.Mem.head _))))), (fun _ h => absurd h List.not_mem_nil)⟩)⟩)⟩)⟩), (show ([0, 1, 2, 3, 5] : List Nat).Nodup from by decide)⟩ w
theorem T_X7_readComparison_167 {Z : zT} {d : Nat} {σ : Sg} {l1 : Int32} {l2 : Int32} {l5 : Int32} {s0 : Int64} {s1 : Int32} {K : kS} (F : FX ΦC σ.sh σ.r) (w : (¬ l5 = 16 → C_X5_addTest_0 Z d σ l1 0 l2 (σ.i 40 11) (s0 - ((Int32.toInt64 s1))) (yI K fun v3 τ1 => K (.inl (some (.int v3))) τ1)) ∧ (l5 = 16 → C_X5_addTest_0 Z d σ l1 1 l2 (σ.i 40 11) (s0 - ((Int32.toInt64 s1))) (yI K fun v6 τ4 => K (.inl (some (.int v6))) τ4))) : C_X7_readComparison_167 Z (d + 1) σ l1 l2 l5 s0 s1 K := by
  unfold C_X7_readComparison_167
  refine ab_fin.s1 (i := .i2l) (k := 1) (pc' := 168) (st' := [.long ((Int32.toInt64 s1)), .long s0]) (by decide +kernel) rfl rfl ?_
  refine ab_fin.s1 (i := .lsub) (k := 1) (pc' := 169) (st' := [.long (s0 - ((Int32.toInt64 s1)))]) (by decide +kernel) rfl rfl ?_
  refine ab_fin.s2 (i := .lstore 6) (k := 2) (pc' := 171) (lv' := [(6, .long (s0 - ((Int32.toInt64 s1)))), (0, .ref 40), (1, .int l1), (2, .int l2), (5, .int l5)]) (st' := []) (by decide +kernel) rfl rfl ?_
  refine ab_fin.s2 (i := .aload_n 0) (k := 1) (pc' := 172) (lv' := [(6, .long (s0 - ((Int32.toInt64 s1)))), (0, .ref 40), (1, .int l1), (2, .int l2), (5, .int l5)]) (st' := [.ref 40]) (by decide +kernel) rfl rfl ?_
  refine ab_fin.q_rA (b := 1) (ix := 18) (ci := 8) (k := 0) (pc' := 175) (by decide +kernel) rfl (c_rA (F.s t0_40) rfl (rC_8_0 F t0_40)) rfl ?_
  refine ab_fin.q_rA (b := 10) (ix := 179) (ci := 12) (k := 1) (pc' := 178) (by decide +kernel) rfl (c_rA (F.s t0_1) rfl (rC_12_1 F t0_1)) rfl ?_
  refine ab_fin.s2 (i := .iload_n 1) (k := 1) (pc' := 179) (lv' := [(6, .long (s0 - ((Int32.toInt64 s1)))), (0, .ref 40), (1, .int l1), (2, .int l2), (5, .int l5)]) (st' := [.int l1, .ref 10]) (by decide +kernel) rfl rfl ?_
  refine ab_fin.s2 (i := .iload 5) (k := 2) (pc' := 181) (lv' := [(6, .long (s0 - ((Int32.toInt64 s1)))), (0, .ref 40), (1, .int l1), (2, .int l2), (5, .int l5)]) (st' := [.int l5, .int l1, .ref 10]) (by decide +kernel) rfl rfl ?_
  refine ab_fin.s1i (i := .bipush 16) (k := 2) (pc' := 183) (n := 16) (by decide +kernel) rfl (by decide +kernel) rfl ?_
  refine ab_fin.br (c := ¬ l5 = 16) (i := .if_icmp .ne 7) (off := 7) (t := 190) (pc' := 186) (r := [.int l1, .ref 10]) (by decide +kernel) rfl (by decide +kernel) rfl (fun q => ?_) (fun q => ?_)
  · replace w := w.1 q
    refine ab_fin.s1i (i := .iconst 0) (k := 1) (pc' := 191) (n := 0) (by decide +kernel) rfl (by decide +kernel) rfl ?_
    refine ab_fin.s2 (i := .iload_n 2) (k := 1) (pc' := 192) (lv' := [(6, .long (s0 - ((Int32.toInt64 s1)))), (0, .ref 40), (1, .int l1), (2, .int l2), (5, .int l5)]) (st' := [.int l2, .int 0, .int l1, .ref 10]) (by decide +kernel) rfl rfl ?_
    refine ab_fin.s2 (i := .aload_n 0) (k := 1) (pc' := 193) (lv' := [(6, .long (s0 - ((Int32.toInt64 s1)))), (0, .ref 40), (1, .int l1), (2, .int l2), (5, .int l5)]) (st' := [.ref 40, .int l2, .int 0, .int l1, .ref 10]) (by decide +kernel) rfl rfl ?_
    refine ab_fin.q_rI (x := (σ.i 40 11)) (ix := 256) (ci := 8) (k := 11) (pc' := 196) (by decide +kernel) rfl (c_rI (F.s t0_40) rfl) rfl ?_
    refine ab_fin.s2 (i := .lload 6) (k := 2) (pc' := 198) (lv' := [(6, .long (s0 - ((Int32.toInt64 s1)))), (0, .ref 40), (1, .int l1), (2, .int l2), (5, .int l5)]) (st' := [.long (s0 - ((Int32.toInt64 s1))), .int (σ.i 40 11), .int l2, .int 0, .int l1, .ref 10]) (by decide +kernel) rfl rfl ?_
    refine ab_fin.q_yI (i := .invokevirtual 249) (k := 3) (y := 1283) (As := [.ref 10, .int l1, .int 0, .int l2, .int (σ.i 40 11), .long (s0 - ((Int32.toInt64 s1)))]) (rest := []) (M' := (mX5_addTest, [])) (lv2 := [(0, .ref 10), (1, .int l1), (2, .int 0), (3, .int l2), (4, .int (σ.i 40 11)), (5, .long (s0 - ((Int32.toInt64 s1))))]) (pc' := 201) (X := K) (by decide +kernel) (ab_cv rfl rfl (conc_get (σ := σ) (F.s t0_10)) ⟨(Nat.le_of_ble_eq_true rfl), (Nat.le_of_ble_eq_true rfl)⟩ rfl) rfl (Nat.le_of_ble_eq_true rfl) rfl rfl (hY_no fun E => rfl) w (fun v3 τ1 F2 w => ?_)
    exact ab_fin.q_ret (i := .ireturn) (k := 1) (v := some (.int v3)) (by decide +kernel) rfl F2 w
  · replace w := w.2 (Decidable.of_not_not q)
    refine ab_fin.s1i (i := .iconst 1) (k := 1) (pc' := 187) (n := 1) (by decide +kernel) rfl (by decide +kernel) rfl ?_
    refine ab_fin.s3 (i := .goto 4) (k := 3) (t := 191) (st' := [.int 1, .int l1, .ref 10]) (by decide +kernel) (ab_gto (by decide +kernel)) ?_
    refine ab_fin.s2 (i := .iload_n 2) (k := 1) (pc' := 192) (lv' := [(6, .long (s0 - ((Int32.toInt64 s1)))), (0, .ref 40), (1, .int l1), (2, .int l2), (5, .int l5)]) (st' := [.int l2, .int 1, .int l1, .ref 10]) (by decide +kernel) rfl rfl ?_
    refine ab_fin.s2 (i := .aload_n 0) (k := 1) (pc' := 193) (lv' := [(6, .long (s0 - ((Int32.toInt64 s1)))), (0, .ref 40), (1, .int l1), (2, .int l2), (5, .int l5)]) (st' := [.ref 40, .int l2, .int 1, .int l1, .ref 10]) (by decide +kernel) rfl rfl ?_
    refine ab_fin.q_rI (x := (σ.i 40 11)) (ix := 256) (ci := 8) (k := 11) (pc' := 196) (by decide +kernel) rfl (c_rI (F.s t0_40) rfl) rfl ?_
    refine ab_fin.s2 (i := .lload 6) (k := 2) (pc' := 198) (lv' := [(6, .long (s0 - ((Int32.toInt64 s1)))), (0, .ref 40), (1, .int l1), (2, .int l2), (5, .int l5)]) (st' := [.long (s0 - ((Int32.toInt64 s1))), .int (σ.i 40 11), .int l2, .int 1, .int l1, .ref 10]) (by decide +kernel) rfl rfl ?_
    refine ab_fin.q_yI (i := .invokevirtual 249) (k := 3) (y := 1283) (As := [.ref 10, .int l1, .int 1, .int l2, .int (σ.i 40 11), .long (s0 - ((Int32.toInt64 s1)))]) (rest := []) (M' := (mX5_addTest, [])) (lv2 := [(0, .ref 10), (1, .int l1), (2, .int 1), (3, .int l2), (4, .int (σ.i 40 11)), (5, .long (s0 - ((Int32.toInt64 s1))))]) (pc' := 201) (X := K) (by decide +kernel) (ab_cv rfl rfl (conc_get (σ := σ) (F.s t0_10)) ⟨(Nat.le_of_ble_eq_true rfl), (Nat.le_of_ble_eq_true rfl)⟩ rfl) rfl (Nat.le_of_ble_eq_true rfl) rfl rfl (hY_no fun E => rfl) w (fun v6 τ4 F5 w => ?_)
    exact ab_fin.q_ret (i := .ireturn) (k := 1) (v := some (.int v6)) (by decide +kernel) rfl F5 w

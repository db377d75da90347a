/-! THE CLASS, PIECE BY PIECE (printed by sgen.py), 1 -/
theorem T_X0_rowSize_0 {Z : zT} {d : Nat} {σ : Sg} {l1 : Int32} {l2 : Int32} {K : kS} (F : FX ΦC σ.sh σ.r) (w : ib ((l1 * (4 : Int32)) + l2) 104 ∧ (K (.inl (some (.int (σ.i 87 (((l1 * (4 : Int32)) + l2).toNatClampNeg))))) σ)) : C_X0_rowSize_0 Z (d + 1) σ l1 l2 K := by
  unfold C_X0_rowSize_0
  refine ab_fin.s2 (i := .aload_n 0) (k := 1) (pc' := 1) (lv' := [(0, .ref 84), (1, .int l1), (2, .int l2)]) (st' := [.ref 84]) (by decide +kernel) rfl rfl ?_
  refine ab_fin.q_rA (b := 87) (ix := 18) (ci := 1) (k := 7) (pc' := 4) (by decide +kernel) rfl (c_rA (F.s t0_84) rfl (rC_1_7 F t0_84)) rfl ?_
  refine ab_fin.s2 (i := .iload_n 1) (k := 1) (pc' := 5) (lv' := [(0, .ref 84), (1, .int l1), (2, .int l2)]) (st' := [.int l1, .ref 87]) (by decide +kernel) rfl rfl ?_
  refine ab_fin.s1i (i := .iconst 4) (k := 1) (pc' := 6) (n := 4) (by decide +kernel) rfl (by decide +kernel) rfl ?_
  refine ab_fin.s1 (i := .imul) (k := 1) (pc' := 7) (st' := [.int (l1 * (4 : Int32)), .ref 87]) (by decide +kernel) rfl rfl ?_
  refine ab_fin.s2 (i := .iload_n 2) (k := 1) (pc' := 8) (lv' := [(0, .ref 84), (1, .int l1), (2, .int l2)]) (st' := [.int l2, .int (l1 * (4 : Int32)), .ref 87]) (by decide +kernel) rfl rfl ?_
  refine ab_fin.s1 (i := .iadd) (k := 1) (pc' := 9) (st' := [.int ((l1 * (4 : Int32)) + l2), .ref 87]) (by decide +kernel) rfl rfl ?_
  obtain ⟨e1, w⟩ := w
  refine ab_fin.q_eI (x := (σ.i 87 (((l1 * (4 : Int32)) + l2).toNatClampNeg))) (pc' := 10) (by decide +kernel) (c_eI' (F.s t0_87) e1 rfl) rfl ?_
  exact ab_fin.q_ret (i := .ireturn) (k := 1) (v := some (.int (σ.i 87 (((l1 * (4 : Int32)) + l2).toNatClampNeg)))) (by decide +kernel) rfl F w
theorem T_X0_endsWithSeveral_0 {Z : zT} {d : Nat} {σ : Sg} {l1 : Int32} {l2 : Int32} {K : kS} (F : FX ΦC σ.sh σ.r) (w : ib ((l1 * (4 : Int32)) + l2) 104 ∧ (narrow .boolean (.int (σ.i 88 (((l1 * (4 : Int32)) + l2).toNatClampNeg))) = .int (σ.i 88 (((l1 * (4 : Int32)) + l2).toNatClampNeg)) ∧ K (.inl (some (.int (σ.i 88 (((l1 * (4 : Int32)) + l2).toNatClampNeg))))) σ)) : C_X0_endsWithSeveral_0 Z (d + 1) σ l1 l2 K := by
  unfold C_X0_endsWithSeveral_0
  refine ab_fin.s2 (i := .aload_n 0) (k := 1) (pc' := 1) (lv' := [(0, .ref 84), (1, .int l1), (2, .int l2)]) (st' := [.ref 84]) (by decide +kernel) rfl rfl ?_
  refine ab_fin.q_rA (b := 88) (ix := 21) (ci := 1) (k := 8) (pc' := 4) (by decide +kernel) rfl (c_rA (F.s t0_84) rfl (rC_1_8 F t0_84)) rfl ?_
  refine ab_fin.s2 (i := .iload_n 1) (k := 1) (pc' := 5) (lv' := [(0, .ref 84), (1, .int l1), (2, .int l2)]) (st' := [.int l1, .ref 88]) (by decide +kernel) rfl rfl ?_
  refine ab_fin.s1i (i := .iconst 4) (k := 1) (pc' := 6) (n := 4) (by decide +kernel) rfl (by decide +kernel) rfl ?_
  refine ab_fin.s1 (i := .imul) (k := 1) (pc' := 7) (st' := [.int (l1 * (4 : Int32)), .ref 88]) (by decide +kernel) rfl rfl ?_
  refine ab_fin.s2 (i := .iload_n 2) (k := 1) (pc' := 8) (lv' := [(0, .ref 84), (1, .int l1), (2, .int l2)]) (st' := [.int l2, .int (l1 * (4 : Int32)), .ref 88]) (by decide +kernel) rfl rfl ?_
  refine ab_fin.s1 (i := .iadd) (k := 1) (pc' := 9) (st' := [.int ((l1 * (4 : Int32)) + l2), .ref 88]) (by decide +kernel) rfl rfl ?_
  obtain ⟨e1, w⟩ := w
  refine ab_fin.q_eB (x := (σ.i 88 (((l1 * (4 : Int32)) + l2).toNatClampNeg))) (pc' := 10) (by decide +kernel) (c_eB3' (F.s t0_88) e1 rfl) rfl ?_
  exact ab_fin.q_rtN (ty := .boolean) (by decide +kernel) rfl w.1 F w.2
theorem T_X0_inRow_0 {Z : zT} {d : Nat} {σ : Sg} {l1 : Int32} {l2 : Int32} {l3 : Int32} {K : kS} (F : FX ΦC σ.sh σ.r) (w : ib ((l1 * (4 : Int32)) + l2) 104 ∧ (ib (((l1 * (128 : Int32)) + (σ.i 86 (((l1 * (4 : Int32)) + l2).toNatClampNeg))) + l3) 3328 ∧ (K (.inl (some (.int (σ.i 85 ((((l1 * (128 : Int32)) + (σ.i 86 (((l1 * (4 : Int32)) + l2).toNatClampNeg))) + l3).toNatClampNeg))))) σ))) : C_X0_inRow_0 Z (d + 1) σ l1 l2 l3 K := by
  unfold C_X0_inRow_0
  refine ab_fin.s2 (i := .aload_n 0) (k := 1) (pc' := 1) (lv' := [(0, .ref 84), (1, .int l1), (2, .int l2), (3, .int l3)]) (st' := [.ref 84]) (by decide +kernel) rfl rfl ?_
  refine ab_fin.q_rA (b := 85) (ix := 11) (ci := 1) (k := 5) (pc' := 4) (by decide +kernel) rfl (c_rA (F.s t0_84) rfl (rC_1_5 F t0_84)) rfl ?_
  refine ab_fin.s2 (i := .iload_n 1) (k := 1) (pc' := 5) (lv' := [(0, .ref 84), (1, .int l1), (2, .int l2), (3, .int l3)]) (st' := [.int l1, .ref 85]) (by decide +kernel) rfl rfl ?_
  refine ab_fin.s1i (i := .sipush 128) (k := 3) (pc' := 8) (n := 128) (by decide +kernel) rfl (by decide +kernel) rfl ?_
  refine ab_fin.s1 (i := .imul) (k := 1) (pc' := 9) (st' := [.int (l1 * (128 : Int32)), .ref 85]) (by decide +kernel) rfl rfl ?_
  refine ab_fin.s2 (i := .aload_n 0) (k := 1) (pc' := 10) (lv' := [(0, .ref 84), (1, .int l1), (2, .int l2), (3, .int l3)]) (st' := [.ref 84, .int (l1 * (128 : Int32)), .ref 85]) (by decide +kernel) rfl rfl ?_
  refine ab_fin.q_rA (b := 86) (ix := 15) (ci := 1) (k := 6) (pc' := 13) (by decide +kernel) rfl (c_rA (F.s t0_84) rfl (rC_1_6 F t0_84)) rfl ?_
  refine ab_fin.s2 (i := .iload_n 1) (k := 1) (pc' := 14) (lv' := [(0, .ref 84), (1, .int l1), (2, .int l2), (3, .int l3)]) (st' := [.int l1, .ref 86, .int (l1 * (128 : Int32)), .ref 85]) (by decide +kernel) rfl rfl ?_
  refine ab_fin.s1i (i := .iconst 4) (k := 1) (pc' := 15) (n := 4) (by decide +kernel) rfl (by decide +kernel) rfl ?_
  refine ab_fin.s1 (i := .imul) (k := 1) (pc' := 16) (st' := [.int (l1 * (4 : Int32)), .ref 86, .int (l1 * (128 : Int32)), .ref 85]) (by decide +kernel) rfl rfl ?_
  refine ab_fin.s2 (i := .iload_n 2) (k := 1) (pc' := 17) (lv' := [(0, .ref 84), (1, .int l1), (2, .int l2), (3, .int l3)]) (st' := [.int l2, .int (l1 * (4 : Int32)), .ref 86, .int (l1 * (128 : Int32)), .ref 85]) (by decide +kernel) rfl rfl ?_
  refine ab_fin.s1 (i := .iadd) (k := 1) (pc' := 18) (st' := [.int ((l1 * (4 : Int32)) + l2), .ref 86, .int (l1 * (128 : Int32)), .ref 85]) (by decide +kernel) rfl rfl ?_
  obtain ⟨e1, w⟩ := w
  refine ab_fin.q_eI (x := (σ.i 86 (((l1 * (4 : Int32)) + l2).toNatClampNeg))) (pc' := 19) (by decide +kernel) (c_eI' (F.s t0_86) e1 rfl) rfl ?_
  refine ab_fin.s1 (i := .iadd) (k := 1) (pc' := 20) (st' := [.int ((l1 * (128 : Int32)) + (σ.i 86 (((l1 * (4 : Int32)) + l2).toNatClampNeg))), .ref 85]) (by decide +kernel) rfl rfl ?_
  refine ab_fin.s2 (i := .iload_n 3) (k := 1) (pc' := 21) (lv' := [(0, .ref 84), (1, .int l1), (2, .int l2), (3, .int l3)]) (st' := [.int l3, .int ((l1 * (128 : Int32)) + (σ.i 86 (((l1 * (4 : Int32)) + l2).toNatClampNeg))), .ref 85]) (by decide +kernel) rfl rfl ?_
  refine ab_fin.s1 (i := .iadd) (k := 1) (pc' := 22) (st' := [.int (((l1 * (128 : Int32)) + (σ.i 86 (((l1 * (4 : Int32)) + l2).toNatClampNeg))) + l3), .ref 85]) (by decide +kernel) rfl rfl ?_
  obtain ⟨e2, w⟩ := w
  refine ab_fin.q_eI (x := (σ.i 85 ((((l1 * (128 : Int32)) + (σ.i 86 (((l1 * (4 : Int32)) + l2).toNatClampNeg))) + l3).toNatClampNeg))) (pc' := 23) (by decide +kernel) (c_eI' (F.s t0_85) e2 rfl) rfl ?_
  exact ab_fin.q_ret (i := .ireturn) (k := 1) (v := some (.int (σ.i 85 ((((l1 * (128 : Int32)) + (σ.i 86 (((l1 * (4 : Int32)) + l2).toNatClampNeg))) + l3).toNatClampNeg)))) (by decide +kernel) rfl F w
theorem T_X0_choose_0 {Z : zT} {d : Nat} {σ : Sg} {l1 : Int32} {l2 : Nat} {l3 : Int32} {l4 : Int64} {K : kS} (F : FX ΦC σ.sh σ.r) (w : C_X0_choose_3 Z (d + 1) σ l1 l2 l3 l4 0 K) : C_X0_choose_0 Z (d + 1) σ l1 l2 l3 l4 K := by
  unfold C_X0_choose_0
  refine ab_fin.s1i (i := .iconst 0) (k := 1) (pc' := 1) (n := 0) (by decide +kernel) rfl (by decide +kernel) rfl ?_
  refine ab_fin.s2 (i := .istore 6) (k := 2) (pc' := 3) (lv' := [(6, .int 0), (0, .ref 84), (1, .int l1), (2, .ref l2), (3, .int l3), (4, .long l4)]) (st' := []) (by decide +kernel) rfl rfl ?_
  exact ab_fin.lv ⟨(List.forall_mem_cons.mpr ⟨(List.Mem.tail _ (List.Mem.head _)), (List.forall_mem_cons.mpr ⟨(List.Mem.tail _ (List.Mem.tail _ (List.Mem.head _))), (List.forall_mem_cons.mpr ⟨(List.Mem.tail _ (List.Mem.tail _ (List.Mem.tail _ (List.Mem.head _)))), (List.forall_mem_cons.mpr ⟨(List.Mem.tail _ (List.Mem.tail _ (List.Mem.tail _ (List.Mem.tail _ (List.Mem.head _))))), (List.forall_mem_cons.mpr ⟨(List.Mem.tail _ (List.Mem.tail _ (List.Mem.tail _ (List.Mem.tail _ (List.Mem.tail _ (List.Mem.head _)))))), (List.forall_mem_cons.mpr ⟨(List.Mem.head _), (fun _ h => absurd h List.not_mem_nil)⟩)⟩)⟩)⟩)⟩)⟩), (show ([6, 0, 1, 2, 3, 4] : List Nat).Nodup from by decide)⟩ w
theorem T_X0_choose_3 {Z : zT} {d : Nat} {σ : Sg} {l1 : Int32} {l2 : Nat} {l3 : Int32} {l4 : Int64} {l6 : Int32} {K : kS} (F : FX ΦC σ.sh σ.r) (w : ib l1 24 ∧ (((σ.i 31 l1.toNatClampNeg) ≤ l6 → C_X3_looksFor_0 Z d σ l1 (σ.i 84 3) 89 (yI K fun v4 τ2 => C_X0_gatherApplying_0 Z d (τ2.wi 84 4 ((σ.i 84 4) + v4)) l1 l2 l4 (yI K fun v7 τ5 => (¬ v7 = 0 → C_X0_choose_81 Z (d + 1) τ5 l1 l3 l4 0 0 K) ∧ (v7 = 0 → K (.inl (some (.int 0))) τ5)))) ∧ (¬ (σ.i 31 l1.toNatClampNeg) ≤ l6 → ∃ n9, σ.sh[l2]? = some (Sh.arr 1 n9) ∧ (ib l6 n9 ∧ (C_X4_kindOf_0 Z d σ (σ.l l2 l6.toNatClampNeg) (yI K fun v13 τ11 => ib l6 3 ∧ (C_X0_choose_3 Z (d + 1) (τ11.wi 89 l6.toNatClampNeg v13) l1 l2 l3 l4 (l6 + 1) K))))))) : C_X0_choose_3 Z (d + 1) σ l1 l2 l3 l4 l6 K := by
  unfold C_X0_choose_3
  refine ab_fin.s2 (i := .iload 6) (k := 2) (pc' := 5) (lv' := [(0, .ref 84), (1, .int l1), (2, .ref l2), (3, .int l3), (4, .long l4), (6, .int l6)]) (st' := [.int l6]) (by decide +kernel) rfl rfl ?_
  refine ab_fin.s2 (i := .aload_n 0) (k := 1) (pc' := 6) (lv' := [(0, .ref 84), (1, .int l1), (2, .ref l2), (3, .int l3), (4, .long l4), (6, .int l6)]) (st' := [.ref 84, .int l6]) (by decide +kernel) rfl rfl ?_
  refine ab_fin.q_rA (b := 1) (ix := 37) (ci := 1) (k := 0) (pc' := 9) (by decide +kernel) rfl (c_rA (F.s t0_84) rfl (rC_1_0 F t0_84)) rfl ?_
  refine ab_fin.q_rA (b := 31) (ix := 49) (ci := 12) (k := 6) (pc' := 12) (by decide +kernel) rfl (c_rA (F.s t0_1) rfl (rC_12_6 F t0_1)) rfl ?_
  refine ab_fin.s2 (i := .iload_n 1) (k := 1) (pc' := 13) (lv' := [(0, .ref 84), (1, .int l1), (2, .ref l2), (3, .int l3), (4, .long l4), (6, .int l6)]) (st' := [.int l1, .ref 31, .int l6]) (by decide +kernel) rfl rfl ?_
  obtain ⟨e1, w⟩ := w
  refine ab_fin.q_eI (x := (σ.i 31 l1.toNatClampNeg)) (pc' := 14) (by decide +kernel) (c_eI' (F.s t0_31) e1 rfl) rfl ?_
  refine ab_fin.br (c := (σ.i 31 l1.toNatClampNeg) ≤ l6) (i := .if_icmp .ge 23) (off := 23) (t := 37) (pc' := 17) (r := []) (by decide +kernel) rfl (by decide +kernel) rfl (fun q => ?_) (fun q => ?_)
  · replace w := w.1 q
    refine ab_fin.s2 (i := .aload_n 0) (k := 1) (pc' := 38) (lv' := [(0, .ref 84), (1, .int l1), (2, .ref l2), (3, .int l3), (4, .long l4), (6, .int l6)]) (st' := [.ref 84]) (by decide +kernel) rfl rfl ?_
    refine ab_fin.s1 (i := .dup) (k := 1) (pc' := 39) (st' := [.ref 84, .ref 84]) (by decide +kernel) rfl rfl ?_
    refine ab_fin.q_rI (x := (σ.i 84 4)) (ix := 60) (ci := 1) (k := 4) (pc' := 42) (by decide +kernel) rfl (c_rI (F.s t0_84) rfl) rfl ?_
    refine ab_fin.s2 (i := .aload_n 0) (k := 1) (pc' := 43) (lv' := [(0, .ref 84), (1, .int l1), (2, .ref l2), (3, .int l3), (4, .long l4), (6, .int l6)]) (st' := [.ref 84, .int (σ.i 84 4), .ref 84]) (by decide +kernel) rfl rfl ?_
    refine ab_fin.q_rA (b := 56) (ix := 45) (ci := 1) (k := 2) (pc' := 46) (by decide +kernel) rfl (c_rA (F.s t0_84) rfl (rC_1_2 F t0_84)) rfl ?_
    refine ab_fin.s2 (i := .iload_n 1) (k := 1) (pc' := 47) (lv' := [(0, .ref 84), (1, .int l1), (2, .ref l2), (3, .int l3), (4, .long l4), (6, .int l6)]) (st' := [.int l1, .ref 56, .int (σ.i 84 4), .ref 84]) (by decide +kernel) rfl rfl ?_
    refine ab_fin.s2 (i := .aload_n 0) (k := 1) (pc' := 48) (lv' := [(0, .ref 84), (1, .int l1), (2, .ref l2), (3, .int l3), (4, .long l4), (6, .int l6)]) (st' := [.ref 84, .int l1, .ref 56, .int (σ.i 84 4), .ref 84]) (by decide +kernel) rfl rfl ?_
    refine ab_fin.q_rI (x := (σ.i 84 3)) (ix := 64) (ci := 1) (k := 3) (pc' := 51) (by decide +kernel) rfl (c_rI (F.s t0_84) rfl) rfl ?_
    refine ab_fin.s2 (i := .aload_n 0) (k := 1) (pc' := 52) (lv' := [(0, .ref 84), (1, .int l1), (2, .ref l2), (3, .int l3), (4, .long l4), (6, .int l6)]) (st' := [.ref 84, .int (σ.i 84 3), .int l1, .ref 56, .int (σ.i 84 4), .ref 84]) (by decide +kernel) rfl rfl ?_
    refine ab_fin.q_rA (b := 89) (ix := 25) (ci := 1) (k := 9) (pc' := 55) (by decide +kernel) rfl (c_rA (F.s t0_84) rfl (rC_1_9 F t0_84)) rfl ?_
    refine ab_fin.q_yI (i := .invokevirtual 67) (k := 3) (y := 773) (As := [.ref 56, .int l1, .int (σ.i 84 3), .ref 89]) (rest := [.int (σ.i 84 4), .ref 84]) (M' := (mX3_looksFor, [])) (lv2 := [(0, .ref 56), (1, .int l1), (2, .int (σ.i 84 3)), (3, .ref 89)]) (pc' := 58) (X := K) (by decide +kernel) (ab_cv rfl rfl (conc_get (σ := σ) (F.s t0_56)) ⟨(Nat.le_of_ble_eq_true rfl), (Nat.le_of_ble_eq_true rfl)⟩ rfl) rfl (Nat.le_of_ble_eq_true rfl) rfl rfl (hY_no fun E => rfl) w (fun v4 τ2 F3 w => ?_)
    refine ab_fin.s1 (i := .iadd) (k := 1) (pc' := 59) (st' := [.int ((σ.i 84 4) + v4), .ref 84]) (by decide +kernel) rfl rfl ?_
    refine ab_fin.q_pF (ix := 60) (ci := 1) (k := 4) (h1 := conc (τ2.wi 84 4 ((σ.i 84 4) + v4))) (pc' := 62) (by decide +kernel) rfl (c_pI (v := ((σ.i 84 4) + v4)) (F3.s t0_84) rfl) rfl rfl rfl ?_
    refine ab_fin.s2 (i := .aload_n 0) (k := 1) (pc' := 63) (lv' := [(0, .ref 84), (1, .int l1), (2, .ref l2), (3, .int l3), (4, .long l4), (6, .int l6)]) (st' := [.ref 84]) (by decide +kernel) rfl rfl ?_
    refine ab_fin.s2 (i := .iload_n 1) (k := 1) (pc' := 64) (lv' := [(0, .ref 84), (1, .int l1), (2, .ref l2), (3, .int l3), (4, .long l4), (6, .int l6)]) (st' := [.int l1, .ref 84]) (by decide +kernel) rfl rfl ?_
    refine ab_fin.s2 (i := .aload_n 2) (k := 1) (pc' := 65) (lv' := [(0, .ref 84), (1, .int l1), (2, .ref l2), (3, .int l3), (4, .long l4), (6, .int l6)]) (st' := [.ref l2, .int l1, .ref 84]) (by decide +kernel) rfl rfl ?_
    refine ab_fin.s2 (i := .lload 4) (k := 2) (pc' := 67) (lv' := [(0, .ref 84), (1, .int l1), (2, .ref l2), (3, .int l3), (4, .long l4), (6, .int l6)]) (st' := [.long l4, .ref l2, .int l1, .ref 84]) (by decide +kernel) rfl rfl ?_
    refine ab_fin.q_yI (i := .invokevirtual 73) (k := 3) (y := 5) (As := [.ref 84, .int l1, .ref l2, .long l4]) (rest := []) (M' := (mX0_gatherApplying, [])) (lv2 := [(0, .ref 84), (1, .int l1), (2, .ref l2), (3, .long l4)]) (pc' := 70) (X := K) (by decide +kernel) (ab_cv rfl rfl (conc_get (σ := (τ2.wi 84 4 ((σ.i 84 4) + v4))) (F3.s t0_84)) ⟨(Nat.le_of_ble_eq_true rfl), (Nat.le_of_ble_eq_true rfl)⟩ rfl) rfl (Nat.le_of_ble_eq_true rfl) rfl rfl (hY_no fun E => rfl) w (fun v7 τ5 F6 w => ?_)
    refine ab_fin.br (c := ¬ v7 = 0) (i := .ifCond .ne 5) (off := 5) (t := 75) (pc' := 73) (r := []) (by decide +kernel) rfl (by decide +kernel) rfl (fun q => ?_) (fun q => ?_)
    · replace w := w.1 q
      refine ab_fin.s1i (i := .iconst 0) (k := 1) (pc' := 76) (n := 0) (by decide +kernel) rfl (by decide +kernel) rfl ?_
      refine ab_fin.s2 (i := .istore 6) (k := 2) (pc' := 78) (lv' := [(6, .int 0), (0, .ref 84), (1, .int l1), (2, .ref l2), (3, .int l3), (4, .long l4)]) (st' := []) (by decide +kernel) rfl rfl ?_
      refine ab_fin.s1i (i := .iconst 0) (k := 1) (pc' := 79) (n := 0) (by decide +kernel) rfl (by decide +kernel) rfl ?_
      refine ab_fin.s2 (i := .istore 7) (k := 2) (pc' := 81) (lv' := [(7, .int 0), (6, .int 0), (0, .ref 84), (1, .int l1), (2, .ref l2), (3, .int l3), (4, .long l4)]) (st' := []) (by decide +kernel) rfl rfl ?_
      exact ab_fin.lv ⟨(List.forall_mem_cons.mpr ⟨(List.Mem.tail _ (List.Mem.tail _ (List.Mem.head _))), (List.forall_mem_cons.mpr ⟨(List.Mem.tail _ (List.Mem.tail _ (List.Mem.tail _ (List.Mem.head _)))), (List.forall_mem_cons.mpr ⟨(List.Mem.tail _ (List.Mem.tail _ (List.Mem.tail _ (List.Mem.tail _ (List.Mem.tail _ (List.Mem.head _)))))), (List.forall_mem_cons.mpr ⟨(List.Mem.tail _ (List.Mem.tail _ (List.Mem.tail _ (List.Mem.tail _ (List.Mem.tail _ (List.Mem.tail _ (List.Mem.head _))))))), (List.forall_mem_cons.mpr ⟨(List.Mem.tail _ (List.Mem.head _)), (List.forall_mem_cons.mpr ⟨(List.Mem.head _), (fun _ h => absurd h List.not_mem_nil)⟩)⟩)⟩)⟩)⟩)⟩), (show ([7, 6, 0, 1, 2, 3, 4] : List Nat).Nodup from by decide)⟩ w
    · replace w := w.2 (Decidable.of_not_not q)
      refine ab_fin.s1i (i := .iconst 0) (k := 1) (pc' := 74) (n := 0) (by decide +kernel) rfl (by decide +kernel) rfl ?_
      exact ab_fin.q_ret (i := .ireturn) (k := 1) (v := some (.int 0)) (by decide +kernel) rfl F6 w
  · replace w := w.2 q
    refine ab_fin.s2 (i := .aload_n 0) (k := 1) (pc' := 18) (lv' := [(0, .ref 84), (1, .int l1), (2, .ref l2), (3, .int l3), (4, .long l4), (6, .int l6)]) (st' := [.ref 84]) (by decide +kernel) rfl rfl ?_
    refine ab_fin.q_rA (b := 89) (ix := 25) (ci := 1) (k := 9) (pc' := 21) (by decide +kernel) rfl (c_rA (F.s t0_84) rfl (rC_1_9 F t0_84)) rfl ?_
    refine ab_fin.s2 (i := .iload 6) (k := 2) (pc' := 23) (lv' := [(0, .ref 84), (1, .int l1), (2, .ref l2), (3, .int l3), (4, .long l4), (6, .int l6)]) (st' := [.int l6, .ref 89]) (by decide +kernel) rfl rfl ?_
    refine ab_fin.s2 (i := .aload_n 2) (k := 1) (pc' := 24) (lv' := [(0, .ref 84), (1, .int l1), (2, .ref l2), (3, .int l3), (4, .long l4), (6, .int l6)]) (st' := [.ref l2, .int l6, .ref 89]) (by decide +kernel) rfl rfl ?_
    refine ab_fin.s2 (i := .iload 6) (k := 2) (pc' := 26) (lv' := [(0, .ref 84), (1, .int l1), (2, .ref l2), (3, .int l3), (4, .long l4), (6, .int l6)]) (st' := [.int l6, .ref l2, .int l6, .ref 89]) (by decide +kernel) rfl rfl ?_
    obtain ⟨n9, e8, w⟩ := w
    obtain ⟨e10, w⟩ := w
    refine ab_fin.q_eL (x := (σ.l l2 l6.toNatClampNeg)) (pc' := 27) (by decide +kernel) (c_eL' e8 e10 rfl) rfl ?_
    refine ab_fin.q_yI (i := .invokestatic 54) (k := 3) (y := 1025) (As := [.long (σ.l l2 l6.toNatClampNeg)]) (rest := [.int l6, .ref 89]) (M' := (mX4_kindOf, [])) (lv2 := [(0, .long (σ.l l2 l6.toNatClampNeg))]) (pc' := 30) (X := K) (by decide +kernel) (ab_cs rfl rfl ⟨(Nat.le_of_ble_eq_true rfl), (Nat.le_of_ble_eq_true rfl)⟩ rfl) rfl (Nat.le_of_ble_eq_true rfl) rfl rfl (hY_no fun E => rfl) w (fun v13 τ11 F12 w => ?_)
    obtain ⟨e14, w⟩ := w
    refine ab_fin.q_sI (h1 := conc (τ11.wi 89 l6.toNatClampNeg v13)) (pc' := 31) (by decide +kernel) (c_sI' (F12.s t0_89) e14 rfl) rfl ?_
    refine ab_fin.q_inc (n := 6) (c := 1) (pc' := 34) (lv' := [(6, .int (l6 + 1)), (0, .ref 84), (1, .int l1), (2, .ref l2), (3, .int l3), (4, .long l4)]) (by decide +kernel) (by decide) rfl rfl rfl rfl ?_
    refine ab_fin.s3 (i := .goto (-31)) (k := 3) (t := 3) (st' := []) (by decide +kernel) (ab_gto (by decide +kernel)) ?_
    exact ab_fin.lv ⟨(List.forall_mem_cons.mpr ⟨(List.Mem.tail _ (List.Mem.head _)), (List.forall_mem_cons.mpr ⟨(List.Mem.tail _ (List.Mem.tail _ (List.Mem.head _))), (List.forall_mem_cons.mpr ⟨(List.Mem.tail _ (List.Mem.tail _ (List.Mem.tail _ (List.Mem.head _)))), (List.forall_mem_cons.mpr ⟨(List.Mem.tail _ (List.Mem.tail _ (List.Mem.tail _ (List.Mem.tail _ (List.Mem.head _))))), (List.forall_mem_cons.mpr ⟨(List.Mem.tail _ (List.Mem.tail _ (List.Mem.tail _ (List.Mem.tail _ (List.Mem.tail _ (List.Mem.head _)))))), (List.forall_mem_cons.mpr ⟨(List.Mem.head _), (fun _ h => absurd h List.not_mem_nil)⟩)⟩)⟩)⟩)⟩)⟩), (show ([6, 0, 1, 2, 3, 4] : List Nat).Nodup from by decide)⟩ w
theorem T_X0_choose_81 {Z : zT} {d : Nat} {σ : Sg} {l1 : Int32} {l3 : Int32} {l4 : Int64} {l6 : Int32} {l7 : Int32} {K : kS} (F : FX ΦC σ.sh σ.r) (w : (4 ≤ l7 → K (.inl (some (.int 1))) σ) ∧ (¬ 4 ≤ l7 → ib ((l3 * (4 : Int32)) + l7) 104 ∧ (ib ((l3 * (4 : Int32)) + l7) 104 ∧ ((l7 = 1 → C_X0_choose_152 Z (d + 1) ((σ.wi 86 (((l3 * (4 : Int32)) + l7).toNatClampNeg) l6).wi 88 (((l3 * (4 : Int32)) + l7).toNatClampNeg) (vp_nar .boolean (0 : Int32))) l1 l3 l4 l6 l7 ((l3 * (4 : Int32)) + l7) 1 l4 1 0 K) ∧ (¬ l7 = 1 → (¬ l7 = 0 → C_X0_choose_152 Z (d + 1) ((σ.wi 86 (((l3 * (4 : Int32)) + l7).toNatClampNeg) l6).wi 88 (((l3 * (4 : Int32)) + l7).toNatClampNeg) (vp_nar .boolean (0 : Int32))) l1 l3 l4 l6 l7 ((l3 * (4 : Int32)) + l7) 0 l4 1 0 K) ∧ (l7 = 0 → ib l1 24 ∧ ((¬ (σ.i 32 l1.toNatClampNeg) = 0 → C_X0_choose_152 Z (d + 1) ((σ.wi 86 (((l3 * (4 : Int32)) + l7).toNatClampNeg) l6).wi 88 (((l3 * (4 : Int32)) + l7).toNatClampNeg) (vp_nar .boolean (0 : Int32))) l1 l3 l4 l6 l7 ((l3 * (4 : Int32)) + l7) 0 l4 1 0 K) ∧ ((σ.i 32 l1.toNatClampNeg) = 0 → C_X0_choose_152 Z (d + 1) ((σ.wi 86 (((l3 * (4 : Int32)) + l7).toNatClampNeg) l6).wi 88 (((l3 * (4 : Int32)) + l7).toNatClampNeg) (vp_nar .boolean (0 : Int32))) l1 l3 l4 l6 l7 ((l3 * (4 : Int32)) + l7) 1 l4 1 0 K)))))))) : C_X0_choose_81 Z (d + 1) σ l1 l3 l4 l6 l7 K := by
  unfold C_X0_choose_81
  refine ab_fin.s2 (i := .iload 7) (k := 2) (pc' := 83) (lv' := [(0, .ref 84), (1, .int l1), (3, .int l3), (4, .long l4), (6, .int l6), (7, .int l7)]) (st' := [.int l7]) (by decide +kernel) rfl rfl ?_
  refine ab_fin.s1i (i := .iconst 4) (k := 1) (pc' := 84) (n := 4) (by decide +kernel) rfl (by decide +kernel) rfl ?_
  refine ab_fin.br (c := 4 ≤ l7) (i := .if_icmp .ge 202) (off := 202) (t := 286) (pc' := 87) (r := []) (by decide +kernel) rfl (by decide +kernel) rfl (fun q => ?_) (fun q => ?_)
  · replace w := w.1 q
    refine ab_fin.s1i (i := .iconst 1) (k := 1) (pc' := 287) (n := 1) (by decide +kernel) rfl (by decide +kernel) rfl ?_
    exact ab_fin.q_ret (i := .ireturn) (k := 1) (v := some (.int 1)) (by decide +kernel) rfl F w
  · replace w := w.2 q
    refine ab_fin.s2 (i := .iload_n 3) (k := 1) (pc' := 88) (lv' := [(0, .ref 84), (1, .int l1), (3, .int l3), (4, .long l4), (6, .int l6), (7, .int l7)]) (st' := [.int l3]) (by decide +kernel) rfl rfl ?_
    refine ab_fin.s1i (i := .iconst 4) (k := 1) (pc' := 89) (n := 4) (by decide +kernel) rfl (by decide +kernel) rfl ?_
    refine ab_fin.s1 (i := .imul) (k := 1) (pc' := 90) (st' := [.int (l3 * (4 : Int32))]) (by decide +kernel) rfl rfl ?_
    refine ab_fin.s2 (i := .iload 7) (k := 2) (pc' := 92) (lv' := [(0, .ref 84), (1, .int l1), (3, .int l3), (4, .long l4), (6, .int l6), (7, .int l7)]) (st' := [.int l7, .int (l3 * (4 : Int32))]) (by decide +kernel) rfl rfl ?_
    refine ab_fin.s1 (i := .iadd) (k := 1) (pc' := 93) (st' := [.int ((l3 * (4 : Int32)) + l7)]) (by decide +kernel) rfl rfl ?_
    refine ab_fin.s2 (i := .istore 8) (k := 2) (pc' := 95) (lv' := [(8, .int ((l3 * (4 : Int32)) + l7)), (0, .ref 84), (1, .int l1), (3, .int l3), (4, .long l4), (6, .int l6), (7, .int l7)]) (st' := []) (by decide +kernel) rfl rfl ?_
    refine ab_fin.s2 (i := .aload_n 0) (k := 1) (pc' := 96) (lv' := [(8, .int ((l3 * (4 : Int32)) + l7)), (0, .ref 84), (1, .int l1), (3, .int l3), (4, .long l4), (6, .int l6), (7, .int l7)]) (st' := [.ref 84]) (by decide +kernel) rfl rfl ?_
    refine ab_fin.q_rA (b := 86) (ix := 15) (ci := 1) (k := 6) (pc' := 99) (by decide +kernel) rfl (c_rA (F.s t0_84) rfl (rC_1_6 F t0_84)) rfl ?_
    refine ab_fin.s2 (i := .iload 8) (k := 2) (pc' := 101) (lv' := [(8, .int ((l3 * (4 : Int32)) + l7)), (0, .ref 84), (1, .int l1), (3, .int l3), (4, .long l4), (6, .int l6), (7, .int l7)]) (st' := [.int ((l3 * (4 : Int32)) + l7), .ref 86]) (by decide +kernel) rfl rfl ?_
    refine ab_fin.s2 (i := .iload 6) (k := 2) (pc' := 103) (lv' := [(8, .int ((l3 * (4 : Int32)) + l7)), (0, .ref 84), (1, .int l1), (3, .int l3), (4, .long l4), (6, .int l6), (7, .int l7)]) (st' := [.int l6, .int ((l3 * (4 : Int32)) + l7), .ref 86]) (by decide +kernel) rfl rfl ?_
    obtain ⟨e1, w⟩ := w
    refine ab_fin.q_sI (h1 := conc (σ.wi 86 (((l3 * (4 : Int32)) + l7).toNatClampNeg) l6)) (pc' := 104) (by decide +kernel) (c_sI' (F.s t0_86) e1 rfl) rfl ?_
    refine ab_fin.s2 (i := .aload_n 0) (k := 1) (pc' := 105) (lv' := [(8, .int ((l3 * (4 : Int32)) + l7)), (0, .ref 84), (1, .int l1), (3, .int l3), (4, .long l4), (6, .int l6), (7, .int l7)]) (st' := [.ref 84]) (by decide +kernel) rfl rfl ?_
    refine ab_fin.q_rA (b := 88) (ix := 21) (ci := 1) (k := 8) (pc' := 108) (by decide +kernel) rfl (c_rA (F.s t0_84) rfl (rC_1_8 F t0_84)) rfl ?_
    refine ab_fin.s2 (i := .iload 8) (k := 2) (pc' := 110) (lv' := [(8, .int ((l3 * (4 : Int32)) + l7)), (0, .ref 84), (1, .int l1), (3, .int l3), (4, .long l4), (6, .int l6), (7, .int l7)]) (st' := [.int ((l3 * (4 : Int32)) + l7), .ref 88]) (by decide +kernel) rfl rfl ?_
    refine ab_fin.s1i (i := .iconst 0) (k := 1) (pc' := 111) (n := 0) (by decide +kernel) rfl (by decide +kernel) rfl ?_
    obtain ⟨e2, w⟩ := w
    refine ab_fin.q_sB (h1 := conc ((σ.wi 86 (((l3 * (4 : Int32)) + l7).toNatClampNeg) l6).wi 88 (((l3 * (4 : Int32)) + l7).toNatClampNeg) (vp_nar .boolean (0 : Int32)))) (pc' := 112) (by decide +kernel) (c_sB3' (F.s t0_88) e2 rfl) rfl ?_
    refine ab_fin.s2 (i := .iload 7) (k := 2) (pc' := 114) (lv' := [(8, .int ((l3 * (4 : Int32)) + l7)), (0, .ref 84), (1, .int l1), (3, .int l3), (4, .long l4), (6, .int l6), (7, .int l7)]) (st' := [.int l7]) (by decide +kernel) rfl rfl ?_
    refine ab_fin.s1i (i := .iconst 1) (k := 1) (pc' := 115) (n := 1) (by decide +kernel) rfl (by decide +kernel) rfl ?_
    refine ab_fin.br (c := l7 = 1) (i := .if_icmp .eq 20) (off := 20) (t := 135) (pc' := 118) (r := []) (by decide +kernel) rfl (by decide +kernel) rfl (fun q => ?_) (fun q => ?_)
    · replace w := w.1 q
      refine ab_fin.s1i (i := .iconst 1) (k := 1) (pc' := 136) (n := 1) (by decide +kernel) rfl (by decide +kernel) rfl ?_
      refine ab_fin.s3 (i := .goto 4) (k := 3) (t := 140) (st' := [.int 1]) (by decide +kernel) (ab_gto (by decide +kernel)) ?_
      refine ab_fin.s2 (i := .istore 9) (k := 2) (pc' := 142) (lv' := [(9, .int 1), (8, .int ((l3 * (4 : Int32)) + l7)), (0, .ref 84), (1, .int l1), (3, .int l3), (4, .long l4), (6, .int l6), (7, .int l7)]) (st' := []) (by decide +kernel) rfl rfl ?_
      refine ab_fin.s2 (i := .lload 4) (k := 2) (pc' := 144) (lv' := [(9, .int 1), (8, .int ((l3 * (4 : Int32)) + l7)), (0, .ref 84), (1, .int l1), (3, .int l3), (4, .long l4), (6, .int l6), (7, .int l7)]) (st' := [.long l4]) (by decide +kernel) rfl rfl ?_
      refine ab_fin.s2 (i := .lstore 10) (k := 2) (pc' := 146) (lv' := [(10, .long l4), (9, .int 1), (8, .int ((l3 * (4 : Int32)) + l7)), (0, .ref 84), (1, .int l1), (3, .int l3), (4, .long l4), (6, .int l6), (7, .int l7)]) (st' := []) (by decide +kernel) rfl rfl ?_
      refine ab_fin.s1i (i := .iconst 1) (k := 1) (pc' := 147) (n := 1) (by decide +kernel) rfl (by decide +kernel) rfl ?_
      refine ab_fin.s2 (i := .istore 12) (k := 2) (pc' := 149) (lv' := [(12, .int 1), (10, .long l4), (9, .int 1), (8, .int ((l3 * (4 : Int32)) + l7)), (0, .ref 84), (1, .int l1), (3, .int l3), (4, .long l4), (6, .int l6), (7, .int l7)]) (st' := []) (by decide +kernel) rfl rfl ?_
      refine ab_fin.s1i (i := .iconst 0) (k := 1) (pc' := 150) (n := 0) (by decide +kernel) rfl (by decide +kernel) rfl ?_
      refine ab_fin.s2 (i := .istore 13) (k := 2) (pc' := 152) (lv' := [(13, .int 0), (12, .int 1), (10, .long l4), (9, .int 1), (8, .int ((l3 * (4 : Int32)) + l7)), (0, .ref 84), (1, .int l1), (3, .int l3), (4, .long l4), (6, .int l6), (7, .int l7)]) (st' := []) (by decide +kernel) rfl rfl ?_
      exact ab_fin.lv ⟨(List.forall_mem_cons.mpr ⟨(List.Mem.tail _ (List.Mem.tail _ (List.Mem.tail _ (List.Mem.tail _ (List.Mem.tail _ (List.Mem.head _)))))), (List.forall_mem_cons.mpr ⟨(List.Mem.tail _ (List.Mem.tail _ (List.Mem.tail _ (List.Mem.tail _ (List.Mem.tail _ (List.Mem.tail _ (List.Mem.head _))))))), (List.forall_mem_cons.mpr ⟨(List.Mem.tail _ (List.Mem.tail _ (List.Mem.tail _ (List.Mem.tail _ (List.Mem.tail _ (List.Mem.tail _ (List.Mem.tail _ (List.Mem.head _)))))))), (List.forall_mem_cons.mpr ⟨(List.Mem.tail _ (List.Mem.tail _ (List.Mem.tail _ (List.Mem.tail _ (List.Mem.tail _ (List.Mem.tail _ (List.Mem.tail _ (List.Mem.tail _ (List.Mem.head _))))))))), (List.forall_mem_cons.mpr ⟨(List.Mem.tail _ (List.Mem.tail _ (List.Mem.tail _ (List.Mem.tail _ (List.Mem.tail _ (List.Mem.tail _ (List.Mem.tail _ (List.Mem.tail _ (List.Mem.tail _ (List.Mem.head _)))))))))), (List.forall_mem_cons.mpr ⟨(List.Mem.tail _ (List.Mem.tail _ (List.Mem.tail _ (List.Mem.tail _ (List.Mem.tail _ (List.Mem.tail _ (List.Mem.tail _ (List.Mem.tail _ (List.Mem.tail _ (List.Mem.tail _ (List.Mem.head _))))))))))), (List.forall_mem_cons.mpr ⟨(List.Mem.tail _ (List.Mem.tail _ (List.Mem.tail _ (List.Mem.tail _ (List.Mem.head _))))), (List.forall_mem_cons.mpr ⟨(List.Mem.tail _ (List.Mem.tail _ (List.Mem.tail _ (List.Mem.head _)))), (List.forall_mem_cons.mpr ⟨(List.Mem.tail _ (List.Mem.tail _ (List.Mem.head _))), (List.forall_mem_cons.mpr ⟨(List.Mem.tail _ (List.Mem.head _)), (List.forall_mem_cons.mpr ⟨(List.Mem.head _), (fun _ h => absurd h List.not_mem_nil)⟩)⟩)⟩)⟩)⟩)⟩)⟩)⟩)⟩)⟩)⟩), (show ([13, 12, 10, 9, 8, 0, 1, 3, 4, 6, 7] : List Nat).Nodup from by decide)⟩ w
    · replace w := w.2 q
      refine ab_fin.s2 (i := .iload 7) (k := 2) (pc' := 120) (lv' := [(8, .int ((l3 * (4 : Int32)) + l7)), (0, .ref 84), (1, .int l1), (3, .int l3), (4, .long l4), (6, .int l6), (7, .int l7)]) (st' := [.int l7]) (by decide +kernel) rfl rfl ?_
      refine ab_fin.br (c := ¬ l7 = 0) (i := .ifCond .ne 19) (off := 19) (t := 139) (pc' := 123) (r := []) (by decide +kernel) rfl (by decide +kernel) rfl (fun q => ?_) (fun q => ?_)
      · replace w := w.1 q
        refine ab_fin.s1i (i := .iconst 0) (k := 1) (pc' := 140) (n := 0) (by decide +kernel) rfl (by decide +kernel) rfl ?_
        refine ab_fin.s2 (i := .istore 9) (k := 2) (pc' := 142) (lv' := [(9, .int 0), (8, .int ((l3 * (4 : Int32)) + l7)), (0, .ref 84), (1, .int l1), (3, .int l3), (4, .long l4), (6, .int l6), (7, .int l7)]) (st' := []) (by decide +kernel) rfl rfl ?_
        refine ab_fin.s2 (i := .lload 4) (k := 2) (pc' := 144) (lv' := [(9, .int 0), (8, .int ((l3 * (4 : Int32)) + l7)), (0, .ref 84), (1, .int l1), (3, .int l3), (4, .long l4), (6, .int l6), (7, .int l7)]) (st' := [.long l4]) (by decide +kernel) rfl rfl ?_
        refine ab_fin.s2 (i := .lstore 10) (k := 2) (pc' := 146) (lv' := [(10, .long l4), (9, .int 0), (8, .int ((l3 * (4 : Int32)) + l7)), (0, .ref 84), (1, .int l1), (3, .int l3), (4, .long l4), (6, .int l6), (7, .int l7)]) (st' := []) (by decide +kernel) rfl rfl ?_
        refine ab_fin.s1i (i := .iconst 1) (k := 1) (pc' := 147) (n := 1) (by decide +kernel) rfl (by decide +kernel) rfl ?_
        refine ab_fin.s2 (i := .istore 12) (k := 2) (pc' := 149) (lv' := [(12, .int 1), (10, .long l4), (9, .int 0), (8, .int ((l3 * (4 : Int32)) + l7)), (0, .ref 84), (1, .int l1), (3, .int l3), (4, .long l4), (6, .int l6), (7, .int l7)]) (st' := []) (by decide +kernel) rfl rfl ?_
        refine ab_fin.s1i (i := .iconst 0) (k := 1) (pc' := 150) (n := 0) (by decide +kernel) rfl (by decide +kernel) rfl ?_
        refine ab_fin.s2 (i := .istore 13) (k := 2) (pc' := 152) (lv' := [(13, .int 0), (12, .int 1), (10, .long l4), (9, .int 0), (8, .int ((l3 * (4 : Int32)) + l7)), (0, .ref 84), (1, .int l1), (3, .int l3), (4, .long l4), (6, .int l6), (7, .int l7)]) (st' := []) (by decide +kernel) rfl rfl ?_
        exact ab_fin.lv ⟨(List.forall_mem_cons.mpr ⟨(List.Mem.tail _ (List.Mem.tail _ (List.Mem.tail _ (List.Mem.tail _ (List.Mem.tail _ (List.Mem.head _)))))), (List.forall_mem_cons.mpr ⟨(List.Mem.tail _ (List.Mem.tail _ (List.Mem.tail _ (List.Mem.tail _ (List.Mem.tail _ (List.Mem.tail _ (List.Mem.head _))))))), (List.forall_mem_cons.mpr ⟨(List.Mem.tail _ (List.Mem.tail _ (List.Mem.tail _ (List.Mem.tail _ (List.Mem.tail _ (List.Mem.tail _ (List.Mem.tail _ (List.Mem.head _)))))))), (List.forall_mem_cons.mpr ⟨(List.Mem.tail _ (List.Mem.tail _ (List.Mem.tail _ (List.Mem.tail _ (List.Mem.tail _ (List.Mem.tail _ (List.Mem.tail _ (List.Mem.tail _ (List.Mem.head _))))))))), (List.forall_mem_cons.mpr ⟨(List.Mem.tail _ (List.Mem.tail _ (List.Mem.tail _ (List.Mem.tail _ (List.Mem.tail _ (List.Mem.tail _ (List.Mem.tail _ (List.Mem.tail _ (List.Mem.tail _ (List.Mem.head _)))))))))), (List.forall_mem_cons.mpr ⟨(List.Mem.tail _ (List.Mem.tail _ (List.Mem.tail _ (List.Mem.tail _ (List.Mem.tail _ (List.Mem.tail _ (List.Mem.tail _ (List.Mem.tail _ (List.Mem.tail _ (List.Mem.tail _ (List.Mem.head _))))))))))), (List.forall_mem_cons.mpr ⟨(List.Mem.tail _ (List.Mem.tail _ (List.Mem.tail _ (List.Mem.tail _ (List.Mem.head _))))), (List.forall_mem_cons.mpr ⟨(List.Mem.tail _ (List.Mem.tail _ (List.Mem.tail _ (List.Mem.head _)))), (List.forall_mem_cons.mpr ⟨(List.Mem.tail _ (List.Mem.tail _ (List.Mem.head _))), (List.forall_mem_cons.mpr ⟨(List.Mem.tail _ (List.Mem.head _)), (List.forall_mem_cons.mpr ⟨(List.Mem.head _), (fun _ h => absurd h List.not_mem_nil)⟩)⟩)⟩)⟩)⟩)⟩)⟩)⟩)⟩)⟩)⟩), (show ([13, 12, 10, 9, 8, 0, 1, 3, 4, 6, 7] : List Nat).Nodup from by decide)⟩ w
      · replace w := w.2 (Decidable.of_not_not q)
        refine ab_fin.s2 (i := .aload_n 0) (k := 1) (pc' := 124) (lv' := [(8, .int ((l3 * (4 : Int32)) + l7)), (0, .ref 84), (1, .int l1), (3, .int l3), (4, .long l4), (6, .int l6), (7, .int l7)]) (st' := [.ref 84]) (by decide +kernel) rfl rfl ?_
        refine ab_fin.q_rA (b := 1) (ix := 37) (ci := 1) (k := 0) (pc' := 127) (by decide +kernel) rfl (c_rA (F.s t0_84) rfl (rC_1_0 F t0_84)) rfl ?_
        refine ab_fin.q_rA (b := 32) (ix := 77) (ci := 12) (k := 7) (pc' := 130) (by decide +kernel) rfl (c_rA (F.s t0_1) rfl (rC_12_7 F t0_1)) rfl ?_
        refine ab_fin.s2 (i := .iload_n 1) (k := 1) (pc' := 131) (lv' := [(8, .int ((l3 * (4 : Int32)) + l7)), (0, .ref 84), (1, .int l1), (3, .int l3), (4, .long l4), (6, .int l6), (7, .int l7)]) (st' := [.int l1, .ref 32]) (by decide +kernel) rfl rfl ?_
        obtain ⟨e3, w⟩ := w
        refine ab_fin.q_eI (x := (σ.i 32 l1.toNatClampNeg)) (pc' := 132) (by decide +kernel) (c_eI' (F.s t0_32) e3 rfl) rfl ?_
        refine ab_fin.br (c := ¬ (σ.i 32 l1.toNatClampNeg) = 0) (i := .ifCond .ne 7) (off := 7) (t := 139) (pc' := 135) (r := []) (by decide +kernel) rfl (by decide +kernel) rfl (fun q => ?_) (fun q => ?_)
        · replace w := w.1 q
          refine ab_fin.s1i (i := .iconst 0) (k := 1) (pc' := 140) (n := 0) (by decide +kernel) rfl (by decide +kernel) rfl ?_
          refine ab_fin.s2 (i := .istore 9) (k := 2) (pc' := 142) (lv' := [(9, .int 0), (8, .int ((l3 * (4 : Int32)) + l7)), (0, .ref 84), (1, .int l1), (3, .int l3), (4, .long l4), (6, .int l6), (7, .int l7)]) (st' := []) (by decide +kernel) rfl rfl ?_
          refine ab_fin.s2 (i := .lload 4) (k := 2) (pc' := 144) (lv' := [(9, .int 0), (8, .int ((l3 * (4 : Int32)) + l7)), (0, .ref 84), (1, .int l1), (3, .int l3), (4, .long l4), (6, .int l6), (7, .int l7)]) (st' := [.long l4]) (by decide +kernel) rfl rfl ?_
          refine ab_fin.s2 (i := .lstore 10) (k := 2) (pc' := 146) (lv' := [(10, .long l4), (9, .int 0), (8, .int ((l3 * (4 : Int32)) + l7)), (0, .ref 84), (1, .int l1), (3, .int l3), (4, .long l4), (6, .int l6), (7, .int l7)]) (st' := []) (by decide +kernel) rfl rfl ?_
          refine ab_fin.s1i (i := .iconst 1) (k := 1) (pc' := 147) (n := 1) (by decide +kernel) rfl (by decide +kernel) rfl ?_
          refine ab_fin.s2 (i := .istore 12) (k := 2) (pc' := 149) (lv' := [(12, .int 1), (10, .long l4), (9, .int 0), (8, .int ((l3 * (4 : Int32)) + l7)), (0, .ref 84), (1, .int l1), (3, .int l3), (4, .long l4), (6, .int l6), (7, .int l7)]) (st' := []) (by decide +kernel) rfl rfl ?_
          refine ab_fin.s1i (i := .iconst 0) (k := 1) (pc' := 150) (n := 0) (by decide +kernel) rfl (by decide +kernel) rfl ?_
          refine ab_fin.s2 (i := .istore 13) (k := 2) (pc' := 152) (lv' := [(13, .int 0), (12, .int 1), (10, .long l4), (9, .int 0), (8, .int ((l3 * (4 : Int32)) + l7)), (0, .ref 84), (1, .int l1), (3, .int l3), (4, .long l4), (6, .int l6), (7, .int l7)]) (st' := []) (by decide +kernel) rfl rfl ?_
          exact ab_fin.lv ⟨(List.forall_mem_cons.mpr ⟨(List.Mem.tail _ (List.Mem.tail _ (List.Mem.tail _ (List.Mem.tail _ (List.Mem.tail _ (List.Mem.head _)))))), (List.forall_mem_cons.mpr ⟨(List.Mem.tail _ (List.Mem.tail _ (List.Mem.tail _ (List.Mem.tail _ (List.Mem.tail _ (List.Mem.tail _ (List.Mem.head _))))))), (List.forall_mem_cons.mpr ⟨(List.Mem.tail _ (List.Mem.tail _ (List.Mem.tail _ (List.Mem.tail _ (List.Mem.tail _ (List.Mem.tail _ (List.Mem.tail _ (List.Mem.head _)))))))), (List.forall_mem_cons.mpr ⟨(List.Mem.tail _ (List.Mem.tail _ (List.Mem.tail _ (List.Mem.tail _ (List.Mem.tail _ (List.Mem.tail _ (List.Mem.tail _ (List.Mem.tail _ (List.Mem.head _))))))))), (List.forall_mem_cons.mpr ⟨(List.Mem.tail _ (List.Mem.tail _ (List.Mem.tail _ (List.Mem.tail _ (List.Mem.tail _ (List.Mem.tail _ (List.Mem.tail _ (List.Mem.tail _ (List.Mem.tail _ (List.Mem.head _)))))))))), (List.forall_mem_cons.mpr ⟨(List.Mem.tail _ (List.Mem.tail _ (List.Mem.tail _ (List.Mem.tail _ (List.Mem.tail _ (List.Mem.tail _ (List.Mem.tail _ (List.Mem.tail _ (List.Mem.tail _ (List.Mem.tail _ (List.Mem.head _))))))))))), (List.forall_mem_cons.mpr ⟨(List.Mem.tail _ (List.Mem.tail _ (List.Mem.tail _ (List.Mem.tail _ (List.Mem.head _))))), (List.forall_mem_cons.mpr ⟨(List.Mem.tail _ (List.Mem.tail _ (List.Mem.tail _ (List.Mem.head _)))), (List.forall_mem_cons.mpr ⟨(List.Mem.tail _ (List.Mem.tail _ (List.Mem.head _))), (List.forall_mem_cons.mpr ⟨(List.Mem.tail _ (List.Mem.head _)), (List.forall_mem_cons.mpr ⟨(List.Mem.head _), (fun _ h => absurd h List.not_mem_nil)⟩)⟩)⟩)⟩)⟩)⟩)⟩)⟩)⟩)⟩)⟩), (show ([13, 12, 10, 9, 8, 0, 1, 3, 4, 6, 7] : List Nat).Nodup from by decide)⟩ w
        · replace w := w.2 (Decidable.of_not_not q)
          refine ab_fin.s1i (i := .iconst 1) (k := 1) (pc' := 136) (n := 1) (by decide +kernel) rfl (by decide +kernel) rfl ?_
          refine ab_fin.s3 (i := .goto 4) (k := 3) (t := 140) (st' := [.int 1]) (by decide +kernel) (ab_gto (by decide +kernel)) ?_
          refine ab_fin.s2 (i := .istore 9) (k := 2) (pc' := 142) (lv' := [(9, .int 1), (8, .int ((l3 * (4 : Int32)) + l7)), (0, .ref 84), (1, .int l1), (3, .int l3), (4, .long l4), (6, .int l6), (7, .int l7)]) (st' := []) (by decide +kernel) rfl rfl ?_
          refine ab_fin.s2 (i := .lload 4) (k := 2) (pc' := 144) (lv' := [(9, .int 1), (8, .int ((l3 * (4 : Int32)) + l7)), (0, .ref 84), (1, .int l1), (3, .int l3), (4, .long l4), (6, .int l6), (7, .int l7)]) (st' := [.long l4]) (by decide +kernel) rfl rfl ?_
          refine ab_fin.s2 (i := .lstore 10) (k := 2) (pc' := 146) (lv' := [(10, .long l4), (9, .int 1), (8, .int ((l3 * (4 : Int32)) + l7)), (0, .ref 84), (1, .int l1), (3, .int l3), (4, .long l4), (6, .int l6), (7, .int l7)]) (st' := []) (by decide +kernel) rfl rfl ?_
          refine ab_fin.s1i (i := .iconst 1) (k := 1) (pc' := 147) (n := 1) (by decide +kernel) rfl (by decide +kernel) rfl ?_
          refine ab_fin.s2 (i := .istore 12) (k := 2) (pc' := 149) (lv' := [(12, .int 1), (10, .long l4), (9, .int 1), (8, .int ((l3 * (4 : Int32)) + l7)), (0, .ref 84), (1, .int l1), (3, .int l3), (4, .long l4), (6, .int l6), (7, .int l7)]) (st' := []) (by decide +kernel) rfl rfl ?_
          refine ab_fin.s1i (i := .iconst 0) (k := 1) (pc' := 150) (n := 0) (by decide +kernel) rfl (by decide +kernel) rfl ?_
          refine ab_fin.s2 (i := .istore 13) (k := 2) (pc' := 152) (lv' := [(13, .int 0), (12, .int 1), (10, .long l4), (9, .int 1), (8, .int ((l3 * (4 : Int32)) + l7)), (0, .ref 84), (1, .int l1), (3, .int l3), (4, .long l4), (6, .int l6), (7, .int l7)]) (st' := []) (by decide +kernel) rfl rfl ?_
          exact ab_fin.lv ⟨(List.forall_mem_cons.mpr ⟨(List.Mem.tail _ (List.Mem.tail _ (List.Mem.tail _ (List.Mem.tail _ (List.Mem.tail _ (List.Mem.head _)))))), (List.forall_mem_cons.mpr ⟨(List.Mem.tail _ (List.Mem.tail _ (List.Mem.tail _ (List.Mem.tail _ (List.Mem.tail _ (List.Mem.tail _ (List.Mem.head _))))))), (List.forall_mem_cons.mpr ⟨(List.Mem.tail _ (List.Mem.tail _ (List.Mem.tail _ (List.Mem.tail _ (List.Mem.tail _ (List.Mem.tail _ (List.Mem.tail _ (List.Mem.head _)))))))), (List.forall_mem_cons.mpr ⟨(List.Mem.tail _ (List.Mem.tail _ (List.Mem.tail _ (List.Mem.tail _ (List.Mem.tail _ (List.Mem.tail _ (List.Mem.tail _ (List.Mem.tail _ (List.Mem.head _))))))))), (List.forall_mem_cons.mpr ⟨(List.Mem.tail _ (List.Mem.tail _ (List.Mem.tail _ (List.Mem.tail _ (List.Mem.tail _ (List.Mem.tail _ (List.Mem.tail _ (List.Mem.tail _ (List.Mem.tail _ (List.Mem.head _)))))))))), (List.forall_mem_cons.mpr ⟨(List.Mem.tail _ (List.Mem.tail _ (List.Mem.tail _ (List.Mem.tail _ (List.Mem.tail _ (List.Mem.tail _ (List.Mem.tail _ (List.Mem.tail _ (List.Mem.tail _ (List.Mem.tail _ (List.Mem.head _))))))))))), (List.forall_mem_cons.mpr ⟨(List.Mem.tail _ (List.Mem.tail _ (List.Mem.tail _ (List.Mem.tail _ (List.Mem.head _))))), (List.forall_mem_cons.mpr ⟨(List.Mem.tail _ (List.Mem.tail _ (List.Mem.tail _ (List.Mem.head _)))), (List.forall_mem_cons.mpr ⟨(List.Mem.tail _ (List.Mem.tail _ (List.Mem.head _))), (List.forall_mem_cons.mpr ⟨(List.Mem.tail _ (List.Mem.head _)), (List.forall_mem_cons.mpr ⟨(List.Mem.head _), (fun _ h => absurd h List.not_mem_nil)⟩)⟩)⟩)⟩)⟩)⟩)⟩)⟩)⟩)⟩)⟩), (show ([13, 12, 10, 9, 8, 0, 1, 3, 4, 6, 7] : List Nat).Nodup from by decide)⟩ w
theorem T_X0_choose_152 {Z : zT} {d : Nat} {σ : Sg} {l1 : Int32} {l3 : Int32} {l4 : Int64} {l6 : Int32} {l7 : Int32} {l8 : Int32} {l9 : Int32} {l10 : Int64} {l12 : Int32} {l13 : Int32} {K : kS} (F : FX ΦC σ.sh σ.r) (w : (8 < l13 → C_X0_choose_263 Z (d + 1) σ l1 l3 l4 l6 l7 l8 K) ∧ (¬ 8 < l13 → (l12 = 0 → C_X0_choose_263 Z (d + 1) σ l1 l3 l4 l6 l7 l8 K) ∧ (¬ l12 = 0 → C_X0_gatherGroup_0 Z d σ l7 (((Int64.toInt32 (l10 &&& (15 : Int64)))) - (1 : Int32)) (yI K fun v3 τ1 => C_X0_layGroup_0 Z d τ1 v3 l9 ((l3 * (128 : Int32)) + l6) (yI K fun v6 τ4 => (v3 ≤ v6 → C_X0_choose_228 Z (d + 1) τ4 l1 l3 l4 (l6 + v6) l7 l8 l9 l10 l13 (((Int64.toInt32 (l10 &&& (15 : Int64)))) - (1 : Int32)) l8 0 K) ∧ (¬ v3 ≤ v6 → C_X0_choose_228 Z (d + 1) τ4 l1 l3 l4 (l6 + v6) l7 l8 l9 l10 l13 (((Int64.toInt32 (l10 &&& (15 : Int64)))) - (1 : Int32)) l8 1 K)))))) : C_X0_choose_152 Z (d + 1) σ l1 l3 l4 l6 l7 l8 l9 l10 l12 l13 K := by
  unfold C_X0_choose_152
  refine ab_fin.s2 (i := .iload 13) (k := 2) (pc' := 154) (lv' := [(0, .ref 84), (1, .int l1), (3, .int l3), (4, .long l4), (6, .int l6), (7, .int l7), (8, .int l8), (9, .int l9), (10, .long l10), (12, .int l12), (13, .int l13)]) (st' := [.int l13]) (by decide +kernel) rfl rfl ?_
  refine ab_fin.s1i (i := .bipush 8) (k := 2) (pc' := 156) (n := 8) (by decide +kernel) rfl (by decide +kernel) rfl ?_
  refine ab_fin.br (c := 8 < l13) (i := .if_icmp .gt 107) (off := 107) (t := 263) (pc' := 159) (r := []) (by decide +kernel) rfl (by decide +kernel) rfl (fun q => ?_) (fun q => ?_)
  · replace w := w.1 q
    exact ab_fin.lv ⟨(List.forall_mem_cons.mpr ⟨(List.Mem.head _), (List.forall_mem_cons.mpr ⟨(List.Mem.tail _ (List.Mem.head _)), (List.forall_mem_cons.mpr ⟨(List.Mem.tail _ (List.Mem.tail _ (List.Mem.head _))), (List.forall_mem_cons.mpr ⟨(List.Mem.tail _ (List.Mem.tail _ (List.Mem.tail _ (List.Mem.head _)))), (List.forall_mem_cons.mpr ⟨(List.Mem.tail _ (List.Mem.tail _ (List.Mem.tail _ (List.Mem.tail _ (List.Mem.head _))))), (List.forall_mem_cons.mpr ⟨(List.Mem.tail _ (List.Mem.tail _ (List.Mem.tail _ (List.Mem.tail _ (List.Mem.tail _ (List.Mem.head _)))))), (List.forall_mem_cons.mpr ⟨(List.Mem.tail _ (List.Mem.tail _ (List.Mem.tail _ (List.Mem.tail _ (List.Mem.tail _ (List.Mem.tail _ (List.Mem.head _))))))), (fun _ h => absurd h List.not_mem_nil)⟩)⟩)⟩)⟩)⟩)⟩)⟩), (show ([0, 1, 3, 4, 6, 7, 8, 9, 10, 12, 13] : List Nat).Nodup from by decide)⟩ w
  · replace w := w.2 q
    refine ab_fin.s2 (i := .iload 12) (k := 2) (pc' := 161) (lv' := [(0, .ref 84), (1, .int l1), (3, .int l3), (4, .long l4), (6, .int l6), (7, .int l7), (8, .int l8), (9, .int l9), (10, .long l10), (12, .int l12), (13, .int l13)]) (st' := [.int l12]) (by decide +kernel) rfl rfl ?_
    refine ab_fin.br (c := l12 = 0) (i := .ifCond .eq 102) (off := 102) (t := 263) (pc' := 164) (r := []) (by decide +kernel) rfl (by decide +kernel) rfl (fun q => ?_) (fun q => ?_)
    · replace w := w.1 q
      exact ab_fin.lv ⟨(List.forall_mem_cons.mpr ⟨(List.Mem.head _), (List.forall_mem_cons.mpr ⟨(List.Mem.tail _ (List.Mem.head _)), (List.forall_mem_cons.mpr ⟨(List.Mem.tail _ (List.Mem.tail _ (List.Mem.head _))), (List.forall_mem_cons.mpr ⟨(List.Mem.tail _ (List.Mem.tail _ (List.Mem.tail _ (List.Mem.head _)))), (List.forall_mem_cons.mpr ⟨(List.Mem.tail _ (List.Mem.tail _ (List.Mem.tail _ (List.Mem.tail _ (List.Mem.head _))))), (List.forall_mem_cons.mpr ⟨(List.Mem.tail _ (List.Mem.tail _ (List.Mem.tail _ (List.Mem.tail _ (List.Mem.tail _ (List.Mem.head _)))))), (List.forall_mem_cons.mpr ⟨(List.Mem.tail _ (List.Mem.tail _ (List.Mem.tail _ (List.Mem.tail _ (List.Mem.tail _ (List.Mem.tail _ (List.Mem.head _))))))), (fun _ h => absurd h List.not_mem_nil)⟩)⟩)⟩)⟩)⟩)⟩)⟩), (show ([0, 1, 3, 4, 6, 7, 8, 9, 10, 12, 13] : List Nat).Nodup from by decide)⟩ w
    · replace w := w.2 q
      refine ab_fin.s2 (i := .lload 10) (k := 2) (pc' := 166) (lv' := [(0, .ref 84), (1, .int l1), (3, .int l3), (4, .long l4), (6, .int l6), (7, .int l7), (8, .int l8), (9, .int l9), (10, .long l10), (12, .int l12), (13, .int l13)]) (st' := [.long l10]) (by decide +kernel) rfl rfl ?_
      refine ab_fin.s7 (i := .ldc2_w 80) (k := 3) (pc' := 169) (st' := [.long 15, .long l10]) (by decide +kernel) rfl rfl ?_
      refine ab_fin.s1 (i := .land) (k := 1) (pc' := 170) (st' := [.long (l10 &&& (15 : Int64))]) (by decide +kernel) rfl rfl ?_
      refine ab_fin.s1 (i := .l2i) (k := 1) (pc' := 171) (st' := [.int ((Int64.toInt32 (l10 &&& (15 : Int64))))]) (by decide +kernel) rfl rfl ?_
      refine ab_fin.s1i (i := .iconst 1) (k := 1) (pc' := 172) (n := 1) (by decide +kernel) rfl (by decide +kernel) rfl ?_
      refine ab_fin.s1 (i := .isub) (k := 1) (pc' := 173) (st' := [.int (((Int64.toInt32 (l10 &&& (15 : Int64)))) - (1 : Int32))]) (by decide +kernel) rfl rfl ?_
      refine ab_fin.s2 (i := .istore 14) (k := 2) (pc' := 175) (lv' := [(14, .int (((Int64.toInt32 (l10 &&& (15 : Int64)))) - (1 : Int32))), (0, .ref 84), (1, .int l1), (3, .int l3), (4, .long l4), (6, .int l6), (7, .int l7), (8, .int l8), (9, .int l9), (10, .long l10), (12, .int l12), (13, .int l13)]) (st' := []) (by decide +kernel) rfl rfl ?_
      refine ab_fin.s2 (i := .aload_n 0) (k := 1) (pc' := 176) (lv' := [(14, .int (((Int64.toInt32 (l10 &&& (15 : Int64)))) - (1 : Int32))), (0, .ref 84), (1, .int l1), (3, .int l3), (4, .long l4), (6, .int l6), (7, .int l7), (8, .int l8), (9, .int l9), (10, .long l10), (12, .int l12), (13, .int l13)]) (st' := [.ref 84]) (by decide +kernel) rfl rfl ?_
      refine ab_fin.s2 (i := .iload 7) (k := 2) (pc' := 178) (lv' := [(14, .int (((Int64.toInt32 (l10 &&& (15 : Int64)))) - (1 : Int32))), (0, .ref 84), (1, .int l1), (3, .int l3), (4, .long l4), (6, .int l6), (7, .int l7), (8, .int l8), (9, .int l9), (10, .long l10), (12, .int l12), (13, .int l13)]) (st' := [.int l7, .ref 84]) (by decide +kernel) rfl rfl ?_
      refine ab_fin.s2 (i := .iload 14) (k := 2) (pc' := 180) (lv' := [(14, .int (((Int64.toInt32 (l10 &&& (15 : Int64)))) - (1 : Int32))), (0, .ref 84), (1, .int l1), (3, .int l3), (4, .long l4), (6, .int l6), (7, .int l7), (8, .int l8), (9, .int l9), (10, .long l10), (12, .int l12), (13, .int l13)]) (st' := [.int (((Int64.toInt32 (l10 &&& (15 : Int64)))) - (1 : Int32)), .int l7, .ref 84]) (by decide +kernel) rfl rfl ?_
      refine ab_fin.q_yI (i := .invokevirtual 82) (k := 3) (y := 9) (As := [.ref 84, .int l7, .int (((Int64.toInt32 (l10 &&& (15 : Int64)))) - (1 : Int32))]) (rest := []) (M' := (mX0_gatherGroup, [])) (lv2 := [(0, .ref 84), (1, .int l7), (2, .int (((Int64.toInt32 (l10 &&& (15 : Int64)))) - (1 : Int32)))]) (pc' := 183) (X := K) (by decide +kernel) (ab_cv rfl rfl (conc_get (σ := σ) (F.s t0_84)) ⟨(Nat.le_of_ble_eq_true rfl), (Nat.le_of_ble_eq_true rfl)⟩ rfl) rfl (Nat.le_of_ble_eq_true rfl) rfl rfl (hY_no fun E => rfl) w (fun v3 τ1 F2 w => ?_)
      refine ab_fin.s2 (i := .istore 15) (k := 2) (pc' := 185) (lv' := [(15, .int v3), (14, .int (((Int64.toInt32 (l10 &&& (15 : Int64)))) - (1 : Int32))), (0, .ref 84), (1, .int l1), (3, .int l3), (4, .long l4), (6, .int l6), (7, .int l7), (8, .int l8), (9, .int l9), (10, .long l10), (12, .int l12), (13, .int l13)]) (st' := []) (by decide +kernel) rfl rfl ?_
      refine ab_fin.s2 (i := .aload_n 0) (k := 1) (pc' := 186) (lv' := [(15, .int v3), (14, .int (((Int64.toInt32 (l10 &&& (15 : Int64)))) - (1 : Int32))), (0, .ref 84), (1, .int l1), (3, .int l3), (4, .long l4), (6, .int l6), (7, .int l7), (8, .int l8), (9, .int l9), (10, .long l10), (12, .int l12), (13, .int l13)]) (st' := [.ref 84]) (by decide +kernel) rfl rfl ?_
      refine ab_fin.s2 (i := .iload 15) (k := 2) (pc' := 188) (lv' := [(15, .int v3), (14, .int (((Int64.toInt32 (l10 &&& (15 : Int64)))) - (1 : Int32))), (0, .ref 84), (1, .int l1), (3, .int l3), (4, .long l4), (6, .int l6), (7, .int l7), (8, .int l8), (9, .int l9), (10, .long l10), (12, .int l12), (13, .int l13)]) (st' := [.int v3, .ref 84]) (by decide +kernel) rfl rfl ?_
      refine ab_fin.s2 (i := .iload 9) (k := 2) (pc' := 190) (lv' := [(15, .int v3), (14, .int (((Int64.toInt32 (l10 &&& (15 : Int64)))) - (1 : Int32))), (0, .ref 84), (1, .int l1), (3, .int l3), (4, .long l4), (6, .int l6), (7, .int l7), (8, .int l8), (9, .int l9), (10, .long l10), (12, .int l12), (13, .int l13)]) (st' := [.int l9, .int v3, .ref 84]) (by decide +kernel) rfl rfl ?_
      refine ab_fin.s2 (i := .iload_n 3) (k := 1) (pc' := 191) (lv' := [(15, .int v3), (14, .int (((Int64.toInt32 (l10 &&& (15 : Int64)))) - (1 : Int32))), (0, .ref 84), (1, .int l1), (3, .int l3), (4, .long l4), (6, .int l6), (7, .int l7), (8, .int l8), (9, .int l9), (10, .long l10), (12, .int l12), (13, .int l13)]) (st' := [.int l3, .int l9, .int v3, .ref 84]) (by decide +kernel) rfl rfl ?_
      refine ab_fin.s1i (i := .sipush 128) (k := 3) (pc' := 194) (n := 128) (by decide +kernel) rfl (by decide +kernel) rfl ?_
      refine ab_fin.s1 (i := .imul) (k := 1) (pc' := 195) (st' := [.int (l3 * (128 : Int32)), .int l9, .int v3, .ref 84]) (by decide +kernel) rfl rfl ?_
      refine ab_fin.s2 (i := .iload 6) (k := 2) (pc' := 197) (lv' := [(15, .int v3), (14, .int (((Int64.toInt32 (l10 &&& (15 : Int64)))) - (1 : Int32))), (0, .ref 84), (1, .int l1), (3, .int l3), (4, .long l4), (6, .int l6), (7, .int l7), (8, .int l8), (9, .int l9), (10, .long l10), (12, .int l12), (13, .int l13)]) (st' := [.int l6, .int (l3 * (128 : Int32)), .int l9, .int v3, .ref 84]) (by decide +kernel) rfl rfl ?_
      refine ab_fin.s1 (i := .iadd) (k := 1) (pc' := 198) (st' := [.int ((l3 * (128 : Int32)) + l6), .int l9, .int v3, .ref 84]) (by decide +kernel) rfl rfl ?_
      refine ab_fin.q_yI (i := .invokevirtual 86) (k := 3) (y := 10) (As := [.ref 84, .int v3, .int l9, .int ((l3 * (128 : Int32)) + l6)]) (rest := []) (M' := (mX0_layGroup, [])) (lv2 := [(0, .ref 84), (1, .int v3), (2, .int l9), (3, .int ((l3 * (128 : Int32)) + l6))]) (pc' := 201) (X := K) (by decide +kernel) (ab_cv rfl rfl (conc_get (σ := τ1) (F2.s t0_84)) ⟨(Nat.le_of_ble_eq_true rfl), (Nat.le_of_ble_eq_true rfl)⟩ rfl) rfl (Nat.le_of_ble_eq_true rfl) rfl rfl (hY_no fun E => rfl) w (fun v6 τ4 F5 w => ?_)
      refine ab_fin.s2 (i := .istore 16) (k := 2) (pc' := 203) (lv' := [(16, .int v6), (15, .int v3), (14, .int (((Int64.toInt32 (l10 &&& (15 : Int64)))) - (1 : Int32))), (0, .ref 84), (1, .int l1), (3, .int l3), (4, .long l4), (6, .int l6), (7, .int l7), (8, .int l8), (9, .int l9), (10, .long l10), (12, .int l12), (13, .int l13)]) (st' := []) (by decide +kernel) rfl rfl ?_
      refine ab_fin.s2 (i := .iload 6) (k := 2) (pc' := 205) (lv' := [(16, .int v6), (15, .int v3), (14, .int (((Int64.toInt32 (l10 &&& (15 : Int64)))) - (1 : Int32))), (0, .ref 84), (1, .int l1), (3, .int l3), (4, .long l4), (6, .int l6), (7, .int l7), (8, .int l8), (9, .int l9), (10, .long l10), (12, .int l12), (13, .int l13)]) (st' := [.int l6]) (by decide +kernel) rfl rfl ?_
      refine ab_fin.s2 (i := .iload 16) (k := 2) (pc' := 207) (lv' := [(16, .int v6), (15, .int v3), (14, .int (((Int64.toInt32 (l10 &&& (15 : Int64)))) - (1 : Int32))), (0, .ref 84), (1, .int l1), (3, .int l3), (4, .long l4), (6, .int l6), (7, .int l7), (8, .int l8), (9, .int l9), (10, .long l10), (12, .int l12), (13, .int l13)]) (st' := [.int v6, .int l6]) (by decide +kernel) rfl rfl ?_
      refine ab_fin.s1 (i := .iadd) (k := 1) (pc' := 208) (st' := [.int (l6 + v6)]) (by decide +kernel) rfl rfl ?_
      refine ab_fin.s2 (i := .istore 6) (k := 2) (pc' := 210) (lv' := [(6, .int (l6 + v6)), (16, .int v6), (15, .int v3), (14, .int (((Int64.toInt32 (l10 &&& (15 : Int64)))) - (1 : Int32))), (0, .ref 84), (1, .int l1), (3, .int l3), (4, .long l4), (7, .int l7), (8, .int l8), (9, .int l9), (10, .long l10), (12, .int l12), (13, .int l13)]) (st' := []) (by decide +kernel) rfl rfl ?_
      refine ab_fin.s2 (i := .aload_n 0) (k := 1) (pc' := 211) (lv' := [(6, .int (l6 + v6)), (16, .int v6), (15, .int v3), (14, .int (((Int64.toInt32 (l10 &&& (15 : Int64)))) - (1 : Int32))), (0, .ref 84), (1, .int l1), (3, .int l3), (4, .long l4), (7, .int l7), (8, .int l8), (9, .int l9), (10, .long l10), (12, .int l12), (13, .int l13)]) (st' := [.ref 84]) (by decide +kernel) rfl rfl ?_
      refine ab_fin.q_rA (b := 88) (ix := 21) (ci := 1) (k := 8) (pc' := 214) (by decide +kernel) rfl (c_rA (F5.s t0_84) rfl (rC_1_8 F5 t0_84)) rfl ?_
      refine ab_fin.s2 (i := .iload 8) (k := 2) (pc' := 216) (lv' := [(6, .int (l6 + v6)), (16, .int v6), (15, .int v3), (14, .int (((Int64.toInt32 (l10 &&& (15 : Int64)))) - (1 : Int32))), (0, .ref 84), (1, .int l1), (3, .int l3), (4, .long l4), (7, .int l7), (8, .int l8), (9, .int l9), (10, .long l10), (12, .int l12), (13, .int l13)]) (st' := [.int l8, .ref 88]) (by decide +kernel) rfl rfl ?_
      refine ab_fin.s2 (i := .iload 16) (k := 2) (pc' := 218) (lv' := [(6, .int (l6 + v6)), (16, .int v6), (15, .int v3), (14, .int (((Int64.toInt32 (l10 &&& (15 : Int64)))) - (1 : Int32))), (0, .ref 84), (1, .int l1), (3, .int l3), (4, .long l4), (7, .int l7), (8, .int l8), (9, .int l9), (10, .long l10), (12, .int l12), (13, .int l13)]) (st' := [.int v6, .int l8, .ref 88]) (by decide +kernel) rfl rfl ?_
      refine ab_fin.s2 (i := .iload 15) (k := 2) (pc' := 220) (lv' := [(6, .int (l6 + v6)), (16, .int v6), (15, .int v3), (14, .int (((Int64.toInt32 (l10 &&& (15 : Int64)))) - (1 : Int32))), (0, .ref 84), (1, .int l1), (3, .int l3), (4, .long l4), (7, .int l7), (8, .int l8), (9, .int l9), (10, .long l10), (12, .int l12), (13, .int l13)]) (st' := [.int v3, .int v6, .int l8, .ref 88]) (by decide +kernel) rfl rfl ?_
      refine ab_fin.br (c := v3 ≤ v6) (i := .if_icmp .ge 7) (off := 7) (t := 227) (pc' := 223) (r := [.int l8, .ref 88]) (by decide +kernel) rfl (by decide +kernel) rfl (fun q => ?_) (fun q => ?_)
      · replace w := w.1 q
        refine ab_fin.s1i (i := .iconst 0) (k := 1) (pc' := 228) (n := 0) (by decide +kernel) rfl (by decide +kernel) rfl ?_
        exact ab_fin.lv ⟨(List.forall_mem_cons.mpr ⟨(List.Mem.tail _ (List.Mem.tail _ (List.Mem.tail _ (List.Mem.tail _ (List.Mem.head _))))), (List.forall_mem_cons.mpr ⟨(List.Mem.tail _ (List.Mem.tail _ (List.Mem.tail _ (List.Mem.tail _ (List.Mem.tail _ (List.Mem.head _)))))), (List.forall_mem_cons.mpr ⟨(List.Mem.tail _ (List.Mem.tail _ (List.Mem.tail _ (List.Mem.tail _ (List.Mem.tail _ (List.Mem.tail _ (List.Mem.head _))))))), (List.forall_mem_cons.mpr ⟨(List.Mem.tail _ (List.Mem.tail _ (List.Mem.tail _ (List.Mem.tail _ (List.Mem.tail _ (List.Mem.tail _ (List.Mem.tail _ (List.Mem.head _)))))))), (List.forall_mem_cons.mpr ⟨(List.Mem.head _), (List.forall_mem_cons.mpr ⟨(List.Mem.tail _ (List.Mem.tail _ (List.Mem.tail _ (List.Mem.tail _ (List.Mem.tail _ (List.Mem.tail _ (List.Mem.tail _ (List.Mem.tail _ (List.Mem.head _))))))))), (List.forall_mem_cons.mpr ⟨(List.Mem.tail _ (List.Mem.tail _ (List.Mem.tail _ (List.Mem.tail _ (List.Mem.tail _ (List.Mem.tail _ (List.Mem.tail _ (List.Mem.tail _ (List.Mem.tail _ (List.Mem.head _)))))))))), (List.forall_mem_cons.mpr ⟨(List.Mem.tail _ (List.Mem.tail _ (List.Mem.tail _ (List.Mem.tail _ (List.Mem.tail _ (List.Mem.tail _ (List.Mem.tail _ (List.Mem.tail _ (List.Mem.tail _ (List.Mem.tail _ (List.Mem.head _))))))))))), (List.forall_mem_cons.mpr ⟨(List.Mem.tail _ (List.Mem.tail _ (List.Mem.tail _ (List.Mem.tail _ (List.Mem.tail _ (List.Mem.tail _ (List.Mem.tail _ (List.Mem.tail _ (List.Mem.tail _ (List.Mem.tail _ (List.Mem.tail _ (List.Mem.head _)))))))))))), (List.forall_mem_cons.mpr ⟨(List.Mem.tail _ (List.Mem.tail _ (List.Mem.tail _ (List.Mem.tail _ (List.Mem.tail _ (List.Mem.tail _ (List.Mem.tail _ (List.Mem.tail _ (List.Mem.tail _ (List.Mem.tail _ (List.Mem.tail _ (List.Mem.tail _ (List.Mem.tail _ (List.Mem.head _)))))))))))))), (List.forall_mem_cons.mpr ⟨(List.Mem.tail _ (List.Mem.tail _ (List.Mem.tail _ (List.Mem.head _)))), (fun _ h => absurd h List.not_mem_nil)⟩)⟩)⟩)⟩)⟩)⟩)⟩)⟩)⟩)⟩)⟩), (show ([6, 16, 15, 14, 0, 1, 3, 4, 7, 8, 9, 10, 12, 13] : List Nat).Nodup from by decide)⟩ w
      · replace w := w.2 q
        refine ab_fin.s1i (i := .iconst 1) (k := 1) (pc' := 224) (n := 1) (by decide +kernel) rfl (by decide +kernel) rfl ?_
        refine ab_fin.s3 (i := .goto 4) (k := 3) (t := 228) (st' := [.int 1, .int l8, .ref 88]) (by decide +kernel) (ab_gto (by decide +kernel)) ?_
        exact ab_fin.lv ⟨(List.forall_mem_cons.mpr ⟨(List.Mem.tail _ (List.Mem.tail _ (List.Mem.tail _ (List.Mem.tail _ (List.Mem.head _))))), (List.forall_mem_cons.mpr ⟨(List.Mem.tail _ (List.Mem.tail _ (List.Mem.tail _ (List.Mem.tail _ (List.Mem.tail _ (List.Mem.head _)))))), (List.forall_mem_cons.mpr ⟨(List.Mem.tail _ (List.Mem.tail _ (List.Mem.tail _ (List.Mem.tail _ (List.Mem.tail _ (List.Mem.tail _ (List.Mem.head _))))))), (List.forall_mem_cons.mpr ⟨(List.Mem.tail _ (List.Mem.tail _ (List.Mem.tail _ (List.Mem.tail _ (List.Mem.tail _ (List.Mem.tail _ (List.Mem.tail _ (List.Mem.head _)))))))), (List.forall_mem_cons.mpr ⟨(List.Mem.head _), (List.forall_mem_cons.mpr ⟨(List.Mem.tail _ (List.Mem.tail _ (List.Mem.tail _ (List.Mem.tail _ (List.Mem.tail _ (List.Mem.tail _ (List.Mem.tail _ (List.Mem.tail _ (List.Mem.head _))))))))), (List.forall_mem_cons.mpr ⟨(List.Mem.tail _ (List.Mem.tail _ (List.Mem.tail _ (List.Mem.tail _ (List.Mem.tail _ (List.Mem.tail _ (List.Mem.tail _ (List.Mem.tail _ (List.Mem.tail _ (List.Mem.head _)))))))))), (List.forall_mem_cons.mpr ⟨(List.Mem.tail _ (List.Mem.tail _ (List.Mem.tail _ (List.Mem.tail _ (List.Mem.tail _ (List.Mem.tail _ (List.Mem.tail _ (List.Mem.tail _ (List.Mem.tail _ (List.Mem.tail _ (List.Mem.head _))))))))))), (List.forall_mem_cons.mpr ⟨(List.Mem.tail _ (List.Mem.tail _ (List.Mem.tail _ (List.Mem.tail _ (List.Mem.tail _ (List.Mem.tail _ (List.Mem.tail _ (List.Mem.tail _ (List.Mem.tail _ (List.Mem.tail _ (List.Mem.tail _ (List.Mem.head _)))))))))))), (List.forall_mem_cons.mpr ⟨(List.Mem.tail _ (List.Mem.tail _ (List.Mem.tail _ (List.Mem.tail _ (List.Mem.tail _ (List.Mem.tail _ (List.Mem.tail _ (List.Mem.tail _ (List.Mem.tail _ (List.Mem.tail _ (List.Mem.tail _ (List.Mem.tail _ (List.Mem.tail _ (List.Mem.head _)))))))))))))), (List.forall_mem_cons.mpr ⟨(List.Mem.tail _ (List.Mem.tail _ (List.Mem.tail _ (List.Mem.head _)))), (fun _ h => absurd h List.not_mem_nil)⟩)⟩)⟩)⟩)⟩)⟩)⟩)⟩)⟩)⟩)⟩), (show ([6, 16, 15, 14, 0, 1, 3, 4, 7, 8, 9, 10, 12, 13] : List Nat).Nodup from by decide)⟩ w
theorem T_X0_choose_228 {Z : zT} {d : Nat} {σ : Sg} {l1 : Int32} {l3 : Int32} {l4 : Int64} {l6 : Int32} {l7 : Int32} {l8 : Int32} {l9 : Int32} {l10 : Int64} {l13 : Int32} {l14 : Int32} {s1 : Int32} {s2 : Int32} {K : kS} (F : FX ΦC σ.sh σ.r) (w : ib s1 104 ∧ ((l14 < 0 → C_X0_choose_152 Z (d + 1) (σ.wi 88 s1.toNatClampNeg (vp_nar .boolean s2)) l1 l3 l4 l6 l7 l8 l9 ((Int64.toUInt64 l10 >>> ((Int32.toInt64 (4 : Int32)).toUInt64 &&& Int64.toUInt64 63)).toInt64) 0 (l13 + 1) K) ∧ (¬ l14 < 0 → ib l8 104 ∧ ((¬ ((σ.wi 88 s1.toNatClampNeg (vp_nar .boolean s2)).i 88 l8.toNatClampNeg) = 0 → C_X0_choose_152 Z (d + 1) (σ.wi 88 s1.toNatClampNeg (vp_nar .boolean s2)) l1 l3 l4 l6 l7 l8 l9 ((Int64.toUInt64 l10 >>> ((Int32.toInt64 (4 : Int32)).toUInt64 &&& Int64.toUInt64 63)).toInt64) 0 (l13 + 1) K) ∧ (((σ.wi 88 s1.toNatClampNeg (vp_nar .boolean s2)).i 88 l8.toNatClampNeg) = 0 → C_X0_choose_152 Z (d + 1) (σ.wi 88 s1.toNatClampNeg (vp_nar .boolean s2)) l1 l3 l4 l6 l7 l8 l9 ((Int64.toUInt64 l10 >>> ((Int32.toInt64 (4 : Int32)).toUInt64 &&& Int64.toUInt64 63)).toInt64) 1 (l13 + 1) K))))) : C_X0_choose_228 Z (d + 1) σ l1 l3 l4 l6 l7 l8 l9 l10 l13 l14 s1 s2 K := by
  unfold C_X0_choose_228
  obtain ⟨e1, w⟩ := w
  refine ab_fin.q_sB (h1 := conc (σ.wi 88 s1.toNatClampNeg (vp_nar .boolean s2))) (pc' := 229) (by decide +kernel) (c_sB3' (F.s t0_88) e1 rfl) rfl ?_
  refine ab_fin.s2 (i := .iload 14) (k := 2) (pc' := 231) (lv' := [(0, .ref 84), (1, .int l1), (3, .int l3), (4, .long l4), (6, .int l6), (7, .int l7), (8, .int l8), (9, .int l9), (10, .long l10), (13, .int l13), (14, .int l14)]) (st' := [.int l14]) (by decide +kernel) rfl rfl ?_
  refine ab_fin.br (c := l14 < 0) (i := .ifCond .lt 17) (off := 17) (t := 248) (pc' := 234) (r := []) (by decide +kernel) rfl (by decide +kernel) rfl (fun q => ?_) (fun q => ?_)
  · replace w := w.1 q
    refine ab_fin.s1i (i := .iconst 0) (k := 1) (pc' := 249) (n := 0) (by decide +kernel) rfl (by decide +kernel) rfl ?_
    refine ab_fin.s2 (i := .istore 12) (k := 2) (pc' := 251) (lv' := [(12, .int 0), (0, .ref 84), (1, .int l1), (3, .int l3), (4, .long l4), (6, .int l6), (7, .int l7), (8, .int l8), (9, .int l9), (10, .long l10), (13, .int l13), (14, .int l14)]) (st' := []) (by decide +kernel) rfl rfl ?_
    refine ab_fin.s2 (i := .lload 10) (k := 2) (pc' := 253) (lv' := [(12, .int 0), (0, .ref 84), (1, .int l1), (3, .int l3), (4, .long l4), (6, .int l6), (7, .int l7), (8, .int l8), (9, .int l9), (10, .long l10), (13, .int l13), (14, .int l14)]) (st' := [.long l10]) (by decide +kernel) rfl rfl ?_
    refine ab_fin.s1i (i := .iconst 4) (k := 1) (pc' := 254) (n := 4) (by decide +kernel) rfl (by decide +kernel) rfl ?_
    refine ab_fin.s1 (i := .lushr) (k := 1) (pc' := 255) (st' := [.long ((Int64.toUInt64 l10 >>> ((Int32.toInt64 (4 : Int32)).toUInt64 &&& Int64.toUInt64 63)).toInt64)]) (by decide +kernel) rfl rfl ?_
    refine ab_fin.s2 (i := .lstore 10) (k := 2) (pc' := 257) (lv' := [(10, .long ((Int64.toUInt64 l10 >>> ((Int32.toInt64 (4 : Int32)).toUInt64 &&& Int64.toUInt64 63)).toInt64)), (12, .int 0), (0, .ref 84), (1, .int l1), (3, .int l3), (4, .long l4), (6, .int l6), (7, .int l7), (8, .int l8), (9, .int l9), (13, .int l13), (14, .int l14)]) (st' := []) (by decide +kernel) rfl rfl ?_
    refine ab_fin.q_inc (n := 13) (c := 1) (pc' := 260) (lv' := [(13, .int (l13 + 1)), (10, .long ((Int64.toUInt64 l10 >>> ((Int32.toInt64 (4 : Int32)).toUInt64 &&& Int64.toUInt64 63)).toInt64)), (12, .int 0), (0, .ref 84), (1, .int l1), (3, .int l3), (4, .long l4), (6, .int l6), (7, .int l7), (8, .int l8), (9, .int l9), (14, .int l14)]) (by decide +kernel) (by decide) rfl rfl rfl rfl ?_
    refine ab_fin.s3 (i := .goto (-108)) (k := 3) (t := 152) (st' := []) (by decide +kernel) (ab_gto (by decide +kernel)) ?_
    exact ab_fin.lv ⟨(List.forall_mem_cons.mpr ⟨(List.Mem.tail _ (List.Mem.tail _ (List.Mem.tail _ (List.Mem.head _)))), (List.forall_mem_cons.mpr ⟨(List.Mem.tail _ (List.Mem.tail _ (List.Mem.tail _ (List.Mem.tail _ (List.Mem.head _))))), (List.forall_mem_cons.mpr ⟨(List.Mem.tail _ (List.Mem.tail _ (List.Mem.tail _ (List.Mem.tail _ (List.Mem.tail _ (List.Mem.head _)))))), (List.forall_mem_cons.mpr ⟨(List.Mem.tail _ (List.Mem.tail _ (List.Mem.tail _ (List.Mem.tail _ (List.Mem.tail _ (List.Mem.tail _ (List.Mem.head _))))))), (List.forall_mem_cons.mpr ⟨(List.Mem.tail _ (List.Mem.tail _ (List.Mem.tail _ (List.Mem.tail _ (List.Mem.tail _ (List.Mem.tail _ (List.Mem.tail _ (List.Mem.head _)))))))), (List.forall_mem_cons.mpr ⟨(List.Mem.tail _ (List.Mem.tail _ (List.Mem.tail _ (List.Mem.tail _ (List.Mem.tail _ (List.Mem.tail _ (List.Mem.tail _ (List.Mem.tail _ (List.Mem.head _))))))))), (List.forall_mem_cons.mpr ⟨(List.Mem.tail _ (List.Mem.tail _ (List.Mem.tail _ (List.Mem.tail _ (List.Mem.tail _ (List.Mem.tail _ (List.Mem.tail _ (List.Mem.tail _ (List.Mem.tail _ (List.Mem.head _)))))))))), (List.forall_mem_cons.mpr ⟨(List.Mem.tail _ (List.Mem.tail _ (List.Mem.tail _ (List.Mem.tail _ (List.Mem.tail _ (List.Mem.tail _ (List.Mem.tail _ (List.Mem.tail _ (List.Mem.tail _ (List.Mem.tail _ (List.Mem.head _))))))))))), (List.forall_mem_cons.mpr ⟨(List.Mem.tail _ (List.Mem.head _)), (List.forall_mem_cons.mpr ⟨(List.Mem.tail _ (List.Mem.tail _ (List.Mem.head _))), (List.forall_mem_cons.mpr ⟨(List.Mem.head _), (fun _ h => absurd h List.not_mem_nil)⟩)⟩)⟩)⟩)⟩)⟩)⟩)⟩)⟩)⟩)⟩), (show ([13, 10, 12, 0, 1, 3, 4, 6, 7, 8, 9, 14] : List Nat).Nodup from by decide)⟩ w
  · replace w := w.2 q
    refine ab_fin.s2 (i := .aload_n 0) (k := 1) (pc' := 235) (lv' := [(0, .ref 84), (1, .int l1), (3, .int l3), (4, .long l4), (6, .int l6), (7, .int l7), (8, .int l8), (9, .int l9), (10, .long l10), (13, .int l13), (14, .int l14)]) (st' := [.ref 84]) (by decide +kernel) rfl rfl ?_
    refine ab_fin.q_rA (b := 88) (ix := 21) (ci := 1) (k := 8) (pc' := 238) (by decide +kernel) rfl (c_rA (F.s t0_84) rfl (rC_1_8 F t0_84)) rfl ?_
    refine ab_fin.s2 (i := .iload 8) (k := 2) (pc' := 240) (lv' := [(0, .ref 84), (1, .int l1), (3, .int l3), (4, .long l4), (6, .int l6), (7, .int l7), (8, .int l8), (9, .int l9), (10, .long l10), (13, .int l13), (14, .int l14)]) (st' := [.int l8, .ref 88]) (by decide +kernel) rfl rfl ?_
    obtain ⟨e2, w⟩ := w
    refine ab_fin.q_eB (x := ((σ.wi 88 s1.toNatClampNeg (vp_nar .boolean s2)).i 88 l8.toNatClampNeg)) (pc' := 241) (by decide +kernel) (c_eB3' (F.s t0_88) e2 rfl) rfl ?_
    refine ab_fin.br (c := ¬ ((σ.wi 88 s1.toNatClampNeg (vp_nar .boolean s2)).i 88 l8.toNatClampNeg) = 0) (i := .ifCond .ne 7) (off := 7) (t := 248) (pc' := 244) (r := []) (by decide +kernel) rfl (by decide +kernel) rfl (fun q => ?_) (fun q => ?_)
    · replace w := w.1 q
      refine ab_fin.s1i (i := .iconst 0) (k := 1) (pc' := 249) (n := 0) (by decide +kernel) rfl (by decide +kernel) rfl ?_
      refine ab_fin.s2 (i := .istore 12) (k := 2) (pc' := 251) (lv' := [(12, .int 0), (0, .ref 84), (1, .int l1), (3, .int l3), (4, .long l4), (6, .int l6), (7, .int l7), (8, .int l8), (9, .int l9), (10, .long l10), (13, .int l13), (14, .int l14)]) (st' := []) (by decide +kernel) rfl rfl ?_
      refine ab_fin.s2 (i := .lload 10) (k := 2) (pc' := 253) (lv' := [(12, .int 0), (0, .ref 84), (1, .int l1), (3, .int l3), (4, .long l4), (6, .int l6), (7, .int l7), (8, .int l8), (9, .int l9), (10, .long l10), (13, .int l13), (14, .int l14)]) (st' := [.long l10]) (by decide +kernel) rfl rfl ?_
      refine ab_fin.s1i (i := .iconst 4) (k := 1) (pc' := 254) (n := 4) (by decide +kernel) rfl (by decide +kernel) rfl ?_
      refine ab_fin.s1 (i := .lushr) (k := 1) (pc' := 255) (st' := [.long ((Int64.toUInt64 l10 >>> ((Int32.toInt64 (4 : Int32)).toUInt64 &&& Int64.toUInt64 63)).toInt64)]) (by decide +kernel) rfl rfl ?_
      refine ab_fin.s2 (i := .lstore 10) (k := 2) (pc' := 257) (lv' := [(10, .long ((Int64.toUInt64 l10 >>> ((Int32.toInt64 (4 : Int32)).toUInt64 &&& Int64.toUInt64 63)).toInt64)), (12, .int 0), (0, .ref 84), (1, .int l1), (3, .int l3), (4, .long l4), (6, .int l6), (7, .int l7), (8, .int l8), (9, .int l9), (13, .int l13), (14, .int l14)]) (st' := []) (by decide +kernel) rfl rfl ?_
      refine ab_fin.q_inc (n := 13) (c := 1) (pc' := 260) (lv' := [(13, .int (l13 + 1)), (10, .long ((Int64.toUInt64 l10 >>> ((Int32.toInt64 (4 : Int32)).toUInt64 &&& Int64.toUInt64 63)).toInt64)), (12, .int 0), (0, .ref 84), (1, .int l1), (3, .int l3), (4, .long l4), (6, .int l6), (7, .int l7), (8, .int l8), (9, .int l9), (14, .int l14)]) (by decide +kernel) (by decide) rfl rfl rfl rfl ?_
      refine ab_fin.s3 (i := .goto (-108)) (k := 3) (t := 152) (st' := []) (by decide +kernel) (ab_gto (by decide +kernel)) ?_
      exact ab_fin.lv ⟨(List.forall_mem_cons.mpr ⟨(List.Mem.tail _ (List.Mem.tail _ (List.Mem.tail _ (List.Mem.head _)))), (List.forall_mem_cons.mpr ⟨(List.Mem.tail _ (List.Mem.tail _ (List.Mem.tail _ (List.Mem.tail _ (List.Mem.head _))))), (List.forall_mem_cons.mpr ⟨(List.Mem.tail _ (List.Mem.tail _ (List.Mem.tail _ (List.Mem.tail _ (List.Mem.tail _ (List.Mem.head _)))))), (List.forall_mem_cons.mpr ⟨(List.Mem.tail _ (List.Mem.tail _ (List.Mem.tail _ (List.Mem.tail _ (List.Mem.tail _ (List.Mem.tail _ (List.Mem.head _))))))), (List.forall_mem_cons.mpr ⟨(List.Mem.tail _ (List.Mem.tail _ (List.Mem.tail _ (List.Mem.tail _ (List.Mem.tail _ (List.Mem.tail _ (List.Mem.tail _ (List.Mem.head _)))))))), (List.forall_mem_cons.mpr ⟨(List.Mem.tail _ (List.Mem.tail _ (List.Mem.tail _ (List.Mem.tail _ (List.Mem.tail _ (List.Mem.tail _ (List.Mem.tail _ (List.Mem.tail _ (List.Mem.head _))))))))), (List.forall_mem_cons.mpr ⟨(List.Mem.tail _ (List.Mem.tail _ (List.Mem.tail _ (List.Mem.tail _ (List.Mem.tail _ (List.Mem.tail _ (List.Mem.tail _ (List.Mem.tail _ (List.Mem.tail _ (List.Mem.head _)))))))))), (List.forall_mem_cons.mpr ⟨(List.Mem.tail _ (List.Mem.tail _ (List.Mem.tail _ (List.Mem.tail _ (List.Mem.tail _ (List.Mem.tail _ (List.Mem.tail _ (List.Mem.tail _ (List.Mem.tail _ (List.Mem.tail _ (List.Mem.head _))))))))))), (List.forall_mem_cons.mpr ⟨(List.Mem.tail _ (List.Mem.head _)), (List.forall_mem_cons.mpr ⟨(List.Mem.tail _ (List.Mem.tail _ (List.Mem.head _))), (List.forall_mem_cons.mpr ⟨(List.Mem.head _), (fun _ h => absurd h List.not_mem_nil)⟩)⟩)⟩)⟩)⟩)⟩)⟩)⟩)⟩)⟩)⟩), (show ([13, 10, 12, 0, 1, 3, 4, 6, 7, 8, 9, 14] : List Nat).Nodup from by decide)⟩ w
    · replace w := w.2 (Decidable.of_not_not q)
      refine ab_fin.s1i (i := .iconst 1) (k := 1) (pc' := 245) (n := 1) (by decide +kernel) rfl (by decide +kernel) rfl ?_
      refine ab_fin.s3 (i := .goto 4) (k := 3) (t := 249) (st' := [.int 1]) (by decide +kernel) (ab_gto (by decide +kernel)) ?_
      refine ab_fin.s2 (i := .istore 12) (k := 2) (pc' := 251) (lv' := [(12, .int 1), (0, .ref 84), (1, .int l1), (3, .int l3), (4, .long l4), (6, .int l6), (7, .int l7), (8, .int l8), (9, .int l9), (10, .long l10), (13, .int l13), (14, .int l14)]) (st' := []) (by decide +kernel) rfl rfl ?_
      refine ab_fin.s2 (i := .lload 10) (k := 2) (pc' := 253) (lv' := [(12, .int 1), (0, .ref 84), (1, .int l1), (3, .int l3), (4, .long l4), (6, .int l6), (7, .int l7), (8, .int l8), (9, .int l9), (10, .long l10), (13, .int l13), (14, .int l14)]) (st' := [.long l10]) (by decide +kernel) rfl rfl ?_
      refine ab_fin.s1i (i := .iconst 4) (k := 1) (pc' := 254) (n := 4) (by decide +kernel) rfl (by decide +kernel) rfl ?_
      refine ab_fin.s1 (i := .lushr) (k := 1) (pc' := 255) (st' := [.long ((Int64.toUInt64 l10 >>> ((Int32.toInt64 (4 : Int32)).toUInt64 &&& Int64.toUInt64 63)).toInt64)]) (by decide +kernel) rfl rfl ?_
      refine ab_fin.s2 (i := .lstore 10) (k := 2) (pc' := 257) (lv' := [(10, .long ((Int64.toUInt64 l10 >>> ((Int32.toInt64 (4 : Int32)).toUInt64 &&& Int64.toUInt64 63)).toInt64)), (12, .int 1), (0, .ref 84), (1, .int l1), (3, .int l3), (4, .long l4), (6, .int l6), (7, .int l7), (8, .int l8), (9, .int l9), (13, .int l13), (14, .int l14)]) (st' := []) (by decide +kernel) rfl rfl ?_
      refine ab_fin.q_inc (n := 13) (c := 1) (pc' := 260) (lv' := [(13, .int (l13 + 1)), (10, .long ((Int64.toUInt64 l10 >>> ((Int32.toInt64 (4 : Int32)).toUInt64 &&& Int64.toUInt64 63)).toInt64)), (12, .int 1), (0, .ref 84), (1, .int l1), (3, .int l3), (4, .long l4), (6, .int l6), (7, .int l7), (8, .int l8), (9, .int l9), (14, .int l14)]) (by decide +kernel) (by decide) rfl rfl rfl rfl ?_
      refine ab_fin.s3 (i := .goto (-108)) (k := 3) (t := 152) (st' := []) (by decide +kernel) (ab_gto (by decide +kernel)) ?_
      exact ab_fin.lv ⟨(List.forall_mem_cons.mpr ⟨(List.Mem.tail _ (List.Mem.tail _ (List.Mem.tail _ (List.Mem.head _)))), (List.forall_mem_cons.mpr ⟨(List.Mem.tail _ (List.Mem.tail _ (List.Mem.tail _ (List.Mem.tail _ (List.Mem.head _))))), (List.forall_mem_cons.mpr ⟨(List.Mem.tail _ (List.Mem.tail _ (List.Mem.tail _ (List.Mem.tail _ (List.Mem.tail _ (List.Mem.head _)))))), (List.forall_mem_cons.mpr ⟨(List.Mem.tail _ (List.Mem.tail _ (List.Mem.tail _ (List.Mem.tail _ (List.Mem.tail _ (List.Mem.tail _ (List.Mem.head _))))))), (List.forall_mem_cons.mpr ⟨(List.Mem.tail _ (List.Mem.tail _ (List.Mem.tail _ (List.Mem.tail _ (List.Mem.tail _ (List.Mem.tail _ (List.Mem.tail _ (List.Mem.head _)))))))), (List.forall_mem_cons.mpr ⟨(List.Mem.tail _ (List.Mem.tail _ (List.Mem.tail _ (List.Mem.tail _ (List.Mem.tail _ (List.Mem.tail _ (List.Mem.tail _ (List.Mem.tail _ (List.Mem.head _))))))))), (List.forall_mem_cons.mpr ⟨(List.Mem.tail _ (List.Mem.tail _ (List.Mem.tail _ (List.Mem.tail _ (List.Mem.tail _ (List.Mem.tail _ (List.Mem.tail _ (List.Mem.tail _ (List.Mem.tail _ (List.Mem.head _)))))))))), (List.forall_mem_cons.mpr ⟨(List.Mem.tail _ (List.Mem.tail _ (List.Mem.tail _ (List.Mem.tail _ (List.Mem.tail _ (List.Mem.tail _ (List.Mem.tail _ (List.Mem.tail _ (List.Mem.tail _ (List.Mem.tail _ (List.Mem.head _))))))))))), (List.forall_mem_cons.mpr ⟨(List.Mem.tail _ (List.Mem.head _)), (List.forall_mem_cons.mpr ⟨(List.Mem.tail _ (List.Mem.tail _ (List.Mem.head _))), (List.forall_mem_cons.mpr ⟨(List.Mem.head _), (fun _ h => absurd h List.not_mem_nil)⟩)⟩)⟩)⟩)⟩)⟩)⟩)⟩)⟩)⟩)⟩), (show ([13, 10, 12, 0, 1, 3, 4, 6, 7, 8, 9, 14] : List Nat).Nodup from by decide)⟩ w
theorem T_X0_choose_263 {Z : zT} {d : Nat} {σ : Sg} {l1 : Int32} {l3 : Int32} {l4 : Int64} {l6 : Int32} {l7 : Int32} {l8 : Int32} {K : kS} (F : FX ΦC σ.sh σ.r) (w : ib l8 104 ∧ (ib l8 104 ∧ (C_X0_choose_81 Z (d + 1) (σ.wi 87 l8.toNatClampNeg (l6 - (σ.i 86 l8.toNatClampNeg))) l1 l3 l4 l6 (l7 + 1) K))) : C_X0_choose_263 Z (d + 1) σ l1 l3 l4 l6 l7 l8 K := by
  unfold C_X0_choose_263
  refine ab_fin.s2 (i := .aload_n 0) (k := 1) (pc' := 264) (lv' := [(0, .ref 84), (1, .int l1), (3, .int l3), (4, .long l4), (6, .int l6), (7, .int l7), (8, .int l8)]) (st' := [.ref 84]) (by decide +kernel) rfl rfl ?_
  refine ab_fin.q_rA (b := 87) (ix := 18) (ci := 1) (k := 7) (pc' := 267) (by decide +kernel) rfl (c_rA (F.s t0_84) rfl (rC_1_7 F t0_84)) rfl ?_
  refine ab_fin.s2 (i := .iload 8) (k := 2) (pc' := 269) (lv' := [(0, .ref 84), (1, .int l1), (3, .int l3), (4, .long l4), (6, .int l6), (7, .int l7), (8, .int l8)]) (st' := [.int l8, .ref 87]) (by decide +kernel) rfl rfl ?_
  refine ab_fin.s2 (i := .iload 6) (k := 2) (pc' := 271) (lv' := [(0, .ref 84), (1, .int l1), (3, .int l3), (4, .long l4), (6, .int l6), (7, .int l7), (8, .int l8)]) (st' := [.int l6, .int l8, .ref 87]) (by decide +kernel) rfl rfl ?_
  refine ab_fin.s2 (i := .aload_n 0) (k := 1) (pc' := 272) (lv' := [(0, .ref 84), (1, .int l1), (3, .int l3), (4, .long l4), (6, .int l6), (7, .int l7), (8, .int l8)]) (st' := [.ref 84, .int l6, .int l8, .ref 87]) (by decide +kernel) rfl rfl ?_
  refine ab_fin.q_rA (b := 86) (ix := 15) (ci := 1) (k := 6) (pc' := 275) (by decide +kernel) rfl (c_rA (F.s t0_84) rfl (rC_1_6 F t0_84)) rfl ?_
  refine ab_fin.s2 (i := .iload 8) (k := 2) (pc' := 277) (lv' := [(0, .ref 84), (1, .int l1), (3, .int l3), (4, .long l4), (6, .int l6), (7, .int l7), (8, .int l8)]) (st' := [.int l8, .ref 86, .int l6, .int l8, .ref 87]) (by decide +kernel) rfl rfl ?_
  obtain ⟨e1, w⟩ := w
  refine ab_fin.q_eI (x := (σ.i 86 l8.toNatClampNeg)) (pc' := 278) (by decide +kernel) (c_eI' (F.s t0_86) e1 rfl) rfl ?_
  refine ab_fin.s1 (i := .isub) (k := 1) (pc' := 279) (st' := [.int (l6 - (σ.i 86 l8.toNatClampNeg)), .int l8, .ref 87]) (by decide +kernel) rfl rfl ?_
  obtain ⟨e2, w⟩ := w
  refine ab_fin.q_sI (h1 := conc (σ.wi 87 l8.toNatClampNeg (l6 - (σ.i 86 l8.toNatClampNeg)))) (pc' := 280) (by decide +kernel) (c_sI' (F.s t0_87) e2 rfl) rfl ?_
  refine ab_fin.q_inc (n := 7) (c := 1) (pc' := 283) (lv' := [(7, .int (l7 + 1)), (0, .ref 84), (1, .int l1), (3, .int l3), (4, .long l4), (6, .int l6), (8, .int l8)]) (by decide +kernel) (by decide) rfl rfl rfl rfl ?_
  refine ab_fin.s3 (i := .goto (-202)) (k := 3) (t := 81) (st' := []) (by decide +kernel) (ab_gto (by decide +kernel)) ?_
  exact ab_fin.lv ⟨(List.forall_mem_cons.mpr ⟨(List.Mem.tail _ (List.Mem.head _)), (List.forall_mem_cons.mpr ⟨(List.Mem.tail _ (List.Mem.tail _ (List.Mem.head _))), (List.forall_mem_cons.mpr ⟨(List.Mem.tail _ (List.Mem.tail _ (List.Mem.tail _ (List.Mem.head _)))), (List.forall_mem_cons.mpr ⟨(List.Mem.tail _ (List.Mem.tail _ (List.Mem.tail _ (List.Mem.tail _ (List.Mem.head _))))), (List.forall_mem_cons.mpr ⟨(List.Mem.tail _ (List.Mem.tail _ (List.Mem.tail _ (List.Mem.tail _ (List.Mem.tail _ (List.Mem.head _)))))), (List.forall_mem_cons.mpr ⟨(List.Mem.head _), (fun _ h => absurd h List.not_mem_nil)⟩)⟩)⟩)⟩)⟩)⟩), (show ([7, 0, 1, 3, 4, 6, 8] : List Nat).Nodup from by decide)⟩ w
theorem T_X0_gatherApplying_0 {Z : zT} {d : Nat} {σ : Sg} {l1 : Int32} {l2 : Nat} {l3 : Int64} {K : kS} (F : FX ΦC σ.sh σ.r) (w : C_X11_listFor_0 Z d σ l1 89 90 (yI K fun v3 τ1 => C_X0_gatherApplying_29 Z (d + 1) (τ1.wi 84 11 (0 : Int32)) l2 l3 v3 0 0 K)) : C_X0_gatherApplying_0 Z (d + 1) σ l1 l2 l3 K := by
  unfold C_X0_gatherApplying_0
  refine ab_fin.s2 (i := .aload_n 0) (k := 1) (pc' := 1) (lv' := [(0, .ref 84), (1, .int l1), (2, .ref l2), (3, .long l3)]) (st' := [.ref 84]) (by decide +kernel) rfl rfl ?_
  refine ab_fin.q_rA (b := 1) (ix := 37) (ci := 1) (k := 0) (pc' := 4) (by decide +kernel) rfl (c_rA (F.s t0_84) rfl (rC_1_0 F t0_84)) rfl ?_
  refine ab_fin.s2 (i := .iload_n 1) (k := 1) (pc' := 5) (lv' := [(0, .ref 84), (1, .int l1), (2, .ref l2), (3, .long l3)]) (st' := [.int l1, .ref 1]) (by decide +kernel) rfl rfl ?_
  refine ab_fin.s2 (i := .aload_n 0) (k := 1) (pc' := 6) (lv' := [(0, .ref 84), (1, .int l1), (2, .ref l2), (3, .long l3)]) (st' := [.ref 84, .int l1, .ref 1]) (by decide +kernel) rfl rfl ?_
  refine ab_fin.q_rA (b := 89) (ix := 25) (ci := 1) (k := 9) (pc' := 9) (by decide +kernel) rfl (c_rA (F.s t0_84) rfl (rC_1_9 F t0_84)) rfl ?_
  refine ab_fin.s2 (i := .aload_n 0) (k := 1) (pc' := 10) (lv' := [(0, .ref 84), (1, .int l1), (2, .ref l2), (3, .long l3)]) (st' := [.ref 84, .ref 89, .int l1, .ref 1]) (by decide +kernel) rfl rfl ?_
  refine ab_fin.q_rA (b := 90) (ix := 28) (ci := 1) (k := 10) (pc' := 13) (by decide +kernel) rfl (c_rA (F.s t0_84) rfl (rC_1_10 F t0_84)) rfl ?_
  refine ab_fin.q_yI (i := .invokevirtual 90) (k := 3) (y := 2828) (As := [.ref 1, .int l1, .ref 89, .ref 90]) (rest := []) (M' := (mX11_listFor, [])) (lv2 := [(0, .ref 1), (1, .int l1), (2, .ref 89), (3, .ref 90)]) (pc' := 16) (X := K) (by decide +kernel) (ab_cv rfl rfl (conc_get (σ := σ) (F.s t0_1)) ⟨(Nat.le_of_ble_eq_true rfl), (Nat.le_of_ble_eq_true rfl)⟩ rfl) rfl (Nat.le_of_ble_eq_true rfl) rfl rfl (hY_no fun E => rfl) w (fun v3 τ1 F2 w => ?_)
  refine ab_fin.s2 (i := .istore 5) (k := 2) (pc' := 18) (lv' := [(5, .int v3), (0, .ref 84), (1, .int l1), (2, .ref l2), (3, .long l3)]) (st' := []) (by decide +kernel) rfl rfl ?_
  refine ab_fin.s1i (i := .iconst 0) (k := 1) (pc' := 19) (n := 0) (by decide +kernel) rfl (by decide +kernel) rfl ?_
  refine ab_fin.s2 (i := .istore 6) (k := 2) (pc' := 21) (lv' := [(6, .int 0), (5, .int v3), (0, .ref 84), (1, .int l1), (2, .ref l2), (3, .long l3)]) (st' := []) (by decide +kernel) rfl rfl ?_
  refine ab_fin.s2 (i := .aload_n 0) (k := 1) (pc' := 22) (lv' := [(6, .int 0), (5, .int v3), (0, .ref 84), (1, .int l1), (2, .ref l2), (3, .long l3)]) (st' := [.ref 84]) (by decide +kernel) rfl rfl ?_
  refine ab_fin.s1i (i := .iconst 0) (k := 1) (pc' := 23) (n := 0) (by decide +kernel) rfl (by decide +kernel) rfl ?_
  refine ab_fin.q_pF (ix := 94) (ci := 1) (k := 11) (h1 := conc (τ1.wi 84 11 (0 : Int32))) (pc' := 26) (by decide +kernel) rfl (c_pI (v := 0) (F2.s t0_84) rfl) rfl rfl rfl ?_
  refine ab_fin.s1i (i := .iconst 0) (k := 1) (pc' := 27) (n := 0) (by decide +kernel) rfl (by decide +kernel) rfl ?_
  refine ab_fin.s2 (i := .istore 7) (k := 2) (pc' := 29) (lv' := [(7, .int 0), (6, .int 0), (5, .int v3), (0, .ref 84), (1, .int l1), (2, .ref l2), (3, .long l3)]) (st' := []) (by decide +kernel) rfl rfl ?_
  exact ab_fin.lv ⟨(List.forall_mem_cons.mpr ⟨(List.Mem.tail _ (List.Mem.tail _ (List.Mem.tail _ (List.Mem.head _)))), (List.forall_mem_cons.mpr ⟨(List.Mem.tail _ (List.Mem.tail _ (List.Mem.tail _ (List.Mem.tail _ (List.Mem.tail _ (List.Mem.head _)))))), (List.forall_mem_cons.mpr ⟨(List.Mem.tail _ (List.Mem.tail _ (List.Mem.tail _ (List.Mem.tail _ (List.Mem.tail _ (List.Mem.tail _ (List.Mem.head _))))))), (List.forall_mem_cons.mpr ⟨(List.Mem.tail _ (List.Mem.tail _ (List.Mem.head _))), (List.forall_mem_cons.mpr ⟨(List.Mem.tail _ (List.Mem.head _)), (List.forall_mem_cons.mpr ⟨(List.Mem.head _), (fun _ h => absurd h List.not_mem_nil)⟩)⟩)⟩)⟩)⟩)⟩), (show ([7, 6, 5, 0, 1, 2, 3] : List Nat).Nodup from by decide)⟩ w
theorem T_X0_gatherApplying_29 {Z : zT} {d : Nat} {σ : Sg} {l2 : Nat} {l3 : Int64} {l5 : Int32} {l6 : Int32} {l7 : Int32} {K : kS} (F : FX ΦC σ.sh σ.r) (w : (l5 ≤ l7 → narrow .boolean (.int l6) = .int l6 ∧ K (.inl (some (.int l6))) σ) ∧ (¬ l5 ≤ l7 → ib l7 120 ∧ (ib (σ.i 90 l7.toNatClampNeg) 122 ∧ (C_X0_isOn_0 Z d σ (σ.i 13 ((σ.i 90 l7.toNatClampNeg).toNatClampNeg)) l3 (yI K fun v5 τ3 => (v5 = 0 → C_X0_gatherApplying_29 Z (d + 1) τ3 l2 l3 l5 l6 (l7 + 1) K) ∧ (¬ v5 = 0 → C_X0_takes_0 Z d τ3 (σ.i 90 l7.toNatClampNeg) l2 (yI K fun v8 τ6 => (v8 = 0 → C_X0_gatherApplying_29 Z (d + 1) τ6 l2 l3 l5 l6 (l7 + 1) K) ∧ (¬ v8 = 0 → ib (τ6.i 84 11) 120 ∧ ((¬ l6 = 0 → C_X0_gatherApplying_29 Z (d + 1) ((τ6.wi 90 ((τ6.i 84 11).toNatClampNeg) (σ.i 90 l7.toNatClampNeg)).wi 84 11 ((τ6.i 84 11) + (1 : Int32))) l2 l3 l5 1 (l7 + 1) K) ∧ (l6 = 0 → ib (σ.i 90 l7.toNatClampNeg) 122 ∧ ((¬ (τ6.i 12 ((σ.i 90 l7.toNatClampNeg).toNatClampNeg)) = 0 → C_X0_gatherApplying_29 Z (d + 1) ((τ6.wi 90 ((τ6.i 84 11).toNatClampNeg) (σ.i 90 l7.toNatClampNeg)).wi 84 11 ((τ6.i 84 11) + (1 : Int32))) l2 l3 l5 0 (l7 + 1) K) ∧ ((τ6.i 12 ((σ.i 90 l7.toNatClampNeg).toNatClampNeg)) = 0 → C_X0_gatherApplying_29 Z (d + 1) ((τ6.wi 90 ((τ6.i 84 11).toNatClampNeg) (σ.i 90 l7.toNatClampNeg)).wi 84 11 ((τ6.i 84 11) + (1 : Int32))) l2 l3 l5 1 (l7 + 1) K)))))))))))) : C_X0_gatherApplying_29 Z (d + 1) σ l2 l3 l5 l6 l7 K := by
  unfold C_X0_gatherApplying_29
  refine ab_fin.s2 (i := .iload 7) (k := 2) (pc' := 31) (lv' := [(0, .ref 84), (2, .ref l2), (3, .long l3), (5, .int l5), (6, .int l6), (7, .int l7)]) (st' := [.int l7]) (by decide +kernel) rfl rfl ?_
  refine ab_fin.s2 (i := .iload 5) (k := 2) (pc' := 33) (lv' := [(0, .ref 84), (2, .ref l2), (3, .long l3), (5, .int l5), (6, .int l6), (7, .int l7)]) (st' := [.int l5, .int l7]) (by decide +kernel) rfl rfl ?_
  refine ab_fin.br (c := l5 ≤ l7) (i := .if_icmp .ge 97) (off := 97) (t := 130) (pc' := 36) (r := []) (by decide +kernel) rfl (by decide +kernel) rfl (fun q => ?_) (fun q => ?_)
  · replace w := w.1 q
    refine ab_fin.s2 (i := .iload 6) (k := 2) (pc' := 132) (lv' := [(0, .ref 84), (2, .ref l2), (3, .long l3), (5, .int l5), (6, .int l6), (7, .int l7)]) (st' := [.int l6]) (by decide +kernel) rfl rfl ?_
    exact ab_fin.q_rtN (ty := .boolean) (by decide +kernel) rfl w.1 F w.2
  · replace w := w.2 q
    refine ab_fin.s2 (i := .aload_n 0) (k := 1) (pc' := 37) (lv' := [(0, .ref 84), (2, .ref l2), (3, .long l3), (5, .int l5), (6, .int l6), (7, .int l7)]) (st' := [.ref 84]) (by decide +kernel) rfl rfl ?_
    refine ab_fin.q_rA (b := 90) (ix := 28) (ci := 1) (k := 10) (pc' := 40) (by decide +kernel) rfl (c_rA (F.s t0_84) rfl (rC_1_10 F t0_84)) rfl ?_
    refine ab_fin.s2 (i := .iload 7) (k := 2) (pc' := 42) (lv' := [(0, .ref 84), (2, .ref l2), (3, .long l3), (5, .int l5), (6, .int l6), (7, .int l7)]) (st' := [.int l7, .ref 90]) (by decide +kernel) rfl rfl ?_
    obtain ⟨e1, w⟩ := w
    refine ab_fin.q_eI (x := (σ.i 90 l7.toNatClampNeg)) (pc' := 43) (by decide +kernel) (c_eI' (F.s t0_90) e1 rfl) rfl ?_
    refine ab_fin.s2 (i := .istore 8) (k := 2) (pc' := 45) (lv' := [(8, .int (σ.i 90 l7.toNatClampNeg)), (0, .ref 84), (2, .ref l2), (3, .long l3), (5, .int l5), (6, .int l6), (7, .int l7)]) (st' := []) (by decide +kernel) rfl rfl ?_
    refine ab_fin.s2 (i := .aload_n 0) (k := 1) (pc' := 46) (lv' := [(8, .int (σ.i 90 l7.toNatClampNeg)), (0, .ref 84), (2, .ref l2), (3, .long l3), (5, .int l5), (6, .int l6), (7, .int l7)]) (st' := [.ref 84]) (by decide +kernel) rfl rfl ?_
    refine ab_fin.q_rA (b := 1) (ix := 37) (ci := 1) (k := 0) (pc' := 49) (by decide +kernel) rfl (c_rA (F.s t0_84) rfl (rC_1_0 F t0_84)) rfl ?_
    refine ab_fin.q_rA (b := 10) (ix := 97) (ci := 12) (k := 1) (pc' := 52) (by decide +kernel) rfl (c_rA (F.s t0_1) rfl (rC_12_1 F t0_1)) rfl ?_
    refine ab_fin.q_rA (b := 13) (ix := 101) (ci := 6) (k := 3) (pc' := 55) (by decide +kernel) rfl (c_rA (F.s t0_10) rfl (rC_6_3 F t0_10)) rfl ?_
    refine ab_fin.s2 (i := .iload 8) (k := 2) (pc' := 57) (lv' := [(8, .int (σ.i 90 l7.toNatClampNeg)), (0, .ref 84), (2, .ref l2), (3, .long l3), (5, .int l5), (6, .int l6), (7, .int l7)]) (st' := [.int (σ.i 90 l7.toNatClampNeg), .ref 13]) (by decide +kernel) rfl rfl ?_
    obtain ⟨e2, w⟩ := w
    refine ab_fin.q_eI (x := (σ.i 13 ((σ.i 90 l7.toNatClampNeg).toNatClampNeg))) (pc' := 58) (by decide +kernel) (c_eI' (F.s t0_13) e2 rfl) rfl ?_
    refine ab_fin.s2 (i := .lload_n 3) (k := 1) (pc' := 59) (lv' := [(8, .int (σ.i 90 l7.toNatClampNeg)), (0, .ref 84), (2, .ref l2), (3, .long l3), (5, .int l5), (6, .int l6), (7, .int l7)]) (st' := [.long l3, .int (σ.i 13 ((σ.i 90 l7.toNatClampNeg).toNatClampNeg))]) (by decide +kernel) rfl rfl ?_
    refine ab_fin.q_yI (i := .invokestatic 106) (k := 3) (y := 6) (As := [.int (σ.i 13 ((σ.i 90 l7.toNatClampNeg).toNatClampNeg)), .long l3]) (rest := []) (M' := (mX0_isOn, [])) (lv2 := [(0, .int (σ.i 13 ((σ.i 90 l7.toNatClampNeg).toNatClampNeg))), (1, .long l3)]) (pc' := 62) (X := K) (by decide +kernel) (ab_cs rfl rfl ⟨(Nat.le_of_ble_eq_true rfl), (Nat.le_of_ble_eq_true rfl)⟩ rfl) rfl (Nat.le_of_ble_eq_true rfl) rfl rfl (hY_no fun E => rfl) w (fun v5 τ3 F4 w => ?_)
    refine ab_fin.br (c := v5 = 0) (i := .ifCond .eq 62) (off := 62) (t := 124) (pc' := 65) (r := []) (by decide +kernel) rfl (by decide +kernel) rfl (fun q => ?_) (fun q => ?_)
    · replace w := w.1 q
      refine ab_fin.q_inc (n := 7) (c := 1) (pc' := 127) (lv' := [(7, .int (l7 + 1)), (8, .int (σ.i 90 l7.toNatClampNeg)), (0, .ref 84), (2, .ref l2), (3, .long l3), (5, .int l5), (6, .int l6)]) (by decide +kernel) (by decide) rfl rfl rfl rfl ?_
      refine ab_fin.s3 (i := .goto (-98)) (k := 3) (t := 29) (st' := []) (by decide +kernel) (ab_gto (by decide +kernel)) ?_
      exact ab_fin.lv ⟨(List.forall_mem_cons.mpr ⟨(List.Mem.tail _ (List.Mem.tail _ (List.Mem.head _))), (List.forall_mem_cons.mpr ⟨(List.Mem.tail _ (List.Mem.tail _ (List.Mem.tail _ (List.Mem.head _)))), (List.forall_mem_cons.mpr ⟨(List.Mem.tail _ (List.Mem.tail _ (List.Mem.tail _ (List.Mem.tail _ (List.Mem.head _))))), (List.forall_mem_cons.mpr ⟨(List.Mem.tail _ (List.Mem.tail _ (List.Mem.tail _ (List.Mem.tail _ (List.Mem.tail _ (List.Mem.head _)))))), (List.forall_mem_cons.mpr ⟨(List.Mem.tail _ (List.Mem.tail _ (List.Mem.tail _ (List.Mem.tail _ (List.Mem.tail _ (List.Mem.tail _ (List.Mem.head _))))))), (List.forall_mem_cons.mpr ⟨(List.Mem.head _), (fun _ h => absurd h List.not_mem_nil)⟩)⟩)⟩)⟩)⟩)⟩), (show ([7, 8, 0, 2, 3, 5, 6] : List Nat).Nodup from by decide)⟩ w
    · replace w := w.2 q
      refine ab_fin.s2 (i := .aload_n 0) (k := 1) (pc' := 66) (lv' := [(8, .int (σ.i 90 l7.toNatClampNeg)), (0, .ref 84), (2, .ref l2), (3, .long l3), (5, .int l5), (6, .int l6), (7, .int l7)]) (st' := [.ref 84]) (by decide +kernel) rfl rfl ?_
      refine ab_fin.s2 (i := .iload 8) (k := 2) (pc' := 68) (lv' := [(8, .int (σ.i 90 l7.toNatClampNeg)), (0, .ref 84), (2, .ref l2), (3, .long l3), (5, .int l5), (6, .int l6), (7, .int l7)]) (st' := [.int (σ.i 90 l7.toNatClampNeg), .ref 84]) (by decide +kernel) rfl rfl ?_
      refine ab_fin.s2 (i := .aload_n 2) (k := 1) (pc' := 69) (lv' := [(8, .int (σ.i 90 l7.toNatClampNeg)), (0, .ref 84), (2, .ref l2), (3, .long l3), (5, .int l5), (6, .int l6), (7, .int l7)]) (st' := [.ref l2, .int (σ.i 90 l7.toNatClampNeg), .ref 84]) (by decide +kernel) rfl rfl ?_
      refine ab_fin.q_yI (i := .invokevirtual 110) (k := 3) (y := 7) (As := [.ref 84, .int (σ.i 90 l7.toNatClampNeg), .ref l2]) (rest := []) (M' := (mX0_takes, [])) (lv2 := [(0, .ref 84), (1, .int (σ.i 90 l7.toNatClampNeg)), (2, .ref l2)]) (pc' := 72) (X := K) (by decide +kernel) (ab_cv rfl rfl (conc_get (σ := τ3) (F4.s t0_84)) ⟨(Nat.le_of_ble_eq_true rfl), (Nat.le_of_ble_eq_true rfl)⟩ rfl) rfl (Nat.le_of_ble_eq_true rfl) rfl rfl (hY_no fun E => rfl) w (fun v8 τ6 F7 w => ?_)
      refine ab_fin.br (c := v8 = 0) (i := .ifCond .eq 52) (off := 52) (t := 124) (pc' := 75) (r := []) (by decide +kernel) rfl (by decide +kernel) rfl (fun q => ?_) (fun q => ?_)
      · replace w := w.1 q
        refine ab_fin.q_inc (n := 7) (c := 1) (pc' := 127) (lv' := [(7, .int (l7 + 1)), (8, .int (σ.i 90 l7.toNatClampNeg)), (0, .ref 84), (2, .ref l2), (3, .long l3), (5, .int l5), (6, .int l6)]) (by decide +kernel) (by decide) rfl rfl rfl rfl ?_
        refine ab_fin.s3 (i := .goto (-98)) (k := 3) (t := 29) (st' := []) (by decide +kernel) (ab_gto (by decide +kernel)) ?_
        exact ab_fin.lv ⟨(List.forall_mem_cons.mpr ⟨(List.Mem.tail _ (List.Mem.tail _ (List.Mem.head _))), (List.forall_mem_cons.mpr ⟨(List.Mem.tail _ (List.Mem.tail _ (List.Mem.tail _ (List.Mem.head _)))), (List.forall_mem_cons.mpr ⟨(List.Mem.tail _ (List.Mem.tail _ (List.Mem.tail _ (List.Mem.tail _ (List.Mem.head _))))), (List.forall_mem_cons.mpr ⟨(List.Mem.tail _ (List.Mem.tail _ (List.Mem.tail _ (List.Mem.tail _ (List.Mem.tail _ (List.Mem.head _)))))), (List.forall_mem_cons.mpr ⟨(List.Mem.tail _ (List.Mem.tail _ (List.Mem.tail _ (List.Mem.tail _ (List.Mem.tail _ (List.Mem.tail _ (List.Mem.head _))))))), (List.forall_mem_cons.mpr ⟨(List.Mem.head _), (fun _ h => absurd h List.not_mem_nil)⟩)⟩)⟩)⟩)⟩)⟩), (show ([7, 8, 0, 2, 3, 5, 6] : List Nat).Nodup from by decide)⟩ w
      · replace w := w.2 q
        refine ab_fin.s2 (i := .aload_n 0) (k := 1) (pc' := 76) (lv' := [(8, .int (σ.i 90 l7.toNatClampNeg)), (0, .ref 84), (2, .ref l2), (3, .long l3), (5, .int l5), (6, .int l6), (7, .int l7)]) (st' := [.ref 84]) (by decide +kernel) rfl rfl ?_
        refine ab_fin.q_rA (b := 90) (ix := 28) (ci := 1) (k := 10) (pc' := 79) (by decide +kernel) rfl (c_rA (F7.s t0_84) rfl (rC_1_10 F7 t0_84)) rfl ?_
        refine ab_fin.s2 (i := .aload_n 0) (k := 1) (pc' := 80) (lv' := [(8, .int (σ.i 90 l7.toNatClampNeg)), (0, .ref 84), (2, .ref l2), (3, .long l3), (5, .int l5), (6, .int l6), (7, .int l7)]) (st' := [.ref 84, .ref 90]) (by decide +kernel) rfl rfl ?_
        refine ab_fin.q_rI (x := (τ6.i 84 11)) (ix := 94) (ci := 1) (k := 11) (pc' := 83) (by decide +kernel) rfl (c_rI (F7.s t0_84) rfl) rfl ?_
        refine ab_fin.s2 (i := .iload 8) (k := 2) (pc' := 85) (lv' := [(8, .int (σ.i 90 l7.toNatClampNeg)), (0, .ref 84), (2, .ref l2), (3, .long l3), (5, .int l5), (6, .int l6), (7, .int l7)]) (st' := [.int (σ.i 90 l7.toNatClampNeg), .int (τ6.i 84 11), .ref 90]) (by decide +kernel) rfl rfl ?_
        obtain ⟨e9, w⟩ := w
        refine ab_fin.q_sI (h1 := conc (τ6.wi 90 ((τ6.i 84 11).toNatClampNeg) (σ.i 90 l7.toNatClampNeg))) (pc' := 86) (by decide +kernel) (c_sI' (F7.s t0_90) e9 rfl) rfl ?_
        refine ab_fin.s2 (i := .aload_n 0) (k := 1) (pc' := 87) (lv' := [(8, .int (σ.i 90 l7.toNatClampNeg)), (0, .ref 84), (2, .ref l2), (3, .long l3), (5, .int l5), (6, .int l6), (7, .int l7)]) (st' := [.ref 84]) (by decide +kernel) rfl rfl ?_
        refine ab_fin.s1 (i := .dup) (k := 1) (pc' := 88) (st' := [.ref 84, .ref 84]) (by decide +kernel) rfl rfl ?_
        refine ab_fin.q_rI (x := (τ6.i 84 11)) (ix := 94) (ci := 1) (k := 11) (pc' := 91) (by decide +kernel) rfl (c_rI (F7.s t0_84) rfl) rfl ?_
        refine ab_fin.s1i (i := .iconst 1) (k := 1) (pc' := 92) (n := 1) (by decide +kernel) rfl (by decide +kernel) rfl ?_
        refine ab_fin.s1 (i := .iadd) (k := 1) (pc' := 93) (st' := [.int ((τ6.i 84 11) + (1 : Int32)), .ref 84]) (by decide +kernel) rfl rfl ?_
        refine ab_fin.q_pF (ix := 94) (ci := 1) (k := 11) (h1 := conc ((τ6.wi 90 ((τ6.i 84 11).toNatClampNeg) (σ.i 90 l7.toNatClampNeg)).wi 84 11 ((τ6.i 84 11) + (1 : Int32)))) (pc' := 96) (by decide +kernel) rfl (c_pI (v := ((τ6.i 84 11) + (1 : Int32))) (F7.s t0_84) rfl) rfl rfl rfl ?_
        refine ab_fin.s2 (i := .iload 6) (k := 2) (pc' := 98) (lv' := [(8, .int (σ.i 90 l7.toNatClampNeg)), (0, .ref 84), (2, .ref l2), (3, .long l3), (5, .int l5), (6, .int l6), (7, .int l7)]) (st' := [.int l6]) (by decide +kernel) rfl rfl ?_
        refine ab_fin.br (c := ¬ l6 = 0) (i := .ifCond .ne 19) (off := 19) (t := 117) (pc' := 101) (r := []) (by decide +kernel) rfl (by decide +kernel) rfl (fun q => ?_) (fun q => ?_)
        · replace w := w.1 q
          refine ab_fin.s1i (i := .iconst 1) (k := 1) (pc' := 118) (n := 1) (by decide +kernel) rfl (by decide +kernel) rfl ?_
          refine ab_fin.s3 (i := .goto 4) (k := 3) (t := 122) (st' := [.int 1]) (by decide +kernel) (ab_gto (by decide +kernel)) ?_
          refine ab_fin.s2 (i := .istore 6) (k := 2) (pc' := 124) (lv' := [(6, .int 1), (8, .int (σ.i 90 l7.toNatClampNeg)), (0, .ref 84), (2, .ref l2), (3, .long l3), (5, .int l5), (7, .int l7)]) (st' := []) (by decide +kernel) rfl rfl ?_
          refine ab_fin.q_inc (n := 7) (c := 1) (pc' := 127) (lv' := [(7, .int (l7 + 1)), (6, .int 1), (8, .int (σ.i 90 l7.toNatClampNeg)), (0, .ref 84), (2, .ref l2), (3, .long l3), (5, .int l5)]) (by decide +kernel) (by decide) rfl rfl rfl rfl ?_
          refine ab_fin.s3 (i := .goto (-98)) (k := 3) (t := 29) (st' := []) (by decide +kernel) (ab_gto (by decide +kernel)) ?_
          exact ab_fin.lv ⟨(List.forall_mem_cons.mpr ⟨(List.Mem.tail _ (List.Mem.tail _ (List.Mem.tail _ (List.Mem.head _)))), (List.forall_mem_cons.mpr ⟨(List.Mem.tail _ (List.Mem.tail _ (List.Mem.tail _ (List.Mem.tail _ (List.Mem.head _))))), (List.forall_mem_cons.mpr ⟨(List.Mem.tail _ (List.Mem.tail _ (List.Mem.tail _ (List.Mem.tail _ (List.Mem.tail _ (List.Mem.head _)))))), (List.forall_mem_cons.mpr ⟨(List.Mem.tail _ (List.Mem.tail _ (List.Mem.tail _ (List.Mem.tail _ (List.Mem.tail _ (List.Mem.tail _ (List.Mem.head _))))))), (List.forall_mem_cons.mpr ⟨(List.Mem.tail _ (List.Mem.head _)), (List.forall_mem_cons.mpr ⟨(List.Mem.head _), (fun _ h => absurd h List.not_mem_nil)⟩)⟩)⟩)⟩)⟩)⟩), (show ([7, 6, 8, 0, 2, 3, 5] : List Nat).Nodup from by decide)⟩ w
        · replace w := w.2 (Decidable.of_not_not q)
          refine ab_fin.s2 (i := .aload_n 0) (k := 1) (pc' := 102) (lv' := [(8, .int (σ.i 90 l7.toNatClampNeg)), (0, .ref 84), (2, .ref l2), (3, .long l3), (5, .int l5), (6, .int l6), (7, .int l7)]) (st' := [.ref 84]) (by decide +kernel) rfl rfl ?_
          refine ab_fin.q_rA (b := 1) (ix := 37) (ci := 1) (k := 0) (pc' := 105) (by decide +kernel) rfl (c_rA (F7.s t0_84) rfl (rC_1_0 F7 t0_84)) rfl ?_
          refine ab_fin.q_rA (b := 10) (ix := 97) (ci := 12) (k := 1) (pc' := 108) (by decide +kernel) rfl (c_rA (F7.s t0_1) rfl (rC_12_1 F7 t0_1)) rfl ?_
          refine ab_fin.q_rA (b := 12) (ix := 114) (ci := 6) (k := 2) (pc' := 111) (by decide +kernel) rfl (c_rA (F7.s t0_10) rfl (rC_6_2 F7 t0_10)) rfl ?_
          refine ab_fin.s2 (i := .iload 8) (k := 2) (pc' := 113) (lv' := [(8, .int (σ.i 90 l7.toNatClampNeg)), (0, .ref 84), (2, .ref l2), (3, .long l3), (5, .int l5), (6, .int l6), (7, .int l7)]) (st' := [.int (σ.i 90 l7.toNatClampNeg), .ref 12]) (by decide +kernel) rfl rfl ?_
          obtain ⟨e10, w⟩ := w
          refine ab_fin.q_eI (x := (τ6.i 12 ((σ.i 90 l7.toNatClampNeg).toNatClampNeg))) (pc' := 114) (by decide +kernel) (c_eI' (F7.s t0_12) e10 rfl) rfl ?_
          refine ab_fin.br (c := ¬ (τ6.i 12 ((σ.i 90 l7.toNatClampNeg).toNatClampNeg)) = 0) (i := .ifCond .ne 7) (off := 7) (t := 121) (pc' := 117) (r := []) (by decide +kernel) rfl (by decide +kernel) rfl (fun q => ?_) (fun q => ?_)
          · replace w := w.1 q
            refine ab_fin.s1i (i := .iconst 0) (k := 1) (pc' := 122) (n := 0) (by decide +kernel) rfl (by decide +kernel) rfl ?_
            refine ab_fin.s2 (i := .istore 6) (k := 2) (pc' := 124) (lv' := [(6, .int 0), (8, .int (σ.i 90 l7.toNatClampNeg)), (0, .ref 84), (2, .ref l2), (3, .long l3), (5, .int l5), (7, .int l7)]) (st' := []) (by decide +kernel) rfl rfl ?_
            refine ab_fin.q_inc (n := 7) (c := 1) (pc' := 127) (lv' := [(7, .int (l7 + 1)), (6, .int 0), (8, .int (σ.i 90 l7.toNatClampNeg)), (0, .ref 84), (2, .ref l2), (3, .long l3), (5, .int l5)]) (by decide +kernel) (by decide) rfl rfl rfl rfl ?_
            refine ab_fin.s3 (i := .goto (-98)) (k := 3) (t := 29) (st' := []) (by decide +kernel) (ab_gto (by decide +kernel)) ?_
            exact ab_fin.lv ⟨(List.forall_mem_cons.mpr ⟨(List.Mem.tail _ (List.Mem.tail _ (List.Mem.tail _ (List.Mem.head _)))), (List.forall_mem_cons.mpr ⟨(List.Mem.tail _ (List.Mem.tail _ (List.Mem.tail _ (List.Mem.tail _ (List.Mem.head _))))), (List.forall_mem_cons.mpr ⟨(List.Mem.tail _ (List.Mem.tail _ (List.Mem.tail _ (List.Mem.tail _ (List.Mem.tail _ (List.Mem.head _)))))), (List.forall_mem_cons.mpr ⟨(List.Mem.tail _ (List.Mem.tail _ (List.Mem.tail _ (List.Mem.tail _ (List.Mem.tail _ (List.Mem.tail _ (List.Mem.head _))))))), (List.forall_mem_cons.mpr ⟨(List.Mem.tail _ (List.Mem.head _)), (List.forall_mem_cons.mpr ⟨(List.Mem.head _), (fun _ h => absurd h List.not_mem_nil)⟩)⟩)⟩)⟩)⟩)⟩), (show ([7, 6, 8, 0, 2, 3, 5] : List Nat).Nodup from by decide)⟩ w
          · replace w := w.2 (Decidable.of_not_not q)
            refine ab_fin.s1i (i := .iconst 1) (k := 1) (pc' := 118) (n := 1) (by decide +kernel) rfl (by decide +kernel) rfl ?_
            refine ab_fin.s3 (i := .goto 4) (k := 3) (t := 122) (st' := [.int 1]) (by decide +kernel) (ab_gto (by decide +kernel)) ?_
            refine ab_fin.s2 (i := .istore 6) (k := 2) (pc' := 124) (lv' := [(6, .int 1), (8, .int (σ.i 90 l7.toNatClampNeg)), (0, .ref 84), (2, .ref l2), (3, .long l3), (5, .int l5), (7, .int l7)]) (st' := []) (by decide +kernel) rfl rfl ?_
            refine ab_fin.q_inc (n := 7) (c := 1) (pc' := 127) (lv' := [(7, .int (l7 + 1)), (6, .int 1), (8, .int (σ.i 90 l7.toNatClampNeg)), (0, .ref 84), (2, .ref l2), (3, .long l3), (5, .int l5)]) (by decide +kernel) (by decide) rfl rfl rfl rfl ?_
            refine ab_fin.s3 (i := .goto (-98)) (k := 3) (t := 29) (st' := []) (by decide +kernel) (ab_gto (by decide +kernel)) ?_
            exact ab_fin.lv ⟨(List.forall_mem_cons.mpr ⟨(List.Mem.tail _ (List.Mem.tail _ (List.Mem.tail _ (List.Mem.head _)))), (List.forall_mem_cons.mpr ⟨(List.Mem.tail _ (List.Mem.tail _ (List.Mem.tail _ (List.Mem.tail _ (List.Mem.head _))))), (List.forall_mem_cons.mpr ⟨(List.Mem.tail _ (List.Mem.tail _ (List.Mem.tail _ (List.Mem.tail _ (List.Mem.tail _ (List.Mem.head _)))))), (List.forall_mem_cons.mpr ⟨(List.Mem.tail _ (List.Mem.tail _ (List.Mem.tail _ (List.Mem.tail _ (List.Mem.tail _ (List.Mem.tail _ (List.Mem.head _))))))), (List.forall_mem_cons.mpr ⟨(List.Mem.tail _ (List.Mem.head _)), (List.forall_mem_cons.mpr ⟨(List.Mem.head _), (fun _ h => absurd h List.not_mem_nil)⟩)⟩)⟩)⟩)⟩)⟩), (show ([7, 6, 8, 0, 2, 3, 5] : List Nat).Nodup from by decide)⟩ w
theorem T_X0_isOn_0 {Z : zT} {d : Nat} {σ : Sg} {l0 : Int32} {l1 : Int64} {K : kS} (F : FX ΦC σ.sh σ.r) (w : (0 ≤ l0 → C_X0_isOn_8 Z (d + 1) σ l0 l1 0 K) ∧ (¬ 0 ≤ l0 → K (.inl (some (.int 1))) σ)) : C_X0_isOn_0 Z (d + 1) σ l0 l1 K := by
  unfold C_X0_isOn_0
  refine ab_fin.s2 (i := .iload_n 0) (k := 1) (pc' := 1) (lv' := [(0, .int l0), (1, .long l1)]) (st' := [.int l0]) (by decide +kernel) rfl rfl ?_
  refine ab_fin.br (c := 0 ≤ l0) (i := .ifCond .ge 5) (off := 5) (t := 6) (pc' := 4) (r := []) (by decide +kernel) rfl (by decide +kernel) rfl (fun q => ?_) (fun q => ?_)
  · replace w := w.1 q
    refine ab_fin.s1i (i := .iconst 0) (k := 1) (pc' := 7) (n := 0) (by decide +kernel) rfl (by decide +kernel) rfl ?_
    refine ab_fin.s2 (i := .istore_n 3) (k := 1) (pc' := 8) (lv' := [(3, .int 0), (0, .int l0), (1, .long l1)]) (st' := []) (by decide +kernel) rfl rfl ?_
    exact ab_fin.lv ⟨(List.forall_mem_cons.mpr ⟨(List.Mem.tail _ (List.Mem.head _)), (List.forall_mem_cons.mpr ⟨(List.Mem.tail _ (List.Mem.tail _ (List.Mem.head _))), (List.forall_mem_cons.mpr ⟨(List.Mem.head _), (fun _ h => absurd h List.not_mem_nil)⟩)⟩)⟩), (show ([3, 0, 1] : List Nat).Nodup from by decide)⟩ w
  · replace w := w.2 q
    refine ab_fin.s1i (i := .iconst 1) (k := 1) (pc' := 5) (n := 1) (by decide +kernel) rfl (by decide +kernel) rfl ?_
    exact ab_fin.q_ret (i := .ireturn) (k := 1) (v := some (.int 1)) (by decide +kernel) rfl F w
theorem T_X0_isOn_8 {Z : zT} {d : Nat} {σ : Sg} {l0 : Int32} {l1 : Int64} {l3 : Int32} {K : kS} (F : FX ΦC σ.sh σ.r) (w : (32 ≤ l3 → K (.inl (some (.int 0))) σ) ∧ (¬ 32 ≤ l3 → (¬ (lg_cmp (((Int64.toUInt64 l1 >>> ((Int32.toInt64 l3).toUInt64 &&& Int64.toUInt64 63)).toInt64) &&& (15 : Int64)) ((Int32.toInt64 (l0 + (1 : Int32))))) = 0 → C_X0_isOn_8 Z (d + 1) σ l0 l1 (l3 + 4) K) ∧ ((lg_cmp (((Int64.toUInt64 l1 >>> ((Int32.toInt64 l3).toUInt64 &&& Int64.toUInt64 63)).toInt64) &&& (15 : Int64)) ((Int32.toInt64 (l0 + (1 : Int32))))) = 0 → K (.inl (some (.int 1))) σ))) : C_X0_isOn_8 Z (d + 1) σ l0 l1 l3 K := by
  unfold C_X0_isOn_8
  refine ab_fin.s2 (i := .iload_n 3) (k := 1) (pc' := 9) (lv' := [(0, .int l0), (1, .long l1), (3, .int l3)]) (st' := [.int l3]) (by decide +kernel) rfl rfl ?_
  refine ab_fin.s1i (i := .bipush 32) (k := 2) (pc' := 11) (n := 32) (by decide +kernel) rfl (by decide +kernel) rfl ?_
  refine ab_fin.br (c := 32 ≤ l3) (i := .if_icmp .ge 26) (off := 26) (t := 37) (pc' := 14) (r := []) (by decide +kernel) rfl (by decide +kernel) rfl (fun q => ?_) (fun q => ?_)
  · replace w := w.1 q
    refine ab_fin.s1i (i := .iconst 0) (k := 1) (pc' := 38) (n := 0) (by decide +kernel) rfl (by decide +kernel) rfl ?_
    exact ab_fin.q_ret (i := .ireturn) (k := 1) (v := some (.int 0)) (by decide +kernel) rfl F w
  · replace w := w.2 q
    refine ab_fin.s2 (i := .lload_n 1) (k := 1) (pc' := 15) (lv' := [(0, .int l0), (1, .long l1), (3, .int l3)]) (st' := [.long l1]) (by decide +kernel) rfl rfl ?_
    refine ab_fin.s2 (i := .iload_n 3) (k := 1) (pc' := 16) (lv' := [(0, .int l0), (1, .long l1), (3, .int l3)]) (st' := [.int l3, .long l1]) (by decide +kernel) rfl rfl ?_
    refine ab_fin.s1 (i := .lushr) (k := 1) (pc' := 17) (st' := [.long ((Int64.toUInt64 l1 >>> ((Int32.toInt64 l3).toUInt64 &&& Int64.toUInt64 63)).toInt64)]) (by decide +kernel) rfl rfl ?_
    refine ab_fin.s7 (i := .ldc2_w 80) (k := 3) (pc' := 20) (st' := [.long 15, .long ((Int64.toUInt64 l1 >>> ((Int32.toInt64 l3).toUInt64 &&& Int64.toUInt64 63)).toInt64)]) (by decide +kernel) rfl rfl ?_
    refine ab_fin.s1 (i := .land) (k := 1) (pc' := 21) (st' := [.long (((Int64.toUInt64 l1 >>> ((Int32.toInt64 l3).toUInt64 &&& Int64.toUInt64 63)).toInt64) &&& (15 : Int64))]) (by decide +kernel) rfl rfl ?_
    refine ab_fin.s2 (i := .iload_n 0) (k := 1) (pc' := 22) (lv' := [(0, .int l0), (1, .long l1), (3, .int l3)]) (st' := [.int l0, .long (((Int64.toUInt64 l1 >>> ((Int32.toInt64 l3).toUInt64 &&& Int64.toUInt64 63)).toInt64) &&& (15 : Int64))]) (by decide +kernel) rfl rfl ?_
    refine ab_fin.s1i (i := .iconst 1) (k := 1) (pc' := 23) (n := 1) (by decide +kernel) rfl (by decide +kernel) rfl ?_
    refine ab_fin.s1 (i := .iadd) (k := 1) (pc' := 24) (st' := [.int (l0 + (1 : Int32)), .long (((Int64.toUInt64 l1 >>> ((Int32.toInt64 l3).toUInt64 &&& Int64.toUInt64 63)).toInt64) &&& (15 : Int64))]) (by decide +kernel) rfl rfl ?_
    refine ab_fin.s1 (i := .i2l) (k := 1) (pc' := 25) (st' := [.long ((Int32.toInt64 (l0 + (1 : Int32)))), .long (((Int64.toUInt64 l1 >>> ((Int32.toInt64 l3).toUInt64 &&& Int64.toUInt64 63)).toInt64) &&& (15 : Int64))]) (by decide +kernel) rfl rfl ?_
    refine ab_fin.s1 (i := .lcmp) (k := 1) (pc' := 26) (st' := [.int (lg_cmp (((Int64.toUInt64 l1 >>> ((Int32.toInt64 l3).toUInt64 &&& Int64.toUInt64 63)).toInt64) &&& (15 : Int64)) ((Int32.toInt64 (l0 + (1 : Int32)))))]) (by decide +kernel) rfl rfl ?_
    refine ab_fin.br (c := ¬ (lg_cmp (((Int64.toUInt64 l1 >>> ((Int32.toInt64 l3).toUInt64 &&& Int64.toUInt64 63)).toInt64) &&& (15 : Int64)) ((Int32.toInt64 (l0 + (1 : Int32))))) = 0) (i := .ifCond .ne 5) (off := 5) (t := 31) (pc' := 29) (r := []) (by decide +kernel) rfl (by decide +kernel) rfl (fun q => ?_) (fun q => ?_)
    · replace w := w.1 q
      refine ab_fin.q_inc (n := 3) (c := 4) (pc' := 34) (lv' := [(3, .int (l3 + 4)), (0, .int l0), (1, .long l1)]) (by decide +kernel) (by decide) rfl rfl rfl rfl ?_
      refine ab_fin.s3 (i := .goto (-26)) (k := 3) (t := 8) (st' := []) (by decide +kernel) (ab_gto (by decide +kernel)) ?_
      exact ab_fin.lv ⟨(List.forall_mem_cons.mpr ⟨(List.Mem.tail _ (List.Mem.head _)), (List.forall_mem_cons.mpr ⟨(List.Mem.tail _ (List.Mem.tail _ (List.Mem.head _))), (List.forall_mem_cons.mpr ⟨(List.Mem.head _), (fun _ h => absurd h List.not_mem_nil)⟩)⟩)⟩), (show ([3, 0, 1] : List Nat).Nodup from by decide)⟩ w
    · replace w := w.2 (Decidable.of_not_not q)
      refine ab_fin.s1i (i := .iconst 1) (k := 1) (pc' := 30) (n := 1) (by decide +kernel) rfl (by decide +kernel) rfl ?_
      exact ab_fin.q_ret (i := .ireturn) (k := 1) (v := some (.int 1)) (by decide +kernel) rfl F w
theorem T_X0_takes_0 {Z : zT} {d : Nat} {σ : Sg} {l1 : Int32} {l2 : Nat} {K : kS} (F : FX ΦC σ.sh σ.r) (w : C_X0_takes_11 Z (d + 1) σ l1 l2 0 K) : C_X0_takes_0 Z (d + 1) σ l1 l2 K := by
  unfold C_X0_takes_0
  refine ab_fin.s2 (i := .aload_n 0) (k := 1) (pc' := 1) (lv' := [(0, .ref 84), (1, .int l1), (2, .ref l2)]) (st' := [.ref 84]) (by decide +kernel) rfl rfl ?_
  refine ab_fin.q_rA (b := 1) (ix := 37) (ci := 1) (k := 0) (pc' := 4) (by decide +kernel) rfl (c_rA (F.s t0_84) rfl (rC_1_0 F t0_84)) rfl ?_
  refine ab_fin.q_rA (b := 10) (ix := 97) (ci := 12) (k := 1) (pc' := 7) (by decide +kernel) rfl (c_rA (F.s t0_1) rfl (rC_12_1 F t0_1)) rfl ?_
  refine ab_fin.s2 (i := .astore_n 3) (k := 1) (pc' := 8) (lv' := [(3, .ref 10), (0, .ref 84), (1, .int l1), (2, .ref l2)]) (st' := []) (by decide +kernel) rfl rfl ?_
  refine ab_fin.s1i (i := .iconst 0) (k := 1) (pc' := 9) (n := 0) (by decide +kernel) rfl (by decide +kernel) rfl ?_
  refine ab_fin.s2 (i := .istore 4) (k := 2) (pc' := 11) (lv' := [(4, .int 0), (3, .ref 10), (0, .ref 84), (1, .int l1), (2, .ref l2)]) (st' := []) (by decide +kernel) rfl rfl ?_
  exact ab_fin.lv ⟨(List.forall_mem_cons.mpr ⟨(List.Mem.tail _ (List.Mem.tail _ (List.Mem.head _))), (List.forall_mem_cons.mpr ⟨(List.Mem.tail _ (List.Mem.tail _ (List.Mem.tail _ (List.Mem.head _)))), (List.forall_mem_cons.mpr ⟨(List.Mem.tail _ (List.Mem.tail _ (List.Mem.tail _ (List.Mem.tail _ (List.Mem.head _))))), (List.forall_mem_cons.mpr ⟨(List.Mem.tail _ (List.Mem.head _)), (List.forall_mem_cons.mpr ⟨(List.Mem.head _), (fun _ h => absurd h List.not_mem_nil)⟩)⟩)⟩)⟩)⟩), (show ([4, 3, 0, 1, 2] : List Nat).Nodup from by decide)⟩ w
theorem T_X0_takes_11 {Z : zT} {d : Nat} {σ : Sg} {l1 : Int32} {l2 : Nat} {l4 : Int32} {K : kS} (F : FX ΦC σ.sh σ.r) (w : (3 ≤ l4 → C_X0_takes_64 Z (d + 1) σ l1 l2 0 0 K) ∧ (¬ 3 ≤ l4 → ib ((l1 * (3 : Int32)) + l4) 366 ∧ (((σ.i 16 (((l1 * (3 : Int32)) + l4).toNatClampNeg)) = 0 → C_X0_takes_11 Z (d + 1) σ l1 l2 (l4 + 1) K) ∧ (¬ (σ.i 16 (((l1 * (3 : Int32)) + l4).toNatClampNeg)) = 0 → ib ((l1 * (3 : Int32)) + l4) 366 ∧ (∃ n4, σ.sh[l2]? = some (Sh.arr 1 n4) ∧ (ib l4 n4 ∧ (((σ.i 17 (((l1 * (3 : Int32)) + l4).toNatClampNeg)) = ((Int64.toInt32 (σ.l l2 l4.toNatClampNeg))) → C_X0_takes_11 Z (d + 1) σ l1 l2 (l4 + 1) K) ∧ (¬ (σ.i 17 (((l1 * (3 : Int32)) + l4).toNatClampNeg)) = ((Int64.toInt32 (σ.l l2 l4.toNatClampNeg))) → K (.inl (some (.int 0))) σ)))))))) : C_X0_takes_11 Z (d + 1) σ l1 l2 l4 K := by
  unfold C_X0_takes_11
  refine ab_fin.s2 (i := .iload 4) (k := 2) (pc' := 13) (lv' := [(0, .ref 84), (1, .int l1), (2, .ref l2), (3, .ref 10), (4, .int l4)]) (st' := [.int l4]) (by decide +kernel) rfl rfl ?_
  refine ab_fin.s1i (i := .iconst 3) (k := 1) (pc' := 14) (n := 3) (by decide +kernel) rfl (by decide +kernel) rfl ?_
  refine ab_fin.br (c := 3 ≤ l4) (i := .if_icmp .ge 44) (off := 44) (t := 58) (pc' := 17) (r := []) (by decide +kernel) rfl (by decide +kernel) rfl (fun q => ?_) (fun q => ?_)
  · replace w := w.1 q
    refine ab_fin.s1i (i := .iconst 0) (k := 1) (pc' := 59) (n := 0) (by decide +kernel) rfl (by decide +kernel) rfl ?_
    refine ab_fin.s2 (i := .istore 4) (k := 2) (pc' := 61) (lv' := [(4, .int 0), (0, .ref 84), (1, .int l1), (2, .ref l2), (3, .ref 10)]) (st' := []) (by decide +kernel) rfl rfl ?_
    refine ab_fin.s1i (i := .iconst 0) (k := 1) (pc' := 62) (n := 0) (by decide +kernel) rfl (by decide +kernel) rfl ?_
    refine ab_fin.s2 (i := .istore 5) (k := 2) (pc' := 64) (lv' := [(5, .int 0), (4, .int 0), (0, .ref 84), (1, .int l1), (2, .ref l2), (3, .ref 10)]) (st' := []) (by decide +kernel) rfl rfl ?_
    exact ab_fin.lv ⟨(List.forall_mem_cons.mpr ⟨(List.Mem.tail _ (List.Mem.tail _ (List.Mem.head _))), (List.forall_mem_cons.mpr ⟨(List.Mem.tail _ (List.Mem.tail _ (List.Mem.tail _ (List.Mem.head _)))), (List.forall_mem_cons.mpr ⟨(List.Mem.tail _ (List.Mem.tail _ (List.Mem.tail _ (List.Mem.tail _ (List.Mem.head _))))), (List.forall_mem_cons.mpr ⟨(List.Mem.tail _ (List.Mem.tail _ (List.Mem.tail _ (List.Mem.tail _ (List.Mem.tail _ (List.Mem.head _)))))), (List.forall_mem_cons.mpr ⟨(List.Mem.tail _ (List.Mem.head _)), (List.forall_mem_cons.mpr ⟨(List.Mem.head _), (fun _ h => absurd h List.not_mem_nil)⟩)⟩)⟩)⟩)⟩)⟩), (show ([5, 4, 0, 1, 2, 3] : List Nat).Nodup from by decide)⟩ w
  · replace w := w.2 q
    refine ab_fin.s2 (i := .aload_n 3) (k := 1) (pc' := 18) (lv' := [(0, .ref 84), (1, .int l1), (2, .ref l2), (3, .ref 10), (4, .int l4)]) (st' := [.ref 10]) (by decide +kernel) rfl rfl ?_
    refine ab_fin.q_rA (b := 16) (ix := 117) (ci := 6) (k := 6) (pc' := 21) (by decide +kernel) rfl (c_rA (F.s t0_10) rfl (rC_6_6 F t0_10)) rfl ?_
    refine ab_fin.s2 (i := .iload_n 1) (k := 1) (pc' := 22) (lv' := [(0, .ref 84), (1, .int l1), (2, .ref l2), (3, .ref 10), (4, .int l4)]) (st' := [.int l1, .ref 16]) (by decide +kernel) rfl rfl ?_
    refine ab_fin.s1i (i := .iconst 3) (k := 1) (pc' := 23) (n := 3) (by decide +kernel) rfl (by decide +kernel) rfl ?_
    refine ab_fin.s1 (i := .imul) (k := 1) (pc' := 24) (st' := [.int (l1 * (3 : Int32)), .ref 16]) (by decide +kernel) rfl rfl ?_
    refine ab_fin.s2 (i := .iload 4) (k := 2) (pc' := 26) (lv' := [(0, .ref 84), (1, .int l1), (2, .ref l2), (3, .ref 10), (4, .int l4)]) (st' := [.int l4, .int (l1 * (3 : Int32)), .ref 16]) (by decide +kernel) rfl rfl ?_
    refine ab_fin.s1 (i := .iadd) (k := 1) (pc' := 27) (st' := [.int ((l1 * (3 : Int32)) + l4), .ref 16]) (by decide +kernel) rfl rfl ?_
    obtain ⟨e1, w⟩ := w
    refine ab_fin.q_eB (x := (σ.i 16 (((l1 * (3 : Int32)) + l4).toNatClampNeg))) (pc' := 28) (by decide +kernel) (c_eB3' (F.s t0_16) e1 rfl) rfl ?_
    refine ab_fin.br (c := (σ.i 16 (((l1 * (3 : Int32)) + l4).toNatClampNeg)) = 0) (i := .ifCond .eq 24) (off := 24) (t := 52) (pc' := 31) (r := []) (by decide +kernel) rfl (by decide +kernel) rfl (fun q => ?_) (fun q => ?_)
    · replace w := w.1 q
      refine ab_fin.q_inc (n := 4) (c := 1) (pc' := 55) (lv' := [(4, .int (l4 + 1)), (0, .ref 84), (1, .int l1), (2, .ref l2), (3, .ref 10)]) (by decide +kernel) (by decide) rfl rfl rfl rfl ?_
      refine ab_fin.s3 (i := .goto (-44)) (k := 3) (t := 11) (st' := []) (by decide +kernel) (ab_gto (by decide +kernel)) ?_
      exact ab_fin.lv ⟨(List.forall_mem_cons.mpr ⟨(List.Mem.tail _ (List.Mem.head _)), (List.forall_mem_cons.mpr ⟨(List.Mem.tail _ (List.Mem.tail _ (List.Mem.head _))), (List.forall_mem_cons.mpr ⟨(List.Mem.tail _ (List.Mem.tail _ (List.Mem.tail _ (List.Mem.head _)))), (List.forall_mem_cons.mpr ⟨(List.Mem.tail _ (List.Mem.tail _ (List.Mem.tail _ (List.Mem.tail _ (List.Mem.head _))))), (List.forall_mem_cons.mpr ⟨(List.Mem.head _), (fun _ h => absurd h List.not_mem_nil)⟩)⟩)⟩)⟩)⟩), (show ([4, 0, 1, 2, 3] : List Nat).Nodup from by decide)⟩ w
    · replace w := w.2 q
      refine ab_fin.s2 (i := .aload_n 3) (k := 1) (pc' := 32) (lv' := [(0, .ref 84), (1, .int l1), (2, .ref l2), (3, .ref 10), (4, .int l4)]) (st' := [.ref 10]) (by decide +kernel) rfl rfl ?_
      refine ab_fin.q_rA (b := 17) (ix := 120) (ci := 6) (k := 7) (pc' := 35) (by decide +kernel) rfl (c_rA (F.s t0_10) rfl (rC_6_7 F t0_10)) rfl ?_
      refine ab_fin.s2 (i := .iload_n 1) (k := 1) (pc' := 36) (lv' := [(0, .ref 84), (1, .int l1), (2, .ref l2), (3, .ref 10), (4, .int l4)]) (st' := [.int l1, .ref 17]) (by decide +kernel) rfl rfl ?_
      refine ab_fin.s1i (i := .iconst 3) (k := 1) (pc' := 37) (n := 3) (by decide +kernel) rfl (by decide +kernel) rfl ?_
      refine ab_fin.s1 (i := .imul) (k := 1) (pc' := 38) (st' := [.int (l1 * (3 : Int32)), .ref 17]) (by decide +kernel) rfl rfl ?_
      refine ab_fin.s2 (i := .iload 4) (k := 2) (pc' := 40) (lv' := [(0, .ref 84), (1, .int l1), (2, .ref l2), (3, .ref 10), (4, .int l4)]) (st' := [.int l4, .int (l1 * (3 : Int32)), .ref 17]) (by decide +kernel) rfl rfl ?_
      refine ab_fin.s1 (i := .iadd) (k := 1) (pc' := 41) (st' := [.int ((l1 * (3 : Int32)) + l4), .ref 17]) (by decide +kernel) rfl rfl ?_
      obtain ⟨e2, w⟩ := w
      refine ab_fin.q_eI (x := (σ.i 17 (((l1 * (3 : Int32)) + l4).toNatClampNeg))) (pc' := 42) (by decide +kernel) (c_eI' (F.s t0_17) e2 rfl) rfl ?_
      refine ab_fin.s2 (i := .aload_n 2) (k := 1) (pc' := 43) (lv' := [(0, .ref 84), (1, .int l1), (2, .ref l2), (3, .ref 10), (4, .int l4)]) (st' := [.ref l2, .int (σ.i 17 (((l1 * (3 : Int32)) + l4).toNatClampNeg))]) (by decide +kernel) rfl rfl ?_
      refine ab_fin.s2 (i := .iload 4) (k := 2) (pc' := 45) (lv' := [(0, .ref 84), (1, .int l1), (2, .ref l2), (3, .ref 10), (4, .int l4)]) (st' := [.int l4, .ref l2, .int (σ.i 17 (((l1 * (3 : Int32)) + l4).toNatClampNeg))]) (by decide +kernel) rfl rfl ?_
      obtain ⟨n4, e3, w⟩ := w
      obtain ⟨e5, w⟩ := w
      refine ab_fin.q_eL (x := (σ.l l2 l4.toNatClampNeg)) (pc' := 46) (by decide +kernel) (c_eL' e3 e5 rfl) rfl ?_
      refine ab_fin.s1 (i := .l2i) (k := 1) (pc' := 47) (st' := [.int ((Int64.toInt32 (σ.l l2 l4.toNatClampNeg))), .int (σ.i 17 (((l1 * (3 : Int32)) + l4).toNatClampNeg))]) (by decide +kernel) rfl rfl ?_
      refine ab_fin.br (c := (σ.i 17 (((l1 * (3 : Int32)) + l4).toNatClampNeg)) = ((Int64.toInt32 (σ.l l2 l4.toNatClampNeg)))) (i := .if_icmp .eq 5) (off := 5) (t := 52) (pc' := 50) (r := []) (by decide +kernel) rfl (by decide +kernel) rfl (fun q => ?_) (fun q => ?_)
      · replace w := w.1 q
        refine ab_fin.q_inc (n := 4) (c := 1) (pc' := 55) (lv' := [(4, .int (l4 + 1)), (0, .ref 84), (1, .int l1), (2, .ref l2), (3, .ref 10)]) (by decide +kernel) (by decide) rfl rfl rfl rfl ?_
        refine ab_fin.s3 (i := .goto (-44)) (k := 3) (t := 11) (st' := []) (by decide +kernel) (ab_gto (by decide +kernel)) ?_
        exact ab_fin.lv ⟨(List.forall_mem_cons.mpr ⟨(List.Mem.tail _ (List.Mem.head _)), (List.forall_mem_cons.mpr ⟨(List.Mem.tail _ (List.Mem.tail _ (List.Mem.head _))), (List.forall_mem_cons.mpr ⟨(List.Mem.tail _ (List.Mem.tail _ (List.Mem.tail _ (List.Mem.head _)))), (List.forall_mem_cons.mpr ⟨(List.Mem.tail _ (List.Mem.tail _ (List.Mem.tail _ (List.Mem.tail _ (List.Mem.head _))))), (List.forall_mem_cons.mpr ⟨(List.Mem.head _), (fun _ h => absurd h List.not_mem_nil)⟩)⟩)⟩)⟩)⟩), (show ([4, 0, 1, 2, 3] : List Nat).Nodup from by decide)⟩ w
      · replace w := w.2 q
        refine ab_fin.s1i (i := .iconst 0) (k := 1) (pc' := 51) (n := 0) (by decide +kernel) rfl (by decide +kernel) rfl ?_
        exact ab_fin.q_ret (i := .ireturn) (k := 1) (v := some (.int 0)) (by decide +kernel) rfl F w
theorem T_X0_takes_64 {Z : zT} {d : Nat} {σ : Sg} {l1 : Int32} {l2 : Nat} {l4 : Int32} {l5 : Int32} {K : kS} (F : FX ΦC σ.sh σ.r) (w : ib l1 122 ∧ (((σ.i 18 l1.toNatClampNeg) ≤ l5 → ib l1 122 ∧ (((lg_cmp (((Int64.toUInt64 (σ.l 23 l1.toNatClampNeg) >>> ((Int32.toInt64 l4).toUInt64 &&& Int64.toUInt64 63)).toInt64) &&& (1 : Int64)) (0 : Int64)) = 0 → K (.inl (some (.int 0))) σ) ∧ (¬ (lg_cmp (((Int64.toUInt64 (σ.l 23 l1.toNatClampNeg) >>> ((Int32.toInt64 l4).toUInt64 &&& Int64.toUInt64 63)).toInt64) &&& (1 : Int64)) (0 : Int64)) = 0 → K (.inl (some (.int 1))) σ))) ∧ (¬ (σ.i 18 l1.toNatClampNeg) ≤ l5 → C_X0_holds_0 Z d σ ((l1 * (6 : Int32)) + l5) l2 (yI K fun v5 τ3 => (v5 = 0 → C_X0_takes_64 Z (d + 1) τ3 l1 l2 l4 (l5 + 1) K) ∧ (¬ v5 = 0 → C_X0_takes_64 Z (d + 1) τ3 l1 l2 (l4 ||| ((1 : Int32) <<< (l5 &&& 31))) (l5 + 1) K))))) : C_X0_takes_64 Z (d + 1) σ l1 l2 l4 l5 K := by
  unfold C_X0_takes_64
  refine ab_fin.s2 (i := .iload 5) (k := 2) (pc' := 66) (lv' := [(0, .ref 84), (1, .int l1), (2, .ref l2), (3, .ref 10), (4, .int l4), (5, .int l5)]) (st' := [.int l5]) (by decide +kernel) rfl rfl ?_
  refine ab_fin.s2 (i := .aload_n 3) (k := 1) (pc' := 67) (lv' := [(0, .ref 84), (1, .int l1), (2, .ref l2), (3, .ref 10), (4, .int l4), (5, .int l5)]) (st' := [.ref 10, .int l5]) (by decide +kernel) rfl rfl ?_
  refine ab_fin.q_rA (b := 18) (ix := 123) (ci := 6) (k := 8) (pc' := 70) (by decide +kernel) rfl (c_rA (F.s t0_10) rfl (rC_6_8 F t0_10)) rfl ?_
  refine ab_fin.s2 (i := .iload_n 1) (k := 1) (pc' := 71) (lv' := [(0, .ref 84), (1, .int l1), (2, .ref l2), (3, .ref 10), (4, .int l4), (5, .int l5)]) (st' := [.int l1, .ref 18, .int l5]) (by decide +kernel) rfl rfl ?_
  obtain ⟨e1, w⟩ := w
  refine ab_fin.q_eI (x := (σ.i 18 l1.toNatClampNeg)) (pc' := 72) (by decide +kernel) (c_eI' (F.s t0_18) e1 rfl) rfl ?_
  refine ab_fin.br (c := (σ.i 18 l1.toNatClampNeg) ≤ l5) (i := .if_icmp .ge 33) (off := 33) (t := 105) (pc' := 75) (r := []) (by decide +kernel) rfl (by decide +kernel) rfl (fun q => ?_) (fun q => ?_)
  · replace w := w.1 q
    refine ab_fin.s2 (i := .aload_n 3) (k := 1) (pc' := 106) (lv' := [(0, .ref 84), (1, .int l1), (2, .ref l2), (3, .ref 10), (4, .int l4), (5, .int l5)]) (st' := [.ref 10]) (by decide +kernel) rfl rfl ?_
    refine ab_fin.q_rA (b := 23) (ix := 129) (ci := 6) (k := 13) (pc' := 109) (by decide +kernel) rfl (c_rA (F.s t0_10) rfl (rC_6_13 F t0_10)) rfl ?_
    refine ab_fin.s2 (i := .iload_n 1) (k := 1) (pc' := 110) (lv' := [(0, .ref 84), (1, .int l1), (2, .ref l2), (3, .ref 10), (4, .int l4), (5, .int l5)]) (st' := [.int l1, .ref 23]) (by decide +kernel) rfl rfl ?_
    obtain ⟨e2, w⟩ := w
    refine ab_fin.q_eL (x := (σ.l 23 l1.toNatClampNeg)) (pc' := 111) (by decide +kernel) (c_eL' (F.s t0_23) e2 rfl) rfl ?_
    refine ab_fin.s2 (i := .iload 4) (k := 2) (pc' := 113) (lv' := [(0, .ref 84), (1, .int l1), (2, .ref l2), (3, .ref 10), (4, .int l4), (5, .int l5)]) (st' := [.int l4, .long (σ.l 23 l1.toNatClampNeg)]) (by decide +kernel) rfl rfl ?_
    refine ab_fin.s1 (i := .lushr) (k := 1) (pc' := 114) (st' := [.long ((Int64.toUInt64 (σ.l 23 l1.toNatClampNeg) >>> ((Int32.toInt64 l4).toUInt64 &&& Int64.toUInt64 63)).toInt64)]) (by decide +kernel) rfl rfl ?_
    refine ab_fin.s1l (i := .lconst 1) (k := 1) (pc' := 115) (n := 1) (by decide +kernel) rfl (by decide +kernel) rfl ?_
    refine ab_fin.s1 (i := .land) (k := 1) (pc' := 116) (st' := [.long (((Int64.toUInt64 (σ.l 23 l1.toNatClampNeg) >>> ((Int32.toInt64 l4).toUInt64 &&& Int64.toUInt64 63)).toInt64) &&& (1 : Int64))]) (by decide +kernel) rfl rfl ?_
    refine ab_fin.s1l (i := .lconst 0) (k := 1) (pc' := 117) (n := 0) (by decide +kernel) rfl (by decide +kernel) rfl ?_
    refine ab_fin.s1 (i := .lcmp) (k := 1) (pc' := 118) (st' := [.int (lg_cmp (((Int64.toUInt64 (σ.l 23 l1.toNatClampNeg) >>> ((Int32.toInt64 l4).toUInt64 &&& Int64.toUInt64 63)).toInt64) &&& (1 : Int64)) (0 : Int64))]) (by decide +kernel) rfl rfl ?_
    refine ab_fin.br (c := (lg_cmp (((Int64.toUInt64 (σ.l 23 l1.toNatClampNeg) >>> ((Int32.toInt64 l4).toUInt64 &&& Int64.toUInt64 63)).toInt64) &&& (1 : Int64)) (0 : Int64)) = 0) (i := .ifCond .eq 7) (off := 7) (t := 125) (pc' := 121) (r := []) (by decide +kernel) rfl (by decide +kernel) rfl (fun q => ?_) (fun q => ?_)
    · replace w := w.1 q
      refine ab_fin.s1i (i := .iconst 0) (k := 1) (pc' := 126) (n := 0) (by decide +kernel) rfl (by decide +kernel) rfl ?_
      exact ab_fin.q_ret (i := .ireturn) (k := 1) (v := some (.int 0)) (by decide +kernel) rfl F w
    · replace w := w.2 q
      refine ab_fin.s1i (i := .iconst 1) (k := 1) (pc' := 122) (n := 1) (by decide +kernel) rfl (by decide +kernel) rfl ?_
      refine ab_fin.s3 (i := .goto 4) (k := 3) (t := 126) (st' := [.int 1]) (by decide +kernel) (ab_gto (by decide +kernel)) ?_
      exact ab_fin.q_ret (i := .ireturn) (k := 1) (v := some (.int 1)) (by decide +kernel) rfl F w
  · replace w := w.2 q
    refine ab_fin.s2 (i := .aload_n 0) (k := 1) (pc' := 76) (lv' := [(0, .ref 84), (1, .int l1), (2, .ref l2), (3, .ref 10), (4, .int l4), (5, .int l5)]) (st' := [.ref 84]) (by decide +kernel) rfl rfl ?_
    refine ab_fin.s2 (i := .iload_n 1) (k := 1) (pc' := 77) (lv' := [(0, .ref 84), (1, .int l1), (2, .ref l2), (3, .ref 10), (4, .int l4), (5, .int l5)]) (st' := [.int l1, .ref 84]) (by decide +kernel) rfl rfl ?_
    refine ab_fin.s1i (i := .bipush 6) (k := 2) (pc' := 79) (n := 6) (by decide +kernel) rfl (by decide +kernel) rfl ?_
    refine ab_fin.s1 (i := .imul) (k := 1) (pc' := 80) (st' := [.int (l1 * (6 : Int32)), .ref 84]) (by decide +kernel) rfl rfl ?_
    refine ab_fin.s2 (i := .iload 5) (k := 2) (pc' := 82) (lv' := [(0, .ref 84), (1, .int l1), (2, .ref l2), (3, .ref 10), (4, .int l4), (5, .int l5)]) (st' := [.int l5, .int (l1 * (6 : Int32)), .ref 84]) (by decide +kernel) rfl rfl ?_
    refine ab_fin.s1 (i := .iadd) (k := 1) (pc' := 83) (st' := [.int ((l1 * (6 : Int32)) + l5), .ref 84]) (by decide +kernel) rfl rfl ?_
    refine ab_fin.s2 (i := .aload_n 2) (k := 1) (pc' := 84) (lv' := [(0, .ref 84), (1, .int l1), (2, .ref l2), (3, .ref 10), (4, .int l4), (5, .int l5)]) (st' := [.ref l2, .int ((l1 * (6 : Int32)) + l5), .ref 84]) (by decide +kernel) rfl rfl ?_
    refine ab_fin.q_yI (i := .invokevirtual 126) (k := 3) (y := 8) (As := [.ref 84, .int ((l1 * (6 : Int32)) + l5), .ref l2]) (rest := []) (M' := (mX0_holds, [])) (lv2 := [(0, .ref 84), (1, .int ((l1 * (6 : Int32)) + l5)), (2, .ref l2)]) (pc' := 87) (X := K) (by decide +kernel) (ab_cv rfl rfl (conc_get (σ := σ) (F.s t0_84)) ⟨(Nat.le_of_ble_eq_true rfl), (Nat.le_of_ble_eq_true rfl)⟩ rfl) rfl (Nat.le_of_ble_eq_true rfl) rfl rfl (hY_no fun E => rfl) w (fun v5 τ3 F4 w => ?_)
    refine ab_fin.br (c := v5 = 0) (i := .ifCond .eq 12) (off := 12) (t := 99) (pc' := 90) (r := []) (by decide +kernel) rfl (by decide +kernel) rfl (fun q => ?_) (fun q => ?_)
    · replace w := w.1 q
      refine ab_fin.q_inc (n := 5) (c := 1) (pc' := 102) (lv' := [(5, .int (l5 + 1)), (0, .ref 84), (1, .int l1), (2, .ref l2), (3, .ref 10), (4, .int l4)]) (by decide +kernel) (by decide) rfl rfl rfl rfl ?_
      refine ab_fin.s3 (i := .goto (-38)) (k := 3) (t := 64) (st' := []) (by decide +kernel) (ab_gto (by decide +kernel)) ?_
      exact ab_fin.lv ⟨(List.forall_mem_cons.mpr ⟨(List.Mem.tail _ (List.Mem.head _)), (List.forall_mem_cons.mpr ⟨(List.Mem.tail _ (List.Mem.tail _ (List.Mem.head _))), (List.forall_mem_cons.mpr ⟨(List.Mem.tail _ (List.Mem.tail _ (List.Mem.tail _ (List.Mem.head _)))), (List.forall_mem_cons.mpr ⟨(List.Mem.tail _ (List.Mem.tail _ (List.Mem.tail _ (List.Mem.tail _ (List.Mem.head _))))), (List.forall_mem_cons.mpr ⟨(List.Mem.tail _ (List.Mem.tail _ (List.Mem.tail _ (List.Mem.tail _ (List.Mem.tail _ (List.Mem.head _)))))), (List.forall_mem_cons.mpr ⟨(List.Mem.head _), (fun _ h => absurd h List.not_mem_nil)⟩)⟩)⟩)⟩)⟩)⟩), (show ([5, 0, 1, 2, 3, 4] : List Nat).Nodup from by decide)⟩ w
    · replace w := w.2 q
      refine ab_fin.s2 (i := .iload 4) (k := 2) (pc' := 92) (lv' := [(0, .ref 84), (1, .int l1), (2, .ref l2), (3, .ref 10), (4, .int l4), (5, .int l5)]) (st' := [.int l4]) (by decide +kernel) rfl rfl ?_
      refine ab_fin.s1i (i := .iconst 1) (k := 1) (pc' := 93) (n := 1) (by decide +kernel) rfl (by decide +kernel) rfl ?_
      refine ab_fin.s2 (i := .iload 5) (k := 2) (pc' := 95) (lv' := [(0, .ref 84), (1, .int l1), (2, .ref l2), (3, .ref 10), (4, .int l4), (5, .int l5)]) (st' := [.int l5, .int 1, .int l4]) (by decide +kernel) rfl rfl ?_
      refine ab_fin.s1 (i := .ishl) (k := 1) (pc' := 96) (st' := [.int ((1 : Int32) <<< (l5 &&& 31)), .int l4]) (by decide +kernel) rfl rfl ?_
      refine ab_fin.s1 (i := .ior) (k := 1) (pc' := 97) (st' := [.int (l4 ||| ((1 : Int32) <<< (l5 &&& 31)))]) (by decide +kernel) rfl rfl ?_
      refine ab_fin.s2 (i := .istore 4) (k := 2) (pc' := 99) (lv' := [(4, .int (l4 ||| ((1 : Int32) <<< (l5 &&& 31)))), (0, .ref 84), (1, .int l1), (2, .ref l2), (3, .ref 10), (5, .int l5)]) (st' := []) (by decide +kernel) rfl rfl ?_
      refine ab_fin.q_inc (n := 5) (c := 1) (pc' := 102) (lv' := [(5, .int (l5 + 1)), (4, .int (l4 ||| ((1 : Int32) <<< (l5 &&& 31)))), (0, .ref 84), (1, .int l1), (2, .ref l2), (3, .ref 10)]) (by decide +kernel) (by decide) rfl rfl rfl rfl ?_
      refine ab_fin.s3 (i := .goto (-38)) (k := 3) (t := 64) (st' := []) (by decide +kernel) (ab_gto (by decide +kernel)) ?_
      exact ab_fin.lv ⟨(List.forall_mem_cons.mpr ⟨(List.Mem.tail _ (List.Mem.tail _ (List.Mem.head _))), (List.forall_mem_cons.mpr ⟨(List.Mem.tail _ (List.Mem.tail _ (List.Mem.tail _ (List.Mem.head _)))), (List.forall_mem_cons.mpr ⟨(List.Mem.tail _ (List.Mem.tail _ (List.Mem.tail _ (List.Mem.tail _ (List.Mem.head _))))), (List.forall_mem_cons.mpr ⟨(List.Mem.tail _ (List.Mem.tail _ (List.Mem.tail _ (List.Mem.tail _ (List.Mem.tail _ (List.Mem.head _)))))), (List.forall_mem_cons.mpr ⟨(List.Mem.tail _ (List.Mem.head _)), (List.forall_mem_cons.mpr ⟨(List.Mem.head _), (fun _ h => absurd h List.not_mem_nil)⟩)⟩)⟩)⟩)⟩)⟩), (show ([5, 4, 0, 1, 2, 3] : List Nat).Nodup from by decide)⟩ w
theorem T_X0_holds_0 {Z : zT} {d : Nat} {σ : Sg} {l1 : Int32} {l2 : Nat} {K : kS} (F : FX ΦC σ.sh σ.r) (w : ib l1 732 ∧ (ib l1 732 ∧ (ib l1 732 ∧ ((¬ (σ.i 19 l1.toNatClampNeg) = 2 → (¬ (σ.i 20 l1.toNatClampNeg) = 0 → ∃ n5, σ.sh[l2]? = some (Sh.arr 1 n5) ∧ (ib ((σ.i 20 l1.toNatClampNeg) - (1 : Int32)) n5 ∧ (C_X0_holds_73 Z (d + 1) σ l1 l2 (σ.i 21 l1.toNatClampNeg) ((Int32.toInt64 ((Int64.toInt32 (σ.l l2 (((σ.i 20 l1.toNatClampNeg) - (1 : Int32)).toNatClampNeg)))))) K))) ∧ ((σ.i 20 l1.toNatClampNeg) = 0 → C_X0_holds_73 Z (d + 1) σ l1 l2 (σ.i 21 l1.toNatClampNeg) 0 K)) ∧ ((σ.i 19 l1.toNatClampNeg) = 2 → ib ((σ.i 20 l1.toNatClampNeg) - (1 : Int32)) 3 ∧ (C_X2_isBelow_0 Z d σ (σ.i 89 (((σ.i 20 l1.toNatClampNeg) - (1 : Int32)).toNatClampNeg)) (σ.i 21 l1.toNatClampNeg) (yI K fun v10 τ8 => narrow .boolean (.int v10) = .int v10 ∧ K (.inl (some (.int v10))) τ8))))))) : C_X0_holds_0 Z (d + 1) σ l1 l2 K := by
  unfold C_X0_holds_0
  refine ab_fin.s2 (i := .aload_n 0) (k := 1) (pc' := 1) (lv' := [(0, .ref 84), (1, .int l1), (2, .ref l2)]) (st' := [.ref 84]) (by decide +kernel) rfl rfl ?_
  refine ab_fin.q_rA (b := 1) (ix := 37) (ci := 1) (k := 0) (pc' := 4) (by decide +kernel) rfl (c_rA (F.s t0_84) rfl (rC_1_0 F t0_84)) rfl ?_
  refine ab_fin.q_rA (b := 10) (ix := 97) (ci := 12) (k := 1) (pc' := 7) (by decide +kernel) rfl (c_rA (F.s t0_1) rfl (rC_12_1 F t0_1)) rfl ?_
  refine ab_fin.s2 (i := .astore_n 3) (k := 1) (pc' := 8) (lv' := [(3, .ref 10), (0, .ref 84), (1, .int l1), (2, .ref l2)]) (st' := []) (by decide +kernel) rfl rfl ?_
  refine ab_fin.s2 (i := .aload_n 3) (k := 1) (pc' := 9) (lv' := [(3, .ref 10), (0, .ref 84), (1, .int l1), (2, .ref l2)]) (st' := [.ref 10]) (by decide +kernel) rfl rfl ?_
  refine ab_fin.q_rA (b := 20) (ix := 133) (ci := 6) (k := 10) (pc' := 12) (by decide +kernel) rfl (c_rA (F.s t0_10) rfl (rC_6_10 F t0_10)) rfl ?_
  refine ab_fin.s2 (i := .iload_n 1) (k := 1) (pc' := 13) (lv' := [(3, .ref 10), (0, .ref 84), (1, .int l1), (2, .ref l2)]) (st' := [.int l1, .ref 20]) (by decide +kernel) rfl rfl ?_
  obtain ⟨e1, w⟩ := w
  refine ab_fin.q_eI (x := (σ.i 20 l1.toNatClampNeg)) (pc' := 14) (by decide +kernel) (c_eI' (F.s t0_20) e1 rfl) rfl ?_
  refine ab_fin.s2 (i := .istore 4) (k := 2) (pc' := 16) (lv' := [(4, .int (σ.i 20 l1.toNatClampNeg)), (3, .ref 10), (0, .ref 84), (1, .int l1), (2, .ref l2)]) (st' := []) (by decide +kernel) rfl rfl ?_
  refine ab_fin.s2 (i := .aload_n 3) (k := 1) (pc' := 17) (lv' := [(4, .int (σ.i 20 l1.toNatClampNeg)), (3, .ref 10), (0, .ref 84), (1, .int l1), (2, .ref l2)]) (st' := [.ref 10]) (by decide +kernel) rfl rfl ?_
  refine ab_fin.q_rA (b := 21) (ix := 136) (ci := 6) (k := 11) (pc' := 20) (by decide +kernel) rfl (c_rA (F.s t0_10) rfl (rC_6_11 F t0_10)) rfl ?_
  refine ab_fin.s2 (i := .iload_n 1) (k := 1) (pc' := 21) (lv' := [(4, .int (σ.i 20 l1.toNatClampNeg)), (3, .ref 10), (0, .ref 84), (1, .int l1), (2, .ref l2)]) (st' := [.int l1, .ref 21]) (by decide +kernel) rfl rfl ?_
  obtain ⟨e2, w⟩ := w
  refine ab_fin.q_eI (x := (σ.i 21 l1.toNatClampNeg)) (pc' := 22) (by decide +kernel) (c_eI' (F.s t0_21) e2 rfl) rfl ?_
  refine ab_fin.s2 (i := .istore 5) (k := 2) (pc' := 24) (lv' := [(5, .int (σ.i 21 l1.toNatClampNeg)), (4, .int (σ.i 20 l1.toNatClampNeg)), (3, .ref 10), (0, .ref 84), (1, .int l1), (2, .ref l2)]) (st' := []) (by decide +kernel) rfl rfl ?_
  refine ab_fin.s2 (i := .aload_n 3) (k := 1) (pc' := 25) (lv' := [(5, .int (σ.i 21 l1.toNatClampNeg)), (4, .int (σ.i 20 l1.toNatClampNeg)), (3, .ref 10), (0, .ref 84), (1, .int l1), (2, .ref l2)]) (st' := [.ref 10]) (by decide +kernel) rfl rfl ?_
  refine ab_fin.q_rA (b := 19) (ix := 139) (ci := 6) (k := 9) (pc' := 28) (by decide +kernel) rfl (c_rA (F.s t0_10) rfl (rC_6_9 F t0_10)) rfl ?_
  refine ab_fin.s2 (i := .iload_n 1) (k := 1) (pc' := 29) (lv' := [(5, .int (σ.i 21 l1.toNatClampNeg)), (4, .int (σ.i 20 l1.toNatClampNeg)), (3, .ref 10), (0, .ref 84), (1, .int l1), (2, .ref l2)]) (st' := [.int l1, .ref 19]) (by decide +kernel) rfl rfl ?_
  obtain ⟨e3, w⟩ := w
  refine ab_fin.q_eI (x := (σ.i 19 l1.toNatClampNeg)) (pc' := 30) (by decide +kernel) (c_eI' (F.s t0_19) e3 rfl) rfl ?_
  refine ab_fin.s1i (i := .iconst 2) (k := 1) (pc' := 31) (n := 2) (by decide +kernel) rfl (by decide +kernel) rfl ?_
  refine ab_fin.br (c := ¬ (σ.i 19 l1.toNatClampNeg) = 2) (i := .if_icmp .ne 25) (off := 25) (t := 56) (pc' := 34) (r := []) (by decide +kernel) rfl (by decide +kernel) rfl (fun q => ?_) (fun q => ?_)
  · replace w := w.1 q
    refine ab_fin.s2 (i := .iload 4) (k := 2) (pc' := 58) (lv' := [(5, .int (σ.i 21 l1.toNatClampNeg)), (4, .int (σ.i 20 l1.toNatClampNeg)), (3, .ref 10), (0, .ref 84), (1, .int l1), (2, .ref l2)]) (st' := [.int (σ.i 20 l1.toNatClampNeg)]) (by decide +kernel) rfl rfl ?_
    refine ab_fin.br (c := ¬ (σ.i 20 l1.toNatClampNeg) = 0) (i := .ifCond .ne 7) (off := 7) (t := 65) (pc' := 61) (r := []) (by decide +kernel) rfl (by decide +kernel) rfl (fun q => ?_) (fun q => ?_)
    · replace w := w.1 q
      refine ab_fin.s2 (i := .aload_n 2) (k := 1) (pc' := 66) (lv' := [(5, .int (σ.i 21 l1.toNatClampNeg)), (4, .int (σ.i 20 l1.toNatClampNeg)), (3, .ref 10), (0, .ref 84), (1, .int l1), (2, .ref l2)]) (st' := [.ref l2]) (by decide +kernel) rfl rfl ?_
      refine ab_fin.s2 (i := .iload 4) (k := 2) (pc' := 68) (lv' := [(5, .int (σ.i 21 l1.toNatClampNeg)), (4, .int (σ.i 20 l1.toNatClampNeg)), (3, .ref 10), (0, .ref 84), (1, .int l1), (2, .ref l2)]) (st' := [.int (σ.i 20 l1.toNatClampNeg), .ref l2]) (by decide +kernel) rfl rfl ?_
      refine ab_fin.s1i (i := .iconst 1) (k := 1) (pc' := 69) (n := 1) (by decide +kernel) rfl (by decide +kernel) rfl ?_
      refine ab_fin.s1 (i := .isub) (k := 1) (pc' := 70) (st' := [.int ((σ.i 20 l1.toNatClampNeg) - (1 : Int32)), .ref l2]) (by decide +kernel) rfl rfl ?_
      obtain ⟨n5, e4, w⟩ := w
      obtain ⟨e6, w⟩ := w
      refine ab_fin.q_eL (x := (σ.l l2 (((σ.i 20 l1.toNatClampNeg) - (1 : Int32)).toNatClampNeg))) (pc' := 71) (by decide +kernel) (c_eL' e4 e6 rfl) rfl ?_
      refine ab_fin.s1 (i := .l2i) (k := 1) (pc' := 72) (st' := [.int ((Int64.toInt32 (σ.l l2 (((σ.i 20 l1.toNatClampNeg) - (1 : Int32)).toNatClampNeg))))]) (by decide +kernel) rfl rfl ?_
      refine ab_fin.s1 (i := .i2l) (k := 1) (pc' := 73) (st' := [.long ((Int32.toInt64 ((Int64.toInt32 (σ.l l2 (((σ.i 20 l1.toNatClampNeg) - (1 : Int32)).toNatClampNeg))))))]) (by decide +kernel) rfl rfl ?_
      exact ab_fin.lv ⟨(List.forall_mem_cons.mpr ⟨(List.Mem.tail _ (List.Mem.tail _ (List.Mem.tail _ (List.Mem.tail _ (List.Mem.head _))))), (List.forall_mem_cons.mpr ⟨(List.Mem.tail _ (List.Mem.tail _ (List.Mem.tail _ (List.Mem.tail _ (List.Mem.tail _ (List.Mem.head _)))))), (List.forall_mem_cons.mpr ⟨(List.Mem.tail _ (List.Mem.tail _ (List.Mem.head _))), (List.forall_mem_cons.mpr ⟨(List.Mem.head _), (fun _ h => absurd h List.not_mem_nil)⟩)⟩)⟩)⟩), (show ([5, 4, 3, 0, 1, 2] : List Nat).Nodup from by decide)⟩ w
    · replace w := w.2 (Decidable.of_not_not q)
      refine ab_fin.s1l (i := .lconst 0) (k := 1) (pc' := 62) (n := 0) (by decide +kernel) rfl (by decide +kernel) rfl ?_
      refine ab_fin.s3 (i := .goto 11) (k := 3) (t := 73) (st' := [.long 0]) (by decide +kernel) (ab_gto (by decide +kernel)) ?_
      exact ab_fin.lv ⟨(List.forall_mem_cons.mpr ⟨(List.Mem.tail _ (List.Mem.tail _ (List.Mem.tail _ (List.Mem.tail _ (List.Mem.head _))))), (List.forall_mem_cons.mpr ⟨(List.Mem.tail _ (List.Mem.tail _ (List.Mem.tail _ (List.Mem.tail _ (List.Mem.tail _ (List.Mem.head _)))))), (List.forall_mem_cons.mpr ⟨(List.Mem.tail _ (List.Mem.tail _ (List.Mem.head _))), (List.forall_mem_cons.mpr ⟨(List.Mem.head _), (fun _ h => absurd h List.not_mem_nil)⟩)⟩)⟩)⟩), (show ([5, 4, 3, 0, 1, 2] : List Nat).Nodup from by decide)⟩ w
  · replace w := w.2 (Decidable.of_not_not q)
    refine ab_fin.s2 (i := .aload_n 0) (k := 1) (pc' := 35) (lv' := [(5, .int (σ.i 21 l1.toNatClampNeg)), (4, .int (σ.i 20 l1.toNatClampNeg)), (3, .ref 10), (0, .ref 84), (1, .int l1), (2, .ref l2)]) (st' := [.ref 84]) (by decide +kernel) rfl rfl ?_
    refine ab_fin.q_rA (b := 1) (ix := 37) (ci := 1) (k := 0) (pc' := 38) (by decide +kernel) rfl (c_rA (F.s t0_84) rfl (rC_1_0 F t0_84)) rfl ?_
    refine ab_fin.q_rA (b := 2) (ix := 142) (ci := 12) (k := 0) (pc' := 41) (by decide +kernel) rfl (c_rA (F.s t0_1) rfl (rC_12_0 F t0_1)) rfl ?_
    refine ab_fin.s2 (i := .aload_n 0) (k := 1) (pc' := 42) (lv' := [(5, .int (σ.i 21 l1.toNatClampNeg)), (4, .int (σ.i 20 l1.toNatClampNeg)), (3, .ref 10), (0, .ref 84), (1, .int l1), (2, .ref l2)]) (st' := [.ref 84, .ref 2]) (by decide +kernel) rfl rfl ?_
    refine ab_fin.q_rA (b := 89) (ix := 25) (ci := 1) (k := 9) (pc' := 45) (by decide +kernel) rfl (c_rA (F.s t0_84) rfl (rC_1_9 F t0_84)) rfl ?_
    refine ab_fin.s2 (i := .iload 4) (k := 2) (pc' := 47) (lv' := [(5, .int (σ.i 21 l1.toNatClampNeg)), (4, .int (σ.i 20 l1.toNatClampNeg)), (3, .ref 10), (0, .ref 84), (1, .int l1), (2, .ref l2)]) (st' := [.int (σ.i 20 l1.toNatClampNeg), .ref 89, .ref 2]) (by decide +kernel) rfl rfl ?_
    refine ab_fin.s1i (i := .iconst 1) (k := 1) (pc' := 48) (n := 1) (by decide +kernel) rfl (by decide +kernel) rfl ?_
    refine ab_fin.s1 (i := .isub) (k := 1) (pc' := 49) (st' := [.int ((σ.i 20 l1.toNatClampNeg) - (1 : Int32)), .ref 89, .ref 2]) (by decide +kernel) rfl rfl ?_
    obtain ⟨e7, w⟩ := w
    refine ab_fin.q_eI (x := (σ.i 89 (((σ.i 20 l1.toNatClampNeg) - (1 : Int32)).toNatClampNeg))) (pc' := 50) (by decide +kernel) (c_eI' (F.s t0_89) e7 rfl) rfl ?_
    refine ab_fin.s2 (i := .iload 5) (k := 2) (pc' := 52) (lv' := [(5, .int (σ.i 21 l1.toNatClampNeg)), (4, .int (σ.i 20 l1.toNatClampNeg)), (3, .ref 10), (0, .ref 84), (1, .int l1), (2, .ref l2)]) (st' := [.int (σ.i 21 l1.toNatClampNeg), .int (σ.i 89 (((σ.i 20 l1.toNatClampNeg) - (1 : Int32)).toNatClampNeg)), .ref 2]) (by decide +kernel) rfl rfl ?_
    refine ab_fin.q_yI (i := .invokevirtual 146) (k := 3) (y := 513) (As := [.ref 2, .int (σ.i 89 (((σ.i 20 l1.toNatClampNeg) - (1 : Int32)).toNatClampNeg)), .int (σ.i 21 l1.toNatClampNeg)]) (rest := []) (M' := (mX2_isBelow, [])) (lv2 := [(0, .ref 2), (1, .int (σ.i 89 (((σ.i 20 l1.toNatClampNeg) - (1 : Int32)).toNatClampNeg))), (2, .int (σ.i 21 l1.toNatClampNeg))]) (pc' := 55) (X := K) (by decide +kernel) (ab_cv rfl rfl (conc_get (σ := σ) (F.s t0_2)) ⟨(Nat.le_of_ble_eq_true rfl), (Nat.le_of_ble_eq_true rfl)⟩ rfl) rfl (Nat.le_of_ble_eq_true rfl) rfl rfl (hY_no fun E => rfl) w (fun v10 τ8 F9 w => ?_)
    exact ab_fin.q_rtN (ty := .boolean) (by decide +kernel) rfl w.1 F9 w.2
theorem T_X0_holds_73 {Z : zT} {d : Nat} {σ : Sg} {l1 : Int32} {l2 : Nat} {l5 : Int32} {s0 : Int64} {K : kS} (F : FX ΦC σ.sh σ.r) (w : (¬ l5 = 0 → ∃ n2, σ.sh[l2]? = some (Sh.arr 1 n2) ∧ (ib (l5 - (1 : Int32)) n2 ∧ (C_X0_holds_90 Z (d + 1) σ l1 s0 ((Int32.toInt64 ((Int64.toInt32 (σ.l l2 ((l5 - (1 : Int32)).toNatClampNeg)))))) K))) ∧ (l5 = 0 → C_X0_holds_90 Z (d + 1) σ l1 s0 0 K)) : C_X0_holds_73 Z (d + 1) σ l1 l2 l5 s0 K := by
  unfold C_X0_holds_73
  refine ab_fin.s2 (i := .iload 5) (k := 2) (pc' := 75) (lv' := [(1, .int l1), (2, .ref l2), (3, .ref 10), (5, .int l5)]) (st' := [.int l5, .long s0]) (by decide +kernel) rfl rfl ?_
  refine ab_fin.br (c := ¬ l5 = 0) (i := .ifCond .ne 7) (off := 7) (t := 82) (pc' := 78) (r := [.long s0]) (by decide +kernel) rfl (by decide +kernel) rfl (fun q => ?_) (fun q => ?_)
  · replace w := w.1 q
    refine ab_fin.s2 (i := .aload_n 2) (k := 1) (pc' := 83) (lv' := [(1, .int l1), (2, .ref l2), (3, .ref 10), (5, .int l5)]) (st' := [.ref l2, .long s0]) (by decide +kernel) rfl rfl ?_
    refine ab_fin.s2 (i := .iload 5) (k := 2) (pc' := 85) (lv' := [(1, .int l1), (2, .ref l2), (3, .ref 10), (5, .int l5)]) (st' := [.int l5, .ref l2, .long s0]) (by decide +kernel) rfl rfl ?_
    refine ab_fin.s1i (i := .iconst 1) (k := 1) (pc' := 86) (n := 1) (by decide +kernel) rfl (by decide +kernel) rfl ?_
    refine ab_fin.s1 (i := .isub) (k := 1) (pc' := 87) (st' := [.int (l5 - (1 : Int32)), .ref l2, .long s0]) (by decide +kernel) rfl rfl ?_
    obtain ⟨n2, e1, w⟩ := w
    obtain ⟨e3, w⟩ := w
    refine ab_fin.q_eL (x := (σ.l l2 ((l5 - (1 : Int32)).toNatClampNeg))) (pc' := 88) (by decide +kernel) (c_eL' e1 e3 rfl) rfl ?_
    refine ab_fin.s1 (i := .l2i) (k := 1) (pc' := 89) (st' := [.int ((Int64.toInt32 (σ.l l2 ((l5 - (1 : Int32)).toNatClampNeg)))), .long s0]) (by decide +kernel) rfl rfl ?_
    refine ab_fin.s1 (i := .i2l) (k := 1) (pc' := 90) (st' := [.long ((Int32.toInt64 ((Int64.toInt32 (σ.l l2 ((l5 - (1 : Int32)).toNatClampNeg)))))), .long s0]) (by decide +kernel) rfl rfl ?_
    exact ab_fin.lv ⟨(List.forall_mem_cons.mpr ⟨(List.Mem.head _), (List.forall_mem_cons.mpr ⟨(List.Mem.tail _ (List.Mem.tail _ (List.Mem.head _))), (fun _ h => absurd h List.not_mem_nil)⟩)⟩), (show ([1, 2, 3, 5] : List Nat).Nodup from by decide)⟩ w
  · replace w := w.2 (Decidable.of_not_not q)
    refine ab_fin.s1l (i := .lconst 0) (k := 1) (pc' := 79) (n := 0) (by decide +kernel) rfl (by decide +kernel) rfl ?_
    refine ab_fin.s3 (i := .goto 11) (k := 3) (t := 90) (st' := [.long 0, .long s0]) (by decide +kernel) (ab_gto (by decide +kernel)) ?_
    exact ab_fin.lv ⟨(List.forall_mem_cons.mpr ⟨(List.Mem.head _), (List.forall_mem_cons.mpr ⟨(List.Mem.tail _ (List.Mem.tail _ (List.Mem.head _))), (fun _ h => absurd h List.not_mem_nil)⟩)⟩), (show ([1, 2, 3, 5] : List Nat).Nodup from by decide)⟩ w
theorem T_X0_holds_90 {Z : zT} {d : Nat} {σ : Sg} {l1 : Int32} {s0 : Int64} {s1 : Int64} {K : kS} (F : FX ΦC σ.sh σ.r) (w : ib l1 732 ∧ ((¬ (σ.i 19 l1.toNatClampNeg) = 1 → ib l1 732 ∧ ((0 < (lg_cmp (s0 - s1) (σ.l 22 l1.toNatClampNeg)) → K (.inl (some (.int 0))) σ) ∧ (¬ 0 < (lg_cmp (s0 - s1) (σ.l 22 l1.toNatClampNeg)) → K (.inl (some (.int 1))) σ))) ∧ ((σ.i 19 l1.toNatClampNeg) = 1 → ib l1 732 ∧ ((¬ (lg_cmp (s0 - s1) (σ.l 22 l1.toNatClampNeg)) = 0 → K (.inl (some (.int 0))) σ) ∧ ((lg_cmp (s0 - s1) (σ.l 22 l1.toNatClampNeg)) = 0 → K (.inl (some (.int 1))) σ))))) : C_X0_holds_90 Z (d + 1) σ l1 s0 s1 K := by
  unfold C_X0_holds_90
  refine ab_fin.s1 (i := .lsub) (k := 1) (pc' := 91) (st' := [.long (s0 - s1)]) (by decide +kernel) rfl rfl ?_
  refine ab_fin.s2 (i := .lstore 6) (k := 2) (pc' := 93) (lv' := [(6, .long (s0 - s1)), (1, .int l1), (3, .ref 10)]) (st' := []) (by decide +kernel) rfl rfl ?_
  refine ab_fin.s2 (i := .aload_n 3) (k := 1) (pc' := 94) (lv' := [(6, .long (s0 - s1)), (1, .int l1), (3, .ref 10)]) (st' := [.ref 10]) (by decide +kernel) rfl rfl ?_
  refine ab_fin.q_rA (b := 19) (ix := 139) (ci := 6) (k := 9) (pc' := 97) (by decide +kernel) rfl (c_rA (F.s t0_10) rfl (rC_6_9 F t0_10)) rfl ?_
  refine ab_fin.s2 (i := .iload_n 1) (k := 1) (pc' := 98) (lv' := [(6, .long (s0 - s1)), (1, .int l1), (3, .ref 10)]) (st' := [.int l1, .ref 19]) (by decide +kernel) rfl rfl ?_
  obtain ⟨e1, w⟩ := w
  refine ab_fin.q_eI (x := (σ.i 19 l1.toNatClampNeg)) (pc' := 99) (by decide +kernel) (c_eI' (F.s t0_19) e1 rfl) rfl ?_
  refine ab_fin.s1i (i := .iconst 1) (k := 1) (pc' := 100) (n := 1) (by decide +kernel) rfl (by decide +kernel) rfl ?_
  refine ab_fin.br (c := ¬ (σ.i 19 l1.toNatClampNeg) = 1) (i := .if_icmp .ne 23) (off := 23) (t := 123) (pc' := 103) (r := []) (by decide +kernel) rfl (by decide +kernel) rfl (fun q => ?_) (fun q => ?_)
  · replace w := w.1 q
    refine ab_fin.s2 (i := .lload 6) (k := 2) (pc' := 125) (lv' := [(6, .long (s0 - s1)), (1, .int l1), (3, .ref 10)]) (st' := [.long (s0 - s1)]) (by decide +kernel) rfl rfl ?_
    refine ab_fin.s2 (i := .aload_n 3) (k := 1) (pc' := 126) (lv' := [(6, .long (s0 - s1)), (1, .int l1), (3, .ref 10)]) (st' := [.ref 10, .long (s0 - s1)]) (by decide +kernel) rfl rfl ?_
    refine ab_fin.q_rA (b := 22) (ix := 152) (ci := 6) (k := 12) (pc' := 129) (by decide +kernel) rfl (c_rA (F.s t0_10) rfl (rC_6_12 F t0_10)) rfl ?_
    refine ab_fin.s2 (i := .iload_n 1) (k := 1) (pc' := 130) (lv' := [(6, .long (s0 - s1)), (1, .int l1), (3, .ref 10)]) (st' := [.int l1, .ref 22, .long (s0 - s1)]) (by decide +kernel) rfl rfl ?_
    obtain ⟨e2, w⟩ := w
    refine ab_fin.q_eL (x := (σ.l 22 l1.toNatClampNeg)) (pc' := 131) (by decide +kernel) (c_eL' (F.s t0_22) e2 rfl) rfl ?_
    refine ab_fin.s1 (i := .lcmp) (k := 1) (pc' := 132) (st' := [.int (lg_cmp (s0 - s1) (σ.l 22 l1.toNatClampNeg))]) (by decide +kernel) rfl rfl ?_
    refine ab_fin.br (c := 0 < (lg_cmp (s0 - s1) (σ.l 22 l1.toNatClampNeg))) (i := .ifCond .gt 7) (off := 7) (t := 139) (pc' := 135) (r := []) (by decide +kernel) rfl (by decide +kernel) rfl (fun q => ?_) (fun q => ?_)
    · replace w := w.1 q
      refine ab_fin.s1i (i := .iconst 0) (k := 1) (pc' := 140) (n := 0) (by decide +kernel) rfl (by decide +kernel) rfl ?_
      exact ab_fin.q_ret (i := .ireturn) (k := 1) (v := some (.int 0)) (by decide +kernel) rfl F w
    · replace w := w.2 q
      refine ab_fin.s1i (i := .iconst 1) (k := 1) (pc' := 136) (n := 1) (by decide +kernel) rfl (by decide +kernel) rfl ?_
      refine ab_fin.s3 (i := .goto 4) (k := 3) (t := 140) (st' := [.int 1]) (by decide +kernel) (ab_gto (by decide +kernel)) ?_
      exact ab_fin.q_ret (i := .ireturn) (k := 1) (v := some (.int 1)) (by decide +kernel) rfl F w
  · replace w := w.2 (Decidable.of_not_not q)
    refine ab_fin.s2 (i := .lload 6) (k := 2) (pc' := 105) (lv' := [(6, .long (s0 - s1)), (1, .int l1), (3, .ref 10)]) (st' := [.long (s0 - s1)]) (by decide +kernel) rfl rfl ?_
    refine ab_fin.s2 (i := .aload_n 3) (k := 1) (pc' := 106) (lv' := [(6, .long (s0 - s1)), (1, .int l1), (3, .ref 10)]) (st' := [.ref 10, .long (s0 - s1)]) (by decide +kernel) rfl rfl ?_
    refine ab_fin.q_rA (b := 22) (ix := 152) (ci := 6) (k := 12) (pc' := 109) (by decide +kernel) rfl (c_rA (F.s t0_10) rfl (rC_6_12 F t0_10)) rfl ?_
    refine ab_fin.s2 (i := .iload_n 1) (k := 1) (pc' := 110) (lv' := [(6, .long (s0 - s1)), (1, .int l1), (3, .ref 10)]) (st' := [.int l1, .ref 22, .long (s0 - s1)]) (by decide +kernel) rfl rfl ?_
    obtain ⟨e3, w⟩ := w
    refine ab_fin.q_eL (x := (σ.l 22 l1.toNatClampNeg)) (pc' := 111) (by decide +kernel) (c_eL' (F.s t0_22) e3 rfl) rfl ?_
    refine ab_fin.s1 (i := .lcmp) (k := 1) (pc' := 112) (st' := [.int (lg_cmp (s0 - s1) (σ.l 22 l1.toNatClampNeg))]) (by decide +kernel) rfl rfl ?_
    refine ab_fin.br (c := ¬ (lg_cmp (s0 - s1) (σ.l 22 l1.toNatClampNeg)) = 0) (i := .ifCond .ne 7) (off := 7) (t := 119) (pc' := 115) (r := []) (by decide +kernel) rfl (by decide +kernel) rfl (fun q => ?_) (fun q => ?_)
    · replace w := w.1 q
      refine ab_fin.s1i (i := .iconst 0) (k := 1) (pc' := 120) (n := 0) (by decide +kernel) rfl (by decide +kernel) rfl ?_
      refine ab_fin.s3 (i := .goto 20) (k := 3) (t := 140) (st' := [.int 0]) (by decide +kernel) (ab_gto (by decide +kernel)) ?_
      exact ab_fin.q_ret (i := .ireturn) (k := 1) (v := some (.int 0)) (by decide +kernel) rfl F w
    · replace w := w.2 (Decidable.of_not_not q)
      refine ab_fin.s1i (i := .iconst 1) (k := 1) (pc' := 116) (n := 1) (by decide +kernel) rfl (by decide +kernel) rfl ?_
      refine ab_fin.s3 (i := .goto 24) (k := 3) (t := 140) (st' := [.int 1]) (by decide +kernel) (ab_gto (by decide +kernel)) ?_
      exact ab_fin.q_ret (i := .ireturn) (k := 1) (v := some (.int 1)) (by decide +kernel) rfl F w
theorem T_X0_gatherGroup_0 {Z : zT} {d : Nat} {σ : Sg} {l1 : Int32} {l2 : Int32} {K : kS} (F : FX ΦC σ.sh σ.r) (w : C_X0_gatherGroup_5 Z (d + 1) σ l1 l2 0 0 K) : C_X0_gatherGroup_0 Z (d + 1) σ l1 l2 K := by
  unfold C_X0_gatherGroup_0
  refine ab_fin.s1i (i := .iconst 0) (k := 1) (pc' := 1) (n := 0) (by decide +kernel) rfl (by decide +kernel) rfl ?_
  refine ab_fin.s2 (i := .istore_n 3) (k := 1) (pc' := 2) (lv' := [(3, .int 0), (0, .ref 84), (1, .int l1), (2, .int l2)]) (st' := []) (by decide +kernel) rfl rfl ?_
  refine ab_fin.s1i (i := .iconst 0) (k := 1) (pc' := 3) (n := 0) (by decide +kernel) rfl (by decide +kernel) rfl ?_
  refine ab_fin.s2 (i := .istore 4) (k := 2) (pc' := 5) (lv' := [(4, .int 0), (3, .int 0), (0, .ref 84), (1, .int l1), (2, .int l2)]) (st' := []) (by decide +kernel) rfl rfl ?_
  exact ab_fin.lv ⟨(List.forall_mem_cons.mpr ⟨(List.Mem.tail _ (List.Mem.tail _ (List.Mem.head _))), (List.forall_mem_cons.mpr ⟨(List.Mem.tail _ (List.Mem.tail _ (List.Mem.tail _ (List.Mem.head _)))), (List.forall_mem_cons.mpr ⟨(List.Mem.tail _ (List.Mem.tail _ (List.Mem.tail _ (List.Mem.tail _ (List.Mem.head _))))), (List.forall_mem_cons.mpr ⟨(List.Mem.tail _ (List.Mem.head _)), (List.forall_mem_cons.mpr ⟨(List.Mem.head _), (fun _ h => absurd h List.not_mem_nil)⟩)⟩)⟩)⟩)⟩), (show ([4, 3, 0, 1, 2] : List Nat).Nodup from by decide)⟩ w
theorem T_X0_gatherGroup_5 {Z : zT} {d : Nat} {σ : Sg} {l1 : Int32} {l2 : Int32} {l3 : Int32} {l4 : Int32} {K : kS} (F : FX ΦC σ.sh σ.r) (w : ((σ.i 84 11) ≤ l4 → K (.inl (some (.int l3))) σ) ∧ (¬ (σ.i 84 11) ≤ l4 → ib l4 120 ∧ (ib (σ.i 90 l4.toNatClampNeg) 122 ∧ ((¬ (σ.i 12 ((σ.i 90 l4.toNatClampNeg).toNatClampNeg)) = l1 → C_X0_gatherGroup_5 Z (d + 1) σ l1 l2 l3 (l4 + 1) K) ∧ ((σ.i 12 ((σ.i 90 l4.toNatClampNeg).toNatClampNeg)) = l1 → ib (σ.i 90 l4.toNatClampNeg) 122 ∧ ((¬ (σ.i 13 ((σ.i 90 l4.toNatClampNeg).toNatClampNeg)) = l2 → C_X0_gatherGroup_5 Z (d + 1) σ l1 l2 l3 (l4 + 1) K) ∧ ((σ.i 13 ((σ.i 90 l4.toNatClampNeg).toNatClampNeg)) = l2 → ib l3 120 ∧ (C_X0_gatherGroup_5 Z (d + 1) (σ.wi 91 l3.toNatClampNeg (σ.i 90 l4.toNatClampNeg)) l1 l2 (l3 + 1) (l4 + 1) K)))))))) : C_X0_gatherGroup_5 Z (d + 1) σ l1 l2 l3 l4 K := by
  unfold C_X0_gatherGroup_5
  refine ab_fin.s2 (i := .iload 4) (k := 2) (pc' := 7) (lv' := [(0, .ref 84), (1, .int l1), (2, .int l2), (3, .int l3), (4, .int l4)]) (st' := [.int l4]) (by decide +kernel) rfl rfl ?_
  refine ab_fin.s2 (i := .aload_n 0) (k := 1) (pc' := 8) (lv' := [(0, .ref 84), (1, .int l1), (2, .int l2), (3, .int l3), (4, .int l4)]) (st' := [.ref 84, .int l4]) (by decide +kernel) rfl rfl ?_
  refine ab_fin.q_rI (x := (σ.i 84 11)) (ix := 94) (ci := 1) (k := 11) (pc' := 11) (by decide +kernel) rfl (c_rI (F.s t0_84) rfl) rfl ?_
  refine ab_fin.br (c := (σ.i 84 11) ≤ l4) (i := .if_icmp .ge 63) (off := 63) (t := 74) (pc' := 14) (r := []) (by decide +kernel) rfl (by decide +kernel) rfl (fun q => ?_) (fun q => ?_)
  · replace w := w.1 q
    refine ab_fin.s2 (i := .iload_n 3) (k := 1) (pc' := 75) (lv' := [(0, .ref 84), (1, .int l1), (2, .int l2), (3, .int l3), (4, .int l4)]) (st' := [.int l3]) (by decide +kernel) rfl rfl ?_
    exact ab_fin.q_ret (i := .ireturn) (k := 1) (v := some (.int l3)) (by decide +kernel) rfl F w
  · replace w := w.2 q
    refine ab_fin.s2 (i := .aload_n 0) (k := 1) (pc' := 15) (lv' := [(0, .ref 84), (1, .int l1), (2, .int l2), (3, .int l3), (4, .int l4)]) (st' := [.ref 84]) (by decide +kernel) rfl rfl ?_
    refine ab_fin.q_rA (b := 90) (ix := 28) (ci := 1) (k := 10) (pc' := 18) (by decide +kernel) rfl (c_rA (F.s t0_84) rfl (rC_1_10 F t0_84)) rfl ?_
    refine ab_fin.s2 (i := .iload 4) (k := 2) (pc' := 20) (lv' := [(0, .ref 84), (1, .int l1), (2, .int l2), (3, .int l3), (4, .int l4)]) (st' := [.int l4, .ref 90]) (by decide +kernel) rfl rfl ?_
    obtain ⟨e1, w⟩ := w
    refine ab_fin.q_eI (x := (σ.i 90 l4.toNatClampNeg)) (pc' := 21) (by decide +kernel) (c_eI' (F.s t0_90) e1 rfl) rfl ?_
    refine ab_fin.s2 (i := .istore 5) (k := 2) (pc' := 23) (lv' := [(5, .int (σ.i 90 l4.toNatClampNeg)), (0, .ref 84), (1, .int l1), (2, .int l2), (3, .int l3), (4, .int l4)]) (st' := []) (by decide +kernel) rfl rfl ?_
    refine ab_fin.s2 (i := .aload_n 0) (k := 1) (pc' := 24) (lv' := [(5, .int (σ.i 90 l4.toNatClampNeg)), (0, .ref 84), (1, .int l1), (2, .int l2), (3, .int l3), (4, .int l4)]) (st' := [.ref 84]) (by decide +kernel) rfl rfl ?_
    refine ab_fin.q_rA (b := 1) (ix := 37) (ci := 1) (k := 0) (pc' := 27) (by decide +kernel) rfl (c_rA (F.s t0_84) rfl (rC_1_0 F t0_84)) rfl ?_
    refine ab_fin.q_rA (b := 10) (ix := 97) (ci := 12) (k := 1) (pc' := 30) (by decide +kernel) rfl (c_rA (F.s t0_1) rfl (rC_12_1 F t0_1)) rfl ?_
    refine ab_fin.q_rA (b := 12) (ix := 114) (ci := 6) (k := 2) (pc' := 33) (by decide +kernel) rfl (c_rA (F.s t0_10) rfl (rC_6_2 F t0_10)) rfl ?_
    refine ab_fin.s2 (i := .iload 5) (k := 2) (pc' := 35) (lv' := [(5, .int (σ.i 90 l4.toNatClampNeg)), (0, .ref 84), (1, .int l1), (2, .int l2), (3, .int l3), (4, .int l4)]) (st' := [.int (σ.i 90 l4.toNatClampNeg), .ref 12]) (by decide +kernel) rfl rfl ?_
    obtain ⟨e2, w⟩ := w
    refine ab_fin.q_eI (x := (σ.i 12 ((σ.i 90 l4.toNatClampNeg).toNatClampNeg))) (pc' := 36) (by decide +kernel) (c_eI' (F.s t0_12) e2 rfl) rfl ?_
    refine ab_fin.s2 (i := .iload_n 1) (k := 1) (pc' := 37) (lv' := [(5, .int (σ.i 90 l4.toNatClampNeg)), (0, .ref 84), (1, .int l1), (2, .int l2), (3, .int l3), (4, .int l4)]) (st' := [.int l1, .int (σ.i 12 ((σ.i 90 l4.toNatClampNeg).toNatClampNeg))]) (by decide +kernel) rfl rfl ?_
    refine ab_fin.br (c := ¬ (σ.i 12 ((σ.i 90 l4.toNatClampNeg).toNatClampNeg)) = l1) (i := .if_icmp .ne 31) (off := 31) (t := 68) (pc' := 40) (r := []) (by decide +kernel) rfl (by decide +kernel) rfl (fun q => ?_) (fun q => ?_)
    · replace w := w.1 q
      refine ab_fin.q_inc (n := 4) (c := 1) (pc' := 71) (lv' := [(4, .int (l4 + 1)), (5, .int (σ.i 90 l4.toNatClampNeg)), (0, .ref 84), (1, .int l1), (2, .int l2), (3, .int l3)]) (by decide +kernel) (by decide) rfl rfl rfl rfl ?_
      refine ab_fin.s3 (i := .goto (-66)) (k := 3) (t := 5) (st' := []) (by decide +kernel) (ab_gto (by decide +kernel)) ?_
      exact ab_fin.lv ⟨(List.forall_mem_cons.mpr ⟨(List.Mem.tail _ (List.Mem.tail _ (List.Mem.head _))), (List.forall_mem_cons.mpr ⟨(List.Mem.tail _ (List.Mem.tail _ (List.Mem.tail _ (List.Mem.head _)))), (List.forall_mem_cons.mpr ⟨(List.Mem.tail _ (List.Mem.tail _ (List.Mem.tail _ (List.Mem.tail _ (List.Mem.head _))))), (List.forall_mem_cons.mpr ⟨(List.Mem.tail _ (List.Mem.tail _ (List.Mem.tail _ (List.Mem.tail _ (List.Mem.tail _ (List.Mem.head _)))))), (List.forall_mem_cons.mpr ⟨(List.Mem.head _), (fun _ h => absurd h List.not_mem_nil)⟩)⟩)⟩)⟩)⟩), (show ([4, 5, 0, 1, 2, 3] : List Nat).Nodup from by decide)⟩ w
    · replace w := w.2 (Decidable.of_not_not q)
      refine ab_fin.s2 (i := .aload_n 0) (k := 1) (pc' := 41) (lv' := [(5, .int (σ.i 90 l4.toNatClampNeg)), (0, .ref 84), (1, .int l1), (2, .int l2), (3, .int l3), (4, .int l4)]) (st' := [.ref 84]) (by decide +kernel) rfl rfl ?_
      refine ab_fin.q_rA (b := 1) (ix := 37) (ci := 1) (k := 0) (pc' := 44) (by decide +kernel) rfl (c_rA (F.s t0_84) rfl (rC_1_0 F t0_84)) rfl ?_
      refine ab_fin.q_rA (b := 10) (ix := 97) (ci := 12) (k := 1) (pc' := 47) (by decide +kernel) rfl (c_rA (F.s t0_1) rfl (rC_12_1 F t0_1)) rfl ?_
      refine ab_fin.q_rA (b := 13) (ix := 101) (ci := 6) (k := 3) (pc' := 50) (by decide +kernel) rfl (c_rA (F.s t0_10) rfl (rC_6_3 F t0_10)) rfl ?_
      refine ab_fin.s2 (i := .iload 5) (k := 2) (pc' := 52) (lv' := [(5, .int (σ.i 90 l4.toNatClampNeg)), (0, .ref 84), (1, .int l1), (2, .int l2), (3, .int l3), (4, .int l4)]) (st' := [.int (σ.i 90 l4.toNatClampNeg), .ref 13]) (by decide +kernel) rfl rfl ?_
      obtain ⟨e3, w⟩ := w
      refine ab_fin.q_eI (x := (σ.i 13 ((σ.i 90 l4.toNatClampNeg).toNatClampNeg))) (pc' := 53) (by decide +kernel) (c_eI' (F.s t0_13) e3 rfl) rfl ?_
      refine ab_fin.s2 (i := .iload_n 2) (k := 1) (pc' := 54) (lv' := [(5, .int (σ.i 90 l4.toNatClampNeg)), (0, .ref 84), (1, .int l1), (2, .int l2), (3, .int l3), (4, .int l4)]) (st' := [.int l2, .int (σ.i 13 ((σ.i 90 l4.toNatClampNeg).toNatClampNeg))]) (by decide +kernel) rfl rfl ?_
      refine ab_fin.br (c := ¬ (σ.i 13 ((σ.i 90 l4.toNatClampNeg).toNatClampNeg)) = l2) (i := .if_icmp .ne 14) (off := 14) (t := 68) (pc' := 57) (r := []) (by decide +kernel) rfl (by decide +kernel) rfl (fun q => ?_) (fun q => ?_)
      · replace w := w.1 q
        refine ab_fin.q_inc (n := 4) (c := 1) (pc' := 71) (lv' := [(4, .int (l4 + 1)), (5, .int (σ.i 90 l4.toNatClampNeg)), (0, .ref 84), (1, .int l1), (2, .int l2), (3, .int l3)]) (by decide +kernel) (by decide) rfl rfl rfl rfl ?_
        refine ab_fin.s3 (i := .goto (-66)) (k := 3) (t := 5) (st' := []) (by decide +kernel) (ab_gto (by decide +kernel)) ?_
        exact ab_fin.lv ⟨(List.forall_mem_cons.mpr ⟨(List.Mem.tail _ (List.Mem.tail _ (List.Mem.head _))), (List.forall_mem_cons.mpr ⟨(List.Mem.tail _ (List.Mem.tail _ (List.Mem.tail _ (List.Mem.head _)))), (List.forall_mem_cons.mpr ⟨(List.Mem.tail _ (List.Mem.tail _ (List.Mem.tail _ (List.Mem.tail _ (List.Mem.head _))))), (List.forall_mem_cons.mpr ⟨(List.Mem.tail _ (List.Mem.tail _ (List.Mem.tail _ (List.Mem.tail _ (List.Mem.tail _ (List.Mem.head _)))))), (List.forall_mem_cons.mpr ⟨(List.Mem.head _), (fun _ h => absurd h List.not_mem_nil)⟩)⟩)⟩)⟩)⟩), (show ([4, 5, 0, 1, 2, 3] : List Nat).Nodup from by decide)⟩ w
      · replace w := w.2 (Decidable.of_not_not q)
        refine ab_fin.s2 (i := .aload_n 0) (k := 1) (pc' := 58) (lv' := [(5, .int (σ.i 90 l4.toNatClampNeg)), (0, .ref 84), (1, .int l1), (2, .int l2), (3, .int l3), (4, .int l4)]) (st' := [.ref 84]) (by decide +kernel) rfl rfl ?_
        refine ab_fin.q_rA (b := 91) (ix := 31) (ci := 1) (k := 12) (pc' := 61) (by decide +kernel) rfl (c_rA (F.s t0_84) rfl (rC_1_12 F t0_84)) rfl ?_
        refine ab_fin.s2 (i := .iload_n 3) (k := 1) (pc' := 62) (lv' := [(5, .int (σ.i 90 l4.toNatClampNeg)), (0, .ref 84), (1, .int l1), (2, .int l2), (3, .int l3), (4, .int l4)]) (st' := [.int l3, .ref 91]) (by decide +kernel) rfl rfl ?_
        refine ab_fin.s2 (i := .iload 5) (k := 2) (pc' := 64) (lv' := [(5, .int (σ.i 90 l4.toNatClampNeg)), (0, .ref 84), (1, .int l1), (2, .int l2), (3, .int l3), (4, .int l4)]) (st' := [.int (σ.i 90 l4.toNatClampNeg), .int l3, .ref 91]) (by decide +kernel) rfl rfl ?_
        obtain ⟨e4, w⟩ := w
        refine ab_fin.q_sI (h1 := conc (σ.wi 91 l3.toNatClampNeg (σ.i 90 l4.toNatClampNeg))) (pc' := 65) (by decide +kernel) (c_sI' (F.s t0_91) e4 rfl) rfl ?_
        refine ab_fin.q_inc (n := 3) (c := 1) (pc' := 68) (lv' := [(3, .int (l3 + 1)), (5, .int (σ.i 90 l4.toNatClampNeg)), (0, .ref 84), (1, .int l1), (2, .int l2), (4, .int l4)]) (by decide +kernel) (by decide) rfl rfl rfl rfl ?_
        refine ab_fin.q_inc (n := 4) (c := 1) (pc' := 71) (lv' := [(4, .int (l4 + 1)), (3, .int (l3 + 1)), (5, .int (σ.i 90 l4.toNatClampNeg)), (0, .ref 84), (1, .int l1), (2, .int l2)]) (by decide +kernel) (by decide) rfl rfl rfl rfl ?_
        refine ab_fin.s3 (i := .goto (-66)) (k := 3) (t := 5) (st' := []) (by decide +kernel) (ab_gto (by decide +kernel)) ?_
        exact ab_fin.lv ⟨(List.forall_mem_cons.mpr ⟨(List.Mem.tail _ (List.Mem.tail _ (List.Mem.tail _ (List.Mem.head _)))), (List.forall_mem_cons.mpr ⟨(List.Mem.tail _ (List.Mem.tail _ (List.Mem.tail _ (List.Mem.tail _ (List.Mem.head _))))), (List.forall_mem_cons.mpr ⟨(List.Mem.tail _ (List.Mem.tail _ (List.Mem.tail _ (List.Mem.tail _ (List.Mem.tail _ (List.Mem.head _)))))), (List.forall_mem_cons.mpr ⟨(List.Mem.tail _ (List.Mem.head _)), (List.forall_mem_cons.mpr ⟨(List.Mem.head _), (fun _ h => absurd h List.not_mem_nil)⟩)⟩)⟩)⟩)⟩), (show ([4, 3, 5, 0, 1, 2] : List Nat).Nodup from by decide)⟩ w
theorem T_X0_layGroup_0 {Z : zT} {d : Nat} {σ : Sg} {l1 : Int32} {l2 : Int32} {l3 : Int32} {K : kS} (F : FX ΦC σ.sh σ.r) (w : C_X0_layGroup_3 Z (d + 1) σ l1 l2 l3 0 K) : C_X0_layGroup_0 Z (d + 1) σ l1 l2 l3 K := by
  unfold C_X0_layGroup_0
  refine ab_fin.s1i (i := .iconst 0) (k := 1) (pc' := 1) (n := 0) (by decide +kernel) rfl (by decide +kernel) rfl ?_
  refine ab_fin.s2 (i := .istore 4) (k := 2) (pc' := 3) (lv' := [(4, .int 0), (0, .ref 84), (1, .int l1), (2, .int l2), (3, .int l3)]) (st' := []) (by decide +kernel) rfl rfl ?_
  exact ab_fin.lv ⟨(List.forall_mem_cons.mpr ⟨(List.Mem.tail _ (List.Mem.head _)), (List.forall_mem_cons.mpr ⟨(List.Mem.tail _ (List.Mem.tail _ (List.Mem.head _))), (List.forall_mem_cons.mpr ⟨(List.Mem.tail _ (List.Mem.tail _ (List.Mem.tail _ (List.Mem.head _)))), (List.forall_mem_cons.mpr ⟨(List.Mem.tail _ (List.Mem.tail _ (List.Mem.tail _ (List.Mem.tail _ (List.Mem.head _))))), (List.forall_mem_cons.mpr ⟨(List.Mem.head _), (fun _ h => absurd h List.not_mem_nil)⟩)⟩)⟩)⟩)⟩), (show ([4, 0, 1, 2, 3] : List Nat).Nodup from by decide)⟩ w
theorem T_X0_layGroup_3 {Z : zT} {d : Nat} {σ : Sg} {l1 : Int32} {l2 : Int32} {l3 : Int32} {l4 : Int32} {K : kS} (F : FX ΦC σ.sh σ.r) (w : (l1 ≤ l4 → C_X0_layGroup_109 Z (d + 1) σ l1 l2 l3 0 K) ∧ (¬ l1 ≤ l4 → ib l4 120 ∧ (C_X0_layGroup_20 Z (d + 1) (σ.wi 92 l4.toNatClampNeg (0 : Int32)) l1 l2 l3 l4 0 K))) : C_X0_layGroup_3 Z (d + 1) σ l1 l2 l3 l4 K := by
  unfold C_X0_layGroup_3
  refine ab_fin.s2 (i := .iload 4) (k := 2) (pc' := 5) (lv' := [(0, .ref 84), (1, .int l1), (2, .int l2), (3, .int l3), (4, .int l4)]) (st' := [.int l4]) (by decide +kernel) rfl rfl ?_
  refine ab_fin.s2 (i := .iload_n 1) (k := 1) (pc' := 6) (lv' := [(0, .ref 84), (1, .int l1), (2, .int l2), (3, .int l3), (4, .int l4)]) (st' := [.int l1, .int l4]) (by decide +kernel) rfl rfl ?_
  refine ab_fin.br (c := l1 ≤ l4) (i := .if_icmp .ge 100) (off := 100) (t := 106) (pc' := 9) (r := []) (by decide +kernel) rfl (by decide +kernel) rfl (fun q => ?_) (fun q => ?_)
  · replace w := w.1 q
    refine ab_fin.s1i (i := .iconst 0) (k := 1) (pc' := 107) (n := 0) (by decide +kernel) rfl (by decide +kernel) rfl ?_
    refine ab_fin.s2 (i := .istore 4) (k := 2) (pc' := 109) (lv' := [(4, .int 0), (0, .ref 84), (1, .int l1), (2, .int l2), (3, .int l3)]) (st' := []) (by decide +kernel) rfl rfl ?_
    exact ab_fin.lv ⟨(List.forall_mem_cons.mpr ⟨(List.Mem.tail _ (List.Mem.head _)), (List.forall_mem_cons.mpr ⟨(List.Mem.tail _ (List.Mem.tail _ (List.Mem.head _))), (List.forall_mem_cons.mpr ⟨(List.Mem.tail _ (List.Mem.tail _ (List.Mem.tail _ (List.Mem.head _)))), (List.forall_mem_cons.mpr ⟨(List.Mem.tail _ (List.Mem.tail _ (List.Mem.tail _ (List.Mem.tail _ (List.Mem.head _))))), (List.forall_mem_cons.mpr ⟨(List.Mem.head _), (fun _ h => absurd h List.not_mem_nil)⟩)⟩)⟩)⟩)⟩), (show ([4, 0, 1, 2, 3] : List Nat).Nodup from by decide)⟩ w
  · replace w := w.2 q
    refine ab_fin.s2 (i := .aload_n 0) (k := 1) (pc' := 10) (lv' := [(0, .ref 84), (1, .int l1), (2, .int l2), (3, .int l3), (4, .int l4)]) (st' := [.ref 84]) (by decide +kernel) rfl rfl ?_
    refine ab_fin.q_rA (b := 92) (ix := 34) (ci := 1) (k := 13) (pc' := 13) (by decide +kernel) rfl (c_rA (F.s t0_84) rfl (rC_1_13 F t0_84)) rfl ?_
    refine ab_fin.s2 (i := .iload 4) (k := 2) (pc' := 15) (lv' := [(0, .ref 84), (1, .int l1), (2, .int l2), (3, .int l3), (4, .int l4)]) (st' := [.int l4, .ref 92]) (by decide +kernel) rfl rfl ?_
    refine ab_fin.s1i (i := .iconst 0) (k := 1) (pc' := 16) (n := 0) (by decide +kernel) rfl (by decide +kernel) rfl ?_
    obtain ⟨e1, w⟩ := w
    refine ab_fin.q_sI (h1 := conc (σ.wi 92 l4.toNatClampNeg (0 : Int32))) (pc' := 17) (by decide +kernel) (c_sI' (F.s t0_92) e1 rfl) rfl ?_
    refine ab_fin.s1i (i := .iconst 0) (k := 1) (pc' := 18) (n := 0) (by decide +kernel) rfl (by decide +kernel) rfl ?_
    refine ab_fin.s2 (i := .istore 5) (k := 2) (pc' := 20) (lv' := [(5, .int 0), (0, .ref 84), (1, .int l1), (2, .int l2), (3, .int l3), (4, .int l4)]) (st' := []) (by decide +kernel) rfl rfl ?_
    exact ab_fin.lv ⟨(List.forall_mem_cons.mpr ⟨(List.Mem.tail _ (List.Mem.head _)), (List.forall_mem_cons.mpr ⟨(List.Mem.tail _ (List.Mem.tail _ (List.Mem.head _))), (List.forall_mem_cons.mpr ⟨(List.Mem.tail _ (List.Mem.tail _ (List.Mem.tail _ (List.Mem.head _)))), (List.forall_mem_cons.mpr ⟨(List.Mem.tail _ (List.Mem.tail _ (List.Mem.tail _ (List.Mem.tail _ (List.Mem.head _))))), (List.forall_mem_cons.mpr ⟨(List.Mem.tail _ (List.Mem.tail _ (List.Mem.tail _ (List.Mem.tail _ (List.Mem.tail _ (List.Mem.head _)))))), (List.forall_mem_cons.mpr ⟨(List.Mem.head _), (fun _ h => absurd h List.not_mem_nil)⟩)⟩)⟩)⟩)⟩)⟩), (show ([5, 0, 1, 2, 3, 4] : List Nat).Nodup from by decide)⟩ w
theorem T_X0_layGroup_20 {Z : zT} {d : Nat} {σ : Sg} {l1 : Int32} {l2 : Int32} {l3 : Int32} {l4 : Int32} {l5 : Int32} {K : kS} (F : FX ΦC σ.sh σ.r) (w : (l4 ≤ l5 → C_X0_layGroup_3 Z (d + 1) σ l1 l2 l3 (l4 + 1) K) ∧ (¬ l4 ≤ l5 → ib l5 120 ∧ (ib l4 120 ∧ (C_X6_compare_0 Z d σ (σ.i 91 l5.toNatClampNeg) (σ.i 91 l4.toNatClampNeg) 89 (yI K fun v5 τ3 => ib l4 120 ∧ ((0 ≤ v5 → C_X0_layGroup_72 Z (d + 1) τ3 l1 l2 l3 l4 l5 v5 l4 (τ3.i 92 l4.toNatClampNeg) 0 K) ∧ (¬ 0 ≤ v5 → C_X0_layGroup_72 Z (d + 1) τ3 l1 l2 l3 l4 l5 v5 l4 (τ3.i 92 l4.toNatClampNeg) 1 K))))))) : C_X0_layGroup_20 Z (d + 1) σ l1 l2 l3 l4 l5 K := by
  unfold C_X0_layGroup_20
  refine ab_fin.s2 (i := .iload 5) (k := 2) (pc' := 22) (lv' := [(0, .ref 84), (1, .int l1), (2, .int l2), (3, .int l3), (4, .int l4), (5, .int l5)]) (st' := [.int l5]) (by decide +kernel) rfl rfl ?_
  refine ab_fin.s2 (i := .iload 4) (k := 2) (pc' := 24) (lv' := [(0, .ref 84), (1, .int l1), (2, .int l2), (3, .int l3), (4, .int l4), (5, .int l5)]) (st' := [.int l4, .int l5]) (by decide +kernel) rfl rfl ?_
  refine ab_fin.br (c := l4 ≤ l5) (i := .if_icmp .ge 76) (off := 76) (t := 100) (pc' := 27) (r := []) (by decide +kernel) rfl (by decide +kernel) rfl (fun q => ?_) (fun q => ?_)
  · replace w := w.1 q
    refine ab_fin.q_inc (n := 4) (c := 1) (pc' := 103) (lv' := [(4, .int (l4 + 1)), (0, .ref 84), (1, .int l1), (2, .int l2), (3, .int l3), (5, .int l5)]) (by decide +kernel) (by decide) rfl rfl rfl rfl ?_
    refine ab_fin.s3 (i := .goto (-100)) (k := 3) (t := 3) (st' := []) (by decide +kernel) (ab_gto (by decide +kernel)) ?_
    exact ab_fin.lv ⟨(List.forall_mem_cons.mpr ⟨(List.Mem.tail _ (List.Mem.head _)), (List.forall_mem_cons.mpr ⟨(List.Mem.tail _ (List.Mem.tail _ (List.Mem.head _))), (List.forall_mem_cons.mpr ⟨(List.Mem.tail _ (List.Mem.tail _ (List.Mem.tail _ (List.Mem.head _)))), (List.forall_mem_cons.mpr ⟨(List.Mem.tail _ (List.Mem.tail _ (List.Mem.tail _ (List.Mem.tail _ (List.Mem.head _))))), (List.forall_mem_cons.mpr ⟨(List.Mem.head _), (fun _ h => absurd h List.not_mem_nil)⟩)⟩)⟩)⟩)⟩), (show ([4, 0, 1, 2, 3, 5] : List Nat).Nodup from by decide)⟩ w
  · replace w := w.2 q
    refine ab_fin.s2 (i := .aload_n 0) (k := 1) (pc' := 28) (lv' := [(0, .ref 84), (1, .int l1), (2, .int l2), (3, .int l3), (4, .int l4), (5, .int l5)]) (st' := [.ref 84]) (by decide +kernel) rfl rfl ?_
    refine ab_fin.q_rA (b := 46) (ix := 41) (ci := 1) (k := 1) (pc' := 31) (by decide +kernel) rfl (c_rA (F.s t0_84) rfl (rC_1_1 F t0_84)) rfl ?_
    refine ab_fin.s2 (i := .aload_n 0) (k := 1) (pc' := 32) (lv' := [(0, .ref 84), (1, .int l1), (2, .int l2), (3, .int l3), (4, .int l4), (5, .int l5)]) (st' := [.ref 84, .ref 46]) (by decide +kernel) rfl rfl ?_
    refine ab_fin.q_rA (b := 91) (ix := 31) (ci := 1) (k := 12) (pc' := 35) (by decide +kernel) rfl (c_rA (F.s t0_84) rfl (rC_1_12 F t0_84)) rfl ?_
    refine ab_fin.s2 (i := .iload 5) (k := 2) (pc' := 37) (lv' := [(0, .ref 84), (1, .int l1), (2, .int l2), (3, .int l3), (4, .int l4), (5, .int l5)]) (st' := [.int l5, .ref 91, .ref 46]) (by decide +kernel) rfl rfl ?_
    obtain ⟨e1, w⟩ := w
    refine ab_fin.q_eI (x := (σ.i 91 l5.toNatClampNeg)) (pc' := 38) (by decide +kernel) (c_eI' (F.s t0_91) e1 rfl) rfl ?_
    refine ab_fin.s2 (i := .aload_n 0) (k := 1) (pc' := 39) (lv' := [(0, .ref 84), (1, .int l1), (2, .int l2), (3, .int l3), (4, .int l4), (5, .int l5)]) (st' := [.ref 84, .int (σ.i 91 l5.toNatClampNeg), .ref 46]) (by decide +kernel) rfl rfl ?_
    refine ab_fin.q_rA (b := 91) (ix := 31) (ci := 1) (k := 12) (pc' := 42) (by decide +kernel) rfl (c_rA (F.s t0_84) rfl (rC_1_12 F t0_84)) rfl ?_
    refine ab_fin.s2 (i := .iload 4) (k := 2) (pc' := 44) (lv' := [(0, .ref 84), (1, .int l1), (2, .int l2), (3, .int l3), (4, .int l4), (5, .int l5)]) (st' := [.int l4, .ref 91, .int (σ.i 91 l5.toNatClampNeg), .ref 46]) (by decide +kernel) rfl rfl ?_
    obtain ⟨e2, w⟩ := w
    refine ab_fin.q_eI (x := (σ.i 91 l4.toNatClampNeg)) (pc' := 45) (by decide +kernel) (c_eI' (F.s t0_91) e2 rfl) rfl ?_
    refine ab_fin.s2 (i := .aload_n 0) (k := 1) (pc' := 46) (lv' := [(0, .ref 84), (1, .int l1), (2, .int l2), (3, .int l3), (4, .int l4), (5, .int l5)]) (st' := [.ref 84, .int (σ.i 91 l4.toNatClampNeg), .int (σ.i 91 l5.toNatClampNeg), .ref 46]) (by decide +kernel) rfl rfl ?_
    refine ab_fin.q_rA (b := 89) (ix := 25) (ci := 1) (k := 9) (pc' := 49) (by decide +kernel) rfl (c_rA (F.s t0_84) rfl (rC_1_9 F t0_84)) rfl ?_
    refine ab_fin.q_yI (i := .invokevirtual 155) (k := 3) (y := 1538) (As := [.ref 46, .int (σ.i 91 l5.toNatClampNeg), .int (σ.i 91 l4.toNatClampNeg), .ref 89]) (rest := []) (M' := (mX6_compare, [])) (lv2 := [(0, .ref 46), (1, .int (σ.i 91 l5.toNatClampNeg)), (2, .int (σ.i 91 l4.toNatClampNeg)), (3, .ref 89)]) (pc' := 52) (X := K) (by decide +kernel) (ab_cv rfl rfl (conc_get (σ := σ) (F.s t0_46)) ⟨(Nat.le_of_ble_eq_true rfl), (Nat.le_of_ble_eq_true rfl)⟩ rfl) rfl (Nat.le_of_ble_eq_true rfl) rfl rfl (hY_no fun E => rfl) w (fun v5 τ3 F4 w => ?_)
    refine ab_fin.s2 (i := .istore 6) (k := 2) (pc' := 54) (lv' := [(6, .int v5), (0, .ref 84), (1, .int l1), (2, .int l2), (3, .int l3), (4, .int l4), (5, .int l5)]) (st' := []) (by decide +kernel) rfl rfl ?_
    refine ab_fin.s2 (i := .aload_n 0) (k := 1) (pc' := 55) (lv' := [(6, .int v5), (0, .ref 84), (1, .int l1), (2, .int l2), (3, .int l3), (4, .int l4), (5, .int l5)]) (st' := [.ref 84]) (by decide +kernel) rfl rfl ?_
    refine ab_fin.q_rA (b := 92) (ix := 34) (ci := 1) (k := 13) (pc' := 58) (by decide +kernel) rfl (c_rA (F4.s t0_84) rfl (rC_1_13 F4 t0_84)) rfl ?_
    refine ab_fin.s2 (i := .iload 4) (k := 2) (pc' := 60) (lv' := [(6, .int v5), (0, .ref 84), (1, .int l1), (2, .int l2), (3, .int l3), (4, .int l4), (5, .int l5)]) (st' := [.int l4, .ref 92]) (by decide +kernel) rfl rfl ?_
    refine ab_fin.s1 (i := .dup2) (k := 1) (pc' := 61) (st' := [.int l4, .ref 92, .int l4, .ref 92]) (by decide +kernel) rfl rfl ?_
    obtain ⟨e6, w⟩ := w
    refine ab_fin.q_eI (x := (τ3.i 92 l4.toNatClampNeg)) (pc' := 62) (by decide +kernel) (c_eI' (F4.s t0_92) e6 rfl) rfl ?_
    refine ab_fin.s2 (i := .iload 6) (k := 2) (pc' := 64) (lv' := [(6, .int v5), (0, .ref 84), (1, .int l1), (2, .int l2), (3, .int l3), (4, .int l4), (5, .int l5)]) (st' := [.int v5, .int (τ3.i 92 l4.toNatClampNeg), .int l4, .ref 92]) (by decide +kernel) rfl rfl ?_
    refine ab_fin.br (c := 0 ≤ v5) (i := .ifCond .ge 7) (off := 7) (t := 71) (pc' := 67) (r := [.int (τ3.i 92 l4.toNatClampNeg), .int l4, .ref 92]) (by decide +kernel) rfl (by decide +kernel) rfl (fun q => ?_) (fun q => ?_)
    · replace w := w.1 q
      refine ab_fin.s1i (i := .iconst 0) (k := 1) (pc' := 72) (n := 0) (by decide +kernel) rfl (by decide +kernel) rfl ?_
      exact ab_fin.lv ⟨(List.forall_mem_cons.mpr ⟨(List.Mem.tail _ (List.Mem.head _)), (List.forall_mem_cons.mpr ⟨(List.Mem.tail _ (List.Mem.tail _ (List.Mem.head _))), (List.forall_mem_cons.mpr ⟨(List.Mem.tail _ (List.Mem.tail _ (List.Mem.tail _ (List.Mem.head _)))), (List.forall_mem_cons.mpr ⟨(List.Mem.tail _ (List.Mem.tail _ (List.Mem.tail _ (List.Mem.tail _ (List.Mem.head _))))), (List.forall_mem_cons.mpr ⟨(List.Mem.tail _ (List.Mem.tail _ (List.Mem.tail _ (List.Mem.tail _ (List.Mem.tail _ (List.Mem.head _)))))), (List.forall_mem_cons.mpr ⟨(List.Mem.tail _ (List.Mem.tail _ (List.Mem.tail _ (List.Mem.tail _ (List.Mem.tail _ (List.Mem.tail _ (List.Mem.head _))))))), (List.forall_mem_cons.mpr ⟨(List.Mem.head _), (fun _ h => absurd h List.not_mem_nil)⟩)⟩)⟩)⟩)⟩)⟩)⟩), (show ([6, 0, 1, 2, 3, 4, 5] : List Nat).Nodup from by decide)⟩ w
    · replace w := w.2 q
      refine ab_fin.s1i (i := .iconst 1) (k := 1) (pc' := 68) (n := 1) (by decide +kernel) rfl (by decide +kernel) rfl ?_
      refine ab_fin.s3 (i := .goto 4) (k := 3) (t := 72) (st' := [.int 1, .int (τ3.i 92 l4.toNatClampNeg), .int l4, .ref 92]) (by decide +kernel) (ab_gto (by decide +kernel)) ?_
      exact ab_fin.lv ⟨(List.forall_mem_cons.mpr ⟨(List.Mem.tail _ (List.Mem.head _)), (List.forall_mem_cons.mpr ⟨(List.Mem.tail _ (List.Mem.tail _ (List.Mem.head _))), (List.forall_mem_cons.mpr ⟨(List.Mem.tail _ (List.Mem.tail _ (List.Mem.tail _ (List.Mem.head _)))), (List.forall_mem_cons.mpr ⟨(List.Mem.tail _ (List.Mem.tail _ (List.Mem.tail _ (List.Mem.tail _ (List.Mem.head _))))), (List.forall_mem_cons.mpr ⟨(List.Mem.tail _ (List.Mem.tail _ (List.Mem.tail _ (List.Mem.tail _ (List.Mem.tail _ (List.Mem.head _)))))), (List.forall_mem_cons.mpr ⟨(List.Mem.tail _ (List.Mem.tail _ (List.Mem.tail _ (List.Mem.tail _ (List.Mem.tail _ (List.Mem.tail _ (List.Mem.head _))))))), (List.forall_mem_cons.mpr ⟨(List.Mem.head _), (fun _ h => absurd h List.not_mem_nil)⟩)⟩)⟩)⟩)⟩)⟩)⟩), (show ([6, 0, 1, 2, 3, 4, 5] : List Nat).Nodup from by decide)⟩ w
theorem T_X0_layGroup_72 {Z : zT} {d : Nat} {σ : Sg} {l1 : Int32} {l2 : Int32} {l3 : Int32} {l4 : Int32} {l5 : Int32} {l6 : Int32} {s1 : Int32} {s2 : Int32} {s3 : Int32} {K : kS} (F : FX ΦC σ.sh σ.r) (w : ib s1 120 ∧ (ib l5 120 ∧ ((l6 ≤ 0 → ib l5 120 ∧ (C_X0_layGroup_20 Z (d + 1) ((σ.wi 92 s1.toNatClampNeg (s2 + s3)).wi 92 l5.toNatClampNeg (((σ.wi 92 s1.toNatClampNeg (s2 + s3)).i 92 l5.toNatClampNeg) + (0 : Int32))) l1 l2 l3 l4 (l5 + 1) K)) ∧ (¬ l6 ≤ 0 → ib l5 120 ∧ (C_X0_layGroup_20 Z (d + 1) ((σ.wi 92 s1.toNatClampNeg (s2 + s3)).wi 92 l5.toNatClampNeg (((σ.wi 92 s1.toNatClampNeg (s2 + s3)).i 92 l5.toNatClampNeg) + (1 : Int32))) l1 l2 l3 l4 (l5 + 1) K))))) : C_X0_layGroup_72 Z (d + 1) σ l1 l2 l3 l4 l5 l6 s1 s2 s3 K := by
  unfold C_X0_layGroup_72
  refine ab_fin.s1 (i := .iadd) (k := 1) (pc' := 73) (st' := [.int (s2 + s3), .int s1, .ref 92]) (by decide +kernel) rfl rfl ?_
  obtain ⟨e1, w⟩ := w
  refine ab_fin.q_sI (h1 := conc (σ.wi 92 s1.toNatClampNeg (s2 + s3))) (pc' := 74) (by decide +kernel) (c_sI' (F.s t0_92) e1 rfl) rfl ?_
  refine ab_fin.s2 (i := .aload_n 0) (k := 1) (pc' := 75) (lv' := [(0, .ref 84), (1, .int l1), (2, .int l2), (3, .int l3), (4, .int l4), (5, .int l5), (6, .int l6)]) (st' := [.ref 84]) (by decide +kernel) rfl rfl ?_
  refine ab_fin.q_rA (b := 92) (ix := 34) (ci := 1) (k := 13) (pc' := 78) (by decide +kernel) rfl (c_rA (F.s t0_84) rfl (rC_1_13 F t0_84)) rfl ?_
  refine ab_fin.s2 (i := .iload 5) (k := 2) (pc' := 80) (lv' := [(0, .ref 84), (1, .int l1), (2, .int l2), (3, .int l3), (4, .int l4), (5, .int l5), (6, .int l6)]) (st' := [.int l5, .ref 92]) (by decide +kernel) rfl rfl ?_
  refine ab_fin.s1 (i := .dup2) (k := 1) (pc' := 81) (st' := [.int l5, .ref 92, .int l5, .ref 92]) (by decide +kernel) rfl rfl ?_
  obtain ⟨e2, w⟩ := w
  refine ab_fin.q_eI (x := ((σ.wi 92 s1.toNatClampNeg (s2 + s3)).i 92 l5.toNatClampNeg)) (pc' := 82) (by decide +kernel) (c_eI' (F.s t0_92) e2 rfl) rfl ?_
  refine ab_fin.s2 (i := .iload 6) (k := 2) (pc' := 84) (lv' := [(0, .ref 84), (1, .int l1), (2, .int l2), (3, .int l3), (4, .int l4), (5, .int l5), (6, .int l6)]) (st' := [.int l6, .int ((σ.wi 92 s1.toNatClampNeg (s2 + s3)).i 92 l5.toNatClampNeg), .int l5, .ref 92]) (by decide +kernel) rfl rfl ?_
  refine ab_fin.br (c := l6 ≤ 0) (i := .ifCond .le 7) (off := 7) (t := 91) (pc' := 87) (r := [.int ((σ.wi 92 s1.toNatClampNeg (s2 + s3)).i 92 l5.toNatClampNeg), .int l5, .ref 92]) (by decide +kernel) rfl (by decide +kernel) rfl (fun q => ?_) (fun q => ?_)
  · replace w := w.1 q
    refine ab_fin.s1i (i := .iconst 0) (k := 1) (pc' := 92) (n := 0) (by decide +kernel) rfl (by decide +kernel) rfl ?_
    refine ab_fin.s1 (i := .iadd) (k := 1) (pc' := 93) (st' := [.int (((σ.wi 92 s1.toNatClampNeg (s2 + s3)).i 92 l5.toNatClampNeg) + (0 : Int32)), .int l5, .ref 92]) (by decide +kernel) rfl rfl ?_
    obtain ⟨e3, w⟩ := w
    refine ab_fin.q_sI (h1 := conc ((σ.wi 92 s1.toNatClampNeg (s2 + s3)).wi 92 l5.toNatClampNeg (((σ.wi 92 s1.toNatClampNeg (s2 + s3)).i 92 l5.toNatClampNeg) + (0 : Int32)))) (pc' := 94) (by decide +kernel) (c_sI' (F.s t0_92) e3 rfl) rfl ?_
    refine ab_fin.q_inc (n := 5) (c := 1) (pc' := 97) (lv' := [(5, .int (l5 + 1)), (0, .ref 84), (1, .int l1), (2, .int l2), (3, .int l3), (4, .int l4), (6, .int l6)]) (by decide +kernel) (by decide) rfl rfl rfl rfl ?_
    refine ab_fin.s3 (i := .goto (-77)) (k := 3) (t := 20) (st' := []) (by decide +kernel) (ab_gto (by decide +kernel)) ?_
    exact ab_fin.lv ⟨(List.forall_mem_cons.mpr ⟨(List.Mem.tail _ (List.Mem.head _)), (List.forall_mem_cons.mpr ⟨(List.Mem.tail _ (List.Mem.tail _ (List.Mem.head _))), (List.forall_mem_cons.mpr ⟨(List.Mem.tail _ (List.Mem.tail _ (List.Mem.tail _ (List.Mem.head _)))), (List.forall_mem_cons.mpr ⟨(List.Mem.tail _ (List.Mem.tail _ (List.Mem.tail _ (List.Mem.tail _ (List.Mem.head _))))), (List.forall_mem_cons.mpr ⟨(List.Mem.tail _ (List.Mem.tail _ (List.Mem.tail _ (List.Mem.tail _ (List.Mem.tail _ (List.Mem.head _)))))), (List.forall_mem_cons.mpr ⟨(List.Mem.head _), (fun _ h => absurd h List.not_mem_nil)⟩)⟩)⟩)⟩)⟩)⟩), (show ([5, 0, 1, 2, 3, 4, 6] : List Nat).Nodup from by decide)⟩ w
  · replace w := w.2 q
    refine ab_fin.s1i (i := .iconst 1) (k := 1) (pc' := 88) (n := 1) (by decide +kernel) rfl (by decide +kernel) rfl ?_
    refine ab_fin.s3 (i := .goto 4) (k := 3) (t := 92) (st' := [.int 1, .int ((σ.wi 92 s1.toNatClampNeg (s2 + s3)).i 92 l5.toNatClampNeg), .int l5, .ref 92]) (by decide +kernel) (ab_gto (by decide +kernel)) ?_
    refine ab_fin.s1 (i := .iadd) (k := 1) (pc' := 93) (st' := [.int (((σ.wi 92 s1.toNatClampNeg (s2 + s3)).i 92 l5.toNatClampNeg) + (1 : Int32)), .int l5, .ref 92]) (by decide +kernel) rfl rfl ?_
    obtain ⟨e4, w⟩ := w
    refine ab_fin.q_sI (h1 := conc ((σ.wi 92 s1.toNatClampNeg (s2 + s3)).wi 92 l5.toNatClampNeg (((σ.wi 92 s1.toNatClampNeg (s2 + s3)).i 92 l5.toNatClampNeg) + (1 : Int32)))) (pc' := 94) (by decide +kernel) (c_sI' (F.s t0_92) e4 rfl) rfl ?_
    refine ab_fin.q_inc (n := 5) (c := 1) (pc' := 97) (lv' := [(5, .int (l5 + 1)), (0, .ref 84), (1, .int l1), (2, .int l2), (3, .int l3), (4, .int l4), (6, .int l6)]) (by decide +kernel) (by decide) rfl rfl rfl rfl ?_
    refine ab_fin.s3 (i := .goto (-77)) (k := 3) (t := 20) (st' := []) (by decide +kernel) (ab_gto (by decide +kernel)) ?_
    exact ab_fin.lv ⟨(List.forall_mem_cons.mpr ⟨(List.Mem.tail _ (List.Mem.head _)), (List.forall_mem_cons.mpr ⟨(List.Mem.tail _ (List.Mem.tail _ (List.Mem.head _))), (List.forall_mem_cons.mpr ⟨(List.Mem.tail _ (List.Mem.tail _ (List.Mem.tail _ (List.Mem.head _)))), (List.forall_mem_cons.mpr ⟨(List.Mem.tail _ (List.Mem.tail _ (List.Mem.tail _ (List.Mem.tail _ (List.Mem.head _))))), (List.forall_mem_cons.mpr ⟨(List.Mem.tail _ (List.Mem.tail _ (List.Mem.tail _ (List.Mem.tail _ (List.Mem.tail _ (List.Mem.head _)))))), (List.forall_mem_cons.mpr ⟨(List.Mem.head _), (fun _ h => absurd h List.not_mem_nil)⟩)⟩)⟩)⟩)⟩)⟩), (show ([5, 0, 1, 2, 3, 4, 6] : List Nat).Nodup from by decide)⟩ w
theorem T_X0_layGroup_109 {Z : zT} {d : Nat} {σ : Sg} {l1 : Int32} {l2 : Int32} {l3 : Int32} {l4 : Int32} {K : kS} (F : FX ΦC σ.sh σ.r) (w : (l1 ≤ l4 → K (.inl (some (.int l1))) σ) ∧ (¬ l1 ≤ l4 → C_X0_pickNext_0 Z d σ l1 l2 (yI K fun v3 τ1 => (0 ≤ v3 → ib v3 120 ∧ (ib (l3 + l4) 3328 ∧ (ib v3 120 ∧ (C_X0_layGroup_158 Z (d + 1) ((τ1.wi 85 ((l3 + l4).toNatClampNeg) (τ1.i 91 v3.toNatClampNeg)).wi 92 v3.toNatClampNeg (-1 : Int32)) l1 l2 l3 l4 v3 0 K)))) ∧ (¬ 0 ≤ v3 → K (.inl (some (.int l4))) τ1)))) : C_X0_layGroup_109 Z (d + 1) σ l1 l2 l3 l4 K := by
  unfold C_X0_layGroup_109
  refine ab_fin.s2 (i := .iload 4) (k := 2) (pc' := 111) (lv' := [(0, .ref 84), (1, .int l1), (2, .int l2), (3, .int l3), (4, .int l4)]) (st' := [.int l4]) (by decide +kernel) rfl rfl ?_
  refine ab_fin.s2 (i := .iload_n 1) (k := 1) (pc' := 112) (lv' := [(0, .ref 84), (1, .int l1), (2, .int l2), (3, .int l3), (4, .int l4)]) (st' := [.int l1, .int l4]) (by decide +kernel) rfl rfl ?_
  refine ab_fin.br (c := l1 ≤ l4) (i := .if_icmp .ge 113) (off := 113) (t := 225) (pc' := 115) (r := []) (by decide +kernel) rfl (by decide +kernel) rfl (fun q => ?_) (fun q => ?_)
  · replace w := w.1 q
    refine ab_fin.s2 (i := .iload_n 1) (k := 1) (pc' := 226) (lv' := [(0, .ref 84), (1, .int l1), (2, .int l2), (3, .int l3), (4, .int l4)]) (st' := [.int l1]) (by decide +kernel) rfl rfl ?_
    exact ab_fin.q_ret (i := .ireturn) (k := 1) (v := some (.int l1)) (by decide +kernel) rfl F w
  · replace w := w.2 q
    refine ab_fin.s2 (i := .aload_n 0) (k := 1) (pc' := 116) (lv' := [(0, .ref 84), (1, .int l1), (2, .int l2), (3, .int l3), (4, .int l4)]) (st' := [.ref 84]) (by decide +kernel) rfl rfl ?_
    refine ab_fin.s2 (i := .iload_n 1) (k := 1) (pc' := 117) (lv' := [(0, .ref 84), (1, .int l1), (2, .int l2), (3, .int l3), (4, .int l4)]) (st' := [.int l1, .ref 84]) (by decide +kernel) rfl rfl ?_
    refine ab_fin.s2 (i := .iload_n 2) (k := 1) (pc' := 118) (lv' := [(0, .ref 84), (1, .int l1), (2, .int l2), (3, .int l3), (4, .int l4)]) (st' := [.int l2, .int l1, .ref 84]) (by decide +kernel) rfl rfl ?_
    refine ab_fin.q_yI (i := .invokevirtual 160) (k := 3) (y := 11) (As := [.ref 84, .int l1, .int l2]) (rest := []) (M' := (mX0_pickNext, [])) (lv2 := [(0, .ref 84), (1, .int l1), (2, .int l2)]) (pc' := 121) (X := K) (by decide +kernel) (ab_cv rfl rfl (conc_get (σ := σ) (F.s t0_84)) ⟨(Nat.le_of_ble_eq_true rfl), (Nat.le_of_ble_eq_true rfl)⟩ rfl) rfl (Nat.le_of_ble_eq_true rfl) rfl rfl (hY_no fun E => rfl) w (fun v3 τ1 F2 w => ?_)
    refine ab_fin.s2 (i := .istore 5) (k := 2) (pc' := 123) (lv' := [(5, .int v3), (0, .ref 84), (1, .int l1), (2, .int l2), (3, .int l3), (4, .int l4)]) (st' := []) (by decide +kernel) rfl rfl ?_
    refine ab_fin.s2 (i := .iload 5) (k := 2) (pc' := 125) (lv' := [(5, .int v3), (0, .ref 84), (1, .int l1), (2, .int l2), (3, .int l3), (4, .int l4)]) (st' := [.int v3]) (by decide +kernel) rfl rfl ?_
    refine ab_fin.br (c := 0 ≤ v3) (i := .ifCond .ge 6) (off := 6) (t := 131) (pc' := 128) (r := []) (by decide +kernel) rfl (by decide +kernel) rfl (fun q => ?_) (fun q => ?_)
    · replace w := w.1 q
      refine ab_fin.s2 (i := .aload_n 0) (k := 1) (pc' := 132) (lv' := [(5, .int v3), (0, .ref 84), (1, .int l1), (2, .int l2), (3, .int l3), (4, .int l4)]) (st' := [.ref 84]) (by decide +kernel) rfl rfl ?_
      refine ab_fin.q_rA (b := 85) (ix := 11) (ci := 1) (k := 5) (pc' := 135) (by decide +kernel) rfl (c_rA (F2.s t0_84) rfl (rC_1_5 F2 t0_84)) rfl ?_
      refine ab_fin.s2 (i := .iload_n 3) (k := 1) (pc' := 136) (lv' := [(5, .int v3), (0, .ref 84), (1, .int l1), (2, .int l2), (3, .int l3), (4, .int l4)]) (st' := [.int l3, .ref 85]) (by decide +kernel) rfl rfl ?_
      refine ab_fin.s2 (i := .iload 4) (k := 2) (pc' := 138) (lv' := [(5, .int v3), (0, .ref 84), (1, .int l1), (2, .int l2), (3, .int l3), (4, .int l4)]) (st' := [.int l4, .int l3, .ref 85]) (by decide +kernel) rfl rfl ?_
      refine ab_fin.s1 (i := .iadd) (k := 1) (pc' := 139) (st' := [.int (l3 + l4), .ref 85]) (by decide +kernel) rfl rfl ?_
      refine ab_fin.s2 (i := .aload_n 0) (k := 1) (pc' := 140) (lv' := [(5, .int v3), (0, .ref 84), (1, .int l1), (2, .int l2), (3, .int l3), (4, .int l4)]) (st' := [.ref 84, .int (l3 + l4), .ref 85]) (by decide +kernel) rfl rfl ?_
      refine ab_fin.q_rA (b := 91) (ix := 31) (ci := 1) (k := 12) (pc' := 143) (by decide +kernel) rfl (c_rA (F2.s t0_84) rfl (rC_1_12 F2 t0_84)) rfl ?_
      refine ab_fin.s2 (i := .iload 5) (k := 2) (pc' := 145) (lv' := [(5, .int v3), (0, .ref 84), (1, .int l1), (2, .int l2), (3, .int l3), (4, .int l4)]) (st' := [.int v3, .ref 91, .int (l3 + l4), .ref 85]) (by decide +kernel) rfl rfl ?_
      obtain ⟨e4, w⟩ := w
      refine ab_fin.q_eI (x := (τ1.i 91 v3.toNatClampNeg)) (pc' := 146) (by decide +kernel) (c_eI' (F2.s t0_91) e4 rfl) rfl ?_
      obtain ⟨e5, w⟩ := w
      refine ab_fin.q_sI (h1 := conc (τ1.wi 85 ((l3 + l4).toNatClampNeg) (τ1.i 91 v3.toNatClampNeg))) (pc' := 147) (by decide +kernel) (c_sI' (F2.s t0_85) e5 rfl) rfl ?_
      refine ab_fin.s2 (i := .aload_n 0) (k := 1) (pc' := 148) (lv' := [(5, .int v3), (0, .ref 84), (1, .int l1), (2, .int l2), (3, .int l3), (4, .int l4)]) (st' := [.ref 84]) (by decide +kernel) rfl rfl ?_
      refine ab_fin.q_rA (b := 92) (ix := 34) (ci := 1) (k := 13) (pc' := 151) (by decide +kernel) rfl (c_rA (F2.s t0_84) rfl (rC_1_13 F2 t0_84)) rfl ?_
      refine ab_fin.s2 (i := .iload 5) (k := 2) (pc' := 153) (lv' := [(5, .int v3), (0, .ref 84), (1, .int l1), (2, .int l2), (3, .int l3), (4, .int l4)]) (st' := [.int v3, .ref 92]) (by decide +kernel) rfl rfl ?_
      refine ab_fin.s1i (i := .iconst (-1)) (k := 1) (pc' := 154) (n := (-1)) (by decide +kernel) rfl (by decide +kernel) rfl ?_
      obtain ⟨e6, w⟩ := w
      refine ab_fin.q_sI (h1 := conc ((τ1.wi 85 ((l3 + l4).toNatClampNeg) (τ1.i 91 v3.toNatClampNeg)).wi 92 v3.toNatClampNeg (-1 : Int32))) (pc' := 155) (by decide +kernel) (c_sI' (F2.s t0_92) e6 rfl) rfl ?_
      refine ab_fin.s1i (i := .iconst 0) (k := 1) (pc' := 156) (n := 0) (by decide +kernel) rfl (by decide +kernel) rfl ?_
      refine ab_fin.s2 (i := .istore 6) (k := 2) (pc' := 158) (lv' := [(6, .int 0), (5, .int v3), (0, .ref 84), (1, .int l1), (2, .int l2), (3, .int l3), (4, .int l4)]) (st' := []) (by decide +kernel) rfl rfl ?_
      exact ab_fin.lv ⟨(List.forall_mem_cons.mpr ⟨(List.Mem.tail _ (List.Mem.tail _ (List.Mem.head _))), (List.forall_mem_cons.mpr ⟨(List.Mem.tail _ (List.Mem.tail _ (List.Mem.tail _ (List.Mem.head _)))), (List.forall_mem_cons.mpr ⟨(List.Mem.tail _ (List.Mem.tail _ (List.Mem.tail _ (List.Mem.tail _ (List.Mem.head _))))), (List.forall_mem_cons.mpr ⟨(List.Mem.tail _ (List.Mem.tail _ (List.Mem.tail _ (List.Mem.tail _ (List.Mem.tail _ (List.Mem.head _)))))), (List.forall_mem_cons.mpr ⟨(List.Mem.tail _ (List.Mem.tail _ (List.Mem.tail _ (List.Mem.tail _ (List.Mem.tail _ (List.Mem.tail _ (List.Mem.head _))))))), (List.forall_mem_cons.mpr ⟨(List.Mem.tail _ (List.Mem.head _)), (List.forall_mem_cons.mpr ⟨(List.Mem.head _), (fun _ h => absurd h List.not_mem_nil)⟩)⟩)⟩)⟩)⟩)⟩)⟩), (show ([6, 5, 0, 1, 2, 3, 4] : List Nat).Nodup from by decide)⟩ w
    · replace w := w.2 q
      refine ab_fin.s2 (i := .iload 4) (k := 2) (pc' := 130) (lv' := [(5, .int v3), (0, .ref 84), (1, .int l1), (2, .int l2), (3, .int l3), (4, .int l4)]) (st' := [.int l4]) (by decide +kernel) rfl rfl ?_
      exact ab_fin.q_ret (i := .ireturn) (k := 1) (v := some (.int l4)) (by decide +kernel) rfl F2 w
theorem T_X0_layGroup_158 {Z : zT} {d : Nat} {σ : Sg} {l1 : Int32} {l2 : Int32} {l3 : Int32} {l4 : Int32} {l5 : Int32} {l6 : Int32} {K : kS} (F : FX ΦC σ.sh σ.r) (w : (l1 ≤ l6 → C_X0_layGroup_109 Z (d + 1) σ l1 l2 l3 (l4 + 1) K) ∧ (¬ l1 ≤ l6 → ib l6 120 ∧ (((σ.i 92 l6.toNatClampNeg) ≤ 0 → C_X0_layGroup_158 Z (d + 1) σ l1 l2 l3 l4 l5 (l6 + 1) K) ∧ (¬ (σ.i 92 l6.toNatClampNeg) ≤ 0 → ib l5 120 ∧ (ib l6 120 ∧ (C_X6_compare_0 Z d σ (σ.i 91 l5.toNatClampNeg) (σ.i 91 l6.toNatClampNeg) 89 (yI K fun v6 τ4 => (0 ≤ v6 → C_X0_layGroup_158 Z (d + 1) τ4 l1 l2 l3 l4 l5 (l6 + 1) K) ∧ (¬ 0 ≤ v6 → ib l6 120 ∧ (ib l6 120 ∧ (C_X0_layGroup_158 Z (d + 1) (τ4.wi 92 l6.toNatClampNeg ((τ4.i 92 l6.toNatClampNeg) - (1 : Int32))) l1 l2 l3 l4 l5 (l6 + 1) K)))))))))) : C_X0_layGroup_158 Z (d + 1) σ l1 l2 l3 l4 l5 l6 K := by
  unfold C_X0_layGroup_158
  refine ab_fin.s2 (i := .iload 6) (k := 2) (pc' := 160) (lv' := [(0, .ref 84), (1, .int l1), (2, .int l2), (3, .int l3), (4, .int l4), (5, .int l5), (6, .int l6)]) (st' := [.int l6]) (by decide +kernel) rfl rfl ?_
  refine ab_fin.s2 (i := .iload_n 1) (k := 1) (pc' := 161) (lv' := [(0, .ref 84), (1, .int l1), (2, .int l2), (3, .int l3), (4, .int l4), (5, .int l5), (6, .int l6)]) (st' := [.int l1, .int l6]) (by decide +kernel) rfl rfl ?_
  refine ab_fin.br (c := l1 ≤ l6) (i := .if_icmp .ge 58) (off := 58) (t := 219) (pc' := 164) (r := []) (by decide +kernel) rfl (by decide +kernel) rfl (fun q => ?_) (fun q => ?_)
  · replace w := w.1 q
    refine ab_fin.q_inc (n := 4) (c := 1) (pc' := 222) (lv' := [(4, .int (l4 + 1)), (0, .ref 84), (1, .int l1), (2, .int l2), (3, .int l3), (5, .int l5), (6, .int l6)]) (by decide +kernel) (by decide) rfl rfl rfl rfl ?_
    refine ab_fin.s3 (i := .goto (-113)) (k := 3) (t := 109) (st' := []) (by decide +kernel) (ab_gto (by decide +kernel)) ?_
    exact ab_fin.lv ⟨(List.forall_mem_cons.mpr ⟨(List.Mem.tail _ (List.Mem.head _)), (List.forall_mem_cons.mpr ⟨(List.Mem.tail _ (List.Mem.tail _ (List.Mem.head _))), (List.forall_mem_cons.mpr ⟨(List.Mem.tail _ (List.Mem.tail _ (List.Mem.tail _ (List.Mem.head _)))), (List.forall_mem_cons.mpr ⟨(List.Mem.tail _ (List.Mem.tail _ (List.Mem.tail _ (List.Mem.tail _ (List.Mem.head _))))), (List.forall_mem_cons.mpr ⟨(List.Mem.head _), (fun _ h => absurd h List.not_mem_nil)⟩)⟩)⟩)⟩)⟩), (show ([4, 0, 1, 2, 3, 5, 6] : List Nat).Nodup from by decide)⟩ w
  · replace w := w.2 q
    refine ab_fin.s2 (i := .aload_n 0) (k := 1) (pc' := 165) (lv' := [(0, .ref 84), (1, .int l1), (2, .int l2), (3, .int l3), (4, .int l4), (5, .int l5), (6, .int l6)]) (st' := [.ref 84]) (by decide +kernel) rfl rfl ?_
    refine ab_fin.q_rA (b := 92) (ix := 34) (ci := 1) (k := 13) (pc' := 168) (by decide +kernel) rfl (c_rA (F.s t0_84) rfl (rC_1_13 F t0_84)) rfl ?_
    refine ab_fin.s2 (i := .iload 6) (k := 2) (pc' := 170) (lv' := [(0, .ref 84), (1, .int l1), (2, .int l2), (3, .int l3), (4, .int l4), (5, .int l5), (6, .int l6)]) (st' := [.int l6, .ref 92]) (by decide +kernel) rfl rfl ?_
    obtain ⟨e1, w⟩ := w
    refine ab_fin.q_eI (x := (σ.i 92 l6.toNatClampNeg)) (pc' := 171) (by decide +kernel) (c_eI' (F.s t0_92) e1 rfl) rfl ?_
    refine ab_fin.br (c := (σ.i 92 l6.toNatClampNeg) ≤ 0) (i := .ifCond .le 42) (off := 42) (t := 213) (pc' := 174) (r := []) (by decide +kernel) rfl (by decide +kernel) rfl (fun q => ?_) (fun q => ?_)
    · replace w := w.1 q
      refine ab_fin.q_inc (n := 6) (c := 1) (pc' := 216) (lv' := [(6, .int (l6 + 1)), (0, .ref 84), (1, .int l1), (2, .int l2), (3, .int l3), (4, .int l4), (5, .int l5)]) (by decide +kernel) (by decide) rfl rfl rfl rfl ?_
      refine ab_fin.s3 (i := .goto (-58)) (k := 3) (t := 158) (st' := []) (by decide +kernel) (ab_gto (by decide +kernel)) ?_
      exact ab_fin.lv ⟨(List.forall_mem_cons.mpr ⟨(List.Mem.tail _ (List.Mem.head _)), (List.forall_mem_cons.mpr ⟨(List.Mem.tail _ (List.Mem.tail _ (List.Mem.head _))), (List.forall_mem_cons.mpr ⟨(List.Mem.tail _ (List.Mem.tail _ (List.Mem.tail _ (List.Mem.head _)))), (List.forall_mem_cons.mpr ⟨(List.Mem.tail _ (List.Mem.tail _ (List.Mem.tail _ (List.Mem.tail _ (List.Mem.head _))))), (List.forall_mem_cons.mpr ⟨(List.Mem.tail _ (List.Mem.tail _ (List.Mem.tail _ (List.Mem.tail _ (List.Mem.tail _ (List.Mem.head _)))))), (List.forall_mem_cons.mpr ⟨(List.Mem.tail _ (List.Mem.tail _ (List.Mem.tail _ (List.Mem.tail _ (List.Mem.tail _ (List.Mem.tail _ (List.Mem.head _))))))), (List.forall_mem_cons.mpr ⟨(List.Mem.head _), (fun _ h => absurd h List.not_mem_nil)⟩)⟩)⟩)⟩)⟩)⟩)⟩), (show ([6, 0, 1, 2, 3, 4, 5] : List Nat).Nodup from by decide)⟩ w
    · replace w := w.2 q
      refine ab_fin.s2 (i := .aload_n 0) (k := 1) (pc' := 175) (lv' := [(0, .ref 84), (1, .int l1), (2, .int l2), (3, .int l3), (4, .int l4), (5, .int l5), (6, .int l6)]) (st' := [.ref 84]) (by decide +kernel) rfl rfl ?_
      refine ab_fin.q_rA (b := 46) (ix := 41) (ci := 1) (k := 1) (pc' := 178) (by decide +kernel) rfl (c_rA (F.s t0_84) rfl (rC_1_1 F t0_84)) rfl ?_
      refine ab_fin.s2 (i := .aload_n 0) (k := 1) (pc' := 179) (lv' := [(0, .ref 84), (1, .int l1), (2, .int l2), (3, .int l3), (4, .int l4), (5, .int l5), (6, .int l6)]) (st' := [.ref 84, .ref 46]) (by decide +kernel) rfl rfl ?_
      refine ab_fin.q_rA (b := 91) (ix := 31) (ci := 1) (k := 12) (pc' := 182) (by decide +kernel) rfl (c_rA (F.s t0_84) rfl (rC_1_12 F t0_84)) rfl ?_
      refine ab_fin.s2 (i := .iload 5) (k := 2) (pc' := 184) (lv' := [(0, .ref 84), (1, .int l1), (2, .int l2), (3, .int l3), (4, .int l4), (5, .int l5), (6, .int l6)]) (st' := [.int l5, .ref 91, .ref 46]) (by decide +kernel) rfl rfl ?_
      obtain ⟨e2, w⟩ := w
      refine ab_fin.q_eI (x := (σ.i 91 l5.toNatClampNeg)) (pc' := 185) (by decide +kernel) (c_eI' (F.s t0_91) e2 rfl) rfl ?_
      refine ab_fin.s2 (i := .aload_n 0) (k := 1) (pc' := 186) (lv' := [(0, .ref 84), (1, .int l1), (2, .int l2), (3, .int l3), (4, .int l4), (5, .int l5), (6, .int l6)]) (st' := [.ref 84, .int (σ.i 91 l5.toNatClampNeg), .ref 46]) (by decide +kernel) rfl rfl ?_
      refine ab_fin.q_rA (b := 91) (ix := 31) (ci := 1) (k := 12) (pc' := 189) (by decide +kernel) rfl (c_rA (F.s t0_84) rfl (rC_1_12 F t0_84)) rfl ?_
      refine ab_fin.s2 (i := .iload 6) (k := 2) (pc' := 191) (lv' := [(0, .ref 84), (1, .int l1), (2, .int l2), (3, .int l3), (4, .int l4), (5, .int l5), (6, .int l6)]) (st' := [.int l6, .ref 91, .int (σ.i 91 l5.toNatClampNeg), .ref 46]) (by decide +kernel) rfl rfl ?_
      obtain ⟨e3, w⟩ := w
      refine ab_fin.q_eI (x := (σ.i 91 l6.toNatClampNeg)) (pc' := 192) (by decide +kernel) (c_eI' (F.s t0_91) e3 rfl) rfl ?_
      refine ab_fin.s2 (i := .aload_n 0) (k := 1) (pc' := 193) (lv' := [(0, .ref 84), (1, .int l1), (2, .int l2), (3, .int l3), (4, .int l4), (5, .int l5), (6, .int l6)]) (st' := [.ref 84, .int (σ.i 91 l6.toNatClampNeg), .int (σ.i 91 l5.toNatClampNeg), .ref 46]) (by decide +kernel) rfl rfl ?_
      refine ab_fin.q_rA (b := 89) (ix := 25) (ci := 1) (k := 9) (pc' := 196) (by decide +kernel) rfl (c_rA (F.s t0_84) rfl (rC_1_9 F t0_84)) rfl ?_
      refine ab_fin.q_yI (i := .invokevirtual 155) (k := 3) (y := 1538) (As := [.ref 46, .int (σ.i 91 l5.toNatClampNeg), .int (σ.i 91 l6.toNatClampNeg), .ref 89]) (rest := []) (M' := (mX6_compare, [])) (lv2 := [(0, .ref 46), (1, .int (σ.i 91 l5.toNatClampNeg)), (2, .int (σ.i 91 l6.toNatClampNeg)), (3, .ref 89)]) (pc' := 199) (X := K) (by decide +kernel) (ab_cv rfl rfl (conc_get (σ := σ) (F.s t0_46)) ⟨(Nat.le_of_ble_eq_true rfl), (Nat.le_of_ble_eq_true rfl)⟩ rfl) rfl (Nat.le_of_ble_eq_true rfl) rfl rfl (hY_no fun E => rfl) w (fun v6 τ4 F5 w => ?_)
      refine ab_fin.br (c := 0 ≤ v6) (i := .ifCond .ge 14) (off := 14) (t := 213) (pc' := 202) (r := []) (by decide +kernel) rfl (by decide +kernel) rfl (fun q => ?_) (fun q => ?_)
      · replace w := w.1 q
        refine ab_fin.q_inc (n := 6) (c := 1) (pc' := 216) (lv' := [(6, .int (l6 + 1)), (0, .ref 84), (1, .int l1), (2, .int l2), (3, .int l3), (4, .int l4), (5, .int l5)]) (by decide +kernel) (by decide) rfl rfl rfl rfl ?_
        refine ab_fin.s3 (i := .goto (-58)) (k := 3) (t := 158) (st' := []) (by decide +kernel) (ab_gto (by decide +kernel)) ?_
        exact ab_fin.lv ⟨(List.forall_mem_cons.mpr ⟨(List.Mem.tail _ (List.Mem.head _)), (List.forall_mem_cons.mpr ⟨(List.Mem.tail _ (List.Mem.tail _ (List.Mem.head _))), (List.forall_mem_cons.mpr ⟨(List.Mem.tail _ (List.Mem.tail _ (List.Mem.tail _ (List.Mem.head _)))), (List.forall_mem_cons.mpr ⟨(List.Mem.tail _ (List.Mem.tail _ (List.Mem.tail _ (List.Mem.tail _ (List.Mem.head _))))), (List.forall_mem_cons.mpr ⟨(List.Mem.tail _ (List.Mem.tail _ (List.Mem.tail _ (List.Mem.tail _ (List.Mem.tail _ (List.Mem.head _)))))), (List.forall_mem_cons.mpr ⟨(List.Mem.tail _ (List.Mem.tail _ (List.Mem.tail _ (List.Mem.tail _ (List.Mem.tail _ (List.Mem.tail _ (List.Mem.head _))))))), (List.forall_mem_cons.mpr ⟨(List.Mem.head _), (fun _ h => absurd h List.not_mem_nil)⟩)⟩)⟩)⟩)⟩)⟩)⟩), (show ([6, 0, 1, 2, 3, 4, 5] : List Nat).Nodup from by decide)⟩ w
      · replace w := w.2 q
        refine ab_fin.s2 (i := .aload_n 0) (k := 1) (pc' := 203) (lv' := [(0, .ref 84), (1, .int l1), (2, .int l2), (3, .int l3), (4, .int l4), (5, .int l5), (6, .int l6)]) (st' := [.ref 84]) (by decide +kernel) rfl rfl ?_
        refine ab_fin.q_rA (b := 92) (ix := 34) (ci := 1) (k := 13) (pc' := 206) (by decide +kernel) rfl (c_rA (F5.s t0_84) rfl (rC_1_13 F5 t0_84)) rfl ?_
        refine ab_fin.s2 (i := .iload 6) (k := 2) (pc' := 208) (lv' := [(0, .ref 84), (1, .int l1), (2, .int l2), (3, .int l3), (4, .int l4), (5, .int l5), (6, .int l6)]) (st' := [.int l6, .ref 92]) (by decide +kernel) rfl rfl ?_
        refine ab_fin.s1 (i := .dup2) (k := 1) (pc' := 209) (st' := [.int l6, .ref 92, .int l6, .ref 92]) (by decide +kernel) rfl rfl ?_
        obtain ⟨e7, w⟩ := w
        refine ab_fin.q_eI (x := (τ4.i 92 l6.toNatClampNeg)) (pc' := 210) (by decide +kernel) (c_eI' (F5.s t0_92) e7 rfl) rfl ?_
        refine ab_fin.s1i (i := .iconst 1) (k := 1) (pc' := 211) (n := 1) (by decide +kernel) rfl (by decide +kernel) rfl ?_
        refine ab_fin.s1 (i := .isub) (k := 1) (pc' := 212) (st' := [.int ((τ4.i 92 l6.toNatClampNeg) - (1 : Int32)), .int l6, .ref 92]) (by decide +kernel) rfl rfl ?_
        obtain ⟨e8, w⟩ := w
        refine ab_fin.q_sI (h1 := conc (τ4.wi 92 l6.toNatClampNeg ((τ4.i 92 l6.toNatClampNeg) - (1 : Int32)))) (pc' := 213) (by decide +kernel) (c_sI' (F5.s t0_92) e8 rfl) rfl ?_
        refine ab_fin.q_inc (n := 6) (c := 1) (pc' := 216) (lv' := [(6, .int (l6 + 1)), (0, .ref 84), (1, .int l1), (2, .int l2), (3, .int l3), (4, .int l4), (5, .int l5)]) (by decide +kernel) (by decide) rfl rfl rfl rfl ?_
        refine ab_fin.s3 (i := .goto (-58)) (k := 3) (t := 158) (st' := []) (by decide +kernel) (ab_gto (by decide +kernel)) ?_
        exact ab_fin.lv ⟨(List.forall_mem_cons.mpr ⟨(List.Mem.tail _ (List.Mem.head _)), (List.forall_mem_cons.mpr ⟨(List.Mem.tail _ (List.Mem.tail _ (List.Mem.head _))), (List.forall_mem_cons.mpr ⟨(List.Mem.tail _ (List.Mem.tail _ (List.Mem.tail _ (List.Mem.head _)))), (List.forall_mem_cons.mpr ⟨(List.Mem.tail _ (List.Mem.tail _ (List.Mem.tail _ (List.Mem.tail _ (List.Mem.head _))))), (List.forall_mem_cons.mpr ⟨(List.Mem.tail _ (List.Mem.tail _ (List.Mem.tail _ (List.Mem.tail _ (List.Mem.tail _ (List.Mem.head _)))))), (List.forall_mem_cons.mpr ⟨(List.Mem.tail _ (List.Mem.tail _ (List.Mem.tail _ (List.Mem.tail _ (List.Mem.tail _ (List.Mem.tail _ (List.Mem.head _))))))), (List.forall_mem_cons.mpr ⟨(List.Mem.head _), (fun _ h => absurd h List.not_mem_nil)⟩)⟩)⟩)⟩)⟩)⟩)⟩), (show ([6, 0, 1, 2, 3, 4, 5] : List Nat).Nodup from by decide)⟩ w
theorem T_X0_pickNext_0 {Z : zT} {d : Nat} {σ : Sg} {l1 : Int32} {l2 : Int32} {K : kS} (F : FX ΦC σ.sh σ.r) (w : C_X0_pickNext_13 Z (d + 1) σ l2 0 (-1) (-1) (l1 - (1 : Int32)) K) : C_X0_pickNext_0 Z (d + 1) σ l1 l2 K := by
  unfold C_X0_pickNext_0
  refine ab_fin.s1i (i := .iconst 0) (k := 1) (pc' := 1) (n := 0) (by decide +kernel) rfl (by decide +kernel) rfl ?_
  refine ab_fin.s2 (i := .istore_n 3) (k := 1) (pc' := 2) (lv' := [(3, .int 0), (0, .ref 84), (1, .int l1), (2, .int l2)]) (st' := []) (by decide +kernel) rfl rfl ?_
  refine ab_fin.s1i (i := .iconst (-1)) (k := 1) (pc' := 3) (n := (-1)) (by decide +kernel) rfl (by decide +kernel) rfl ?_
  refine ab_fin.s2 (i := .istore 4) (k := 2) (pc' := 5) (lv' := [(4, .int (-1)), (3, .int 0), (0, .ref 84), (1, .int l1), (2, .int l2)]) (st' := []) (by decide +kernel) rfl rfl ?_
  refine ab_fin.s1i (i := .iconst (-1)) (k := 1) (pc' := 6) (n := (-1)) (by decide +kernel) rfl (by decide +kernel) rfl ?_
  refine ab_fin.s2 (i := .istore 5) (k := 2) (pc' := 8) (lv' := [(5, .int (-1)), (4, .int (-1)), (3, .int 0), (0, .ref 84), (1, .int l1), (2, .int l2)]) (st' := []) (by decide +kernel) rfl rfl ?_
  refine ab_fin.s2 (i := .iload_n 1) (k := 1) (pc' := 9) (lv' := [(5, .int (-1)), (4, .int (-1)), (3, .int 0), (0, .ref 84), (1, .int l1), (2, .int l2)]) (st' := [.int l1]) (by decide +kernel) rfl rfl ?_
  refine ab_fin.s1i (i := .iconst 1) (k := 1) (pc' := 10) (n := 1) (by decide +kernel) rfl (by decide +kernel) rfl ?_
  refine ab_fin.s1 (i := .isub) (k := 1) (pc' := 11) (st' := [.int (l1 - (1 : Int32))]) (by decide +kernel) rfl rfl ?_
  refine ab_fin.s2 (i := .istore 6) (k := 2) (pc' := 13) (lv' := [(6, .int (l1 - (1 : Int32))), (5, .int (-1)), (4, .int (-1)), (3, .int 0), (0, .ref 84), (1, .int l1), (2, .int l2)]) (st' := []) (by decide +kernel) rfl rfl ?_
  exact ab_fin.lv ⟨(List.forall_mem_cons.mpr ⟨(List.Mem.tail _ (List.Mem.tail _ (List.Mem.tail _ (List.Mem.tail _ (List.Mem.head _))))), (List.forall_mem_cons.mpr ⟨(List.Mem.tail _ (List.Mem.tail _ (List.Mem.tail _ (List.Mem.tail _ (List.Mem.tail _ (List.Mem.tail _ (List.Mem.head _))))))), (List.forall_mem_cons.mpr ⟨(List.Mem.tail _ (List.Mem.tail _ (List.Mem.tail _ (List.Mem.head _)))), (List.forall_mem_cons.mpr ⟨(List.Mem.tail _ (List.Mem.tail _ (List.Mem.head _))), (List.forall_mem_cons.mpr ⟨(List.Mem.tail _ (List.Mem.head _)), (List.forall_mem_cons.mpr ⟨(List.Mem.head _), (fun _ h => absurd h List.not_mem_nil)⟩)⟩)⟩)⟩)⟩)⟩), (show ([6, 5, 4, 3, 0, 1, 2] : List Nat).Nodup from by decide)⟩ w
theorem T_X0_pickNext_13 {Z : zT} {d : Nat} {σ : Sg} {l2 : Int32} {l3 : Int32} {l4 : Int32} {l5 : Int32} {l6 : Int32} {K : kS} (F : FX ΦC σ.sh σ.r) (w : (l6 < 0 → (l2 = 0 → (l3 ≤ 0 → K (.inl (some (.int l5))) σ) ∧ (¬ l3 ≤ 0 → K (.inl (some (.int l4))) σ)) ∧ (¬ l2 = 0 → (¬ l3 = 1 → K (.inl (some (.int (-1)))) σ) ∧ (l3 = 1 → K (.inl (some (.int l4))) σ))) ∧ (¬ l6 < 0 → ib l6 120 ∧ (((σ.i 92 l6.toNatClampNeg) = (-1) → C_X0_pickNext_33 Z (d + 1) σ l2 l3 l4 l5 l6 K) ∧ (¬ (σ.i 92 l6.toNatClampNeg) = (-1) → C_X0_pickNext_33 Z (d + 1) σ l2 l3 l4 l6 l6 K)))) : C_X0_pickNext_13 Z (d + 1) σ l2 l3 l4 l5 l6 K := by
  unfold C_X0_pickNext_13
  refine ab_fin.s2 (i := .iload 6) (k := 2) (pc' := 15) (lv' := [(0, .ref 84), (2, .int l2), (3, .int l3), (4, .int l4), (5, .int l5), (6, .int l6)]) (st' := [.int l6]) (by decide +kernel) rfl rfl ?_
  refine ab_fin.br (c := l6 < 0) (i := .ifCond .lt 41) (off := 41) (t := 56) (pc' := 18) (r := []) (by decide +kernel) rfl (by decide +kernel) rfl (fun q => ?_) (fun q => ?_)
  · replace w := w.1 q
    refine ab_fin.s2 (i := .iload_n 2) (k := 1) (pc' := 57) (lv' := [(0, .ref 84), (2, .int l2), (3, .int l3), (4, .int l4), (5, .int l5), (6, .int l6)]) (st' := [.int l2]) (by decide +kernel) rfl rfl ?_
    refine ab_fin.br (c := l2 = 0) (i := .ifCond .eq 15) (off := 15) (t := 72) (pc' := 60) (r := []) (by decide +kernel) rfl (by decide +kernel) rfl (fun q => ?_) (fun q => ?_)
    · replace w := w.1 q
      refine ab_fin.s2 (i := .iload_n 3) (k := 1) (pc' := 73) (lv' := [(0, .ref 84), (2, .int l2), (3, .int l3), (4, .int l4), (5, .int l5), (6, .int l6)]) (st' := [.int l3]) (by decide +kernel) rfl rfl ?_
      refine ab_fin.br (c := l3 ≤ 0) (i := .ifCond .le 8) (off := 8) (t := 81) (pc' := 76) (r := []) (by decide +kernel) rfl (by decide +kernel) rfl (fun q => ?_) (fun q => ?_)
      · replace w := w.1 q
        refine ab_fin.s2 (i := .iload 5) (k := 2) (pc' := 83) (lv' := [(0, .ref 84), (2, .int l2), (3, .int l3), (4, .int l4), (5, .int l5), (6, .int l6)]) (st' := [.int l5]) (by decide +kernel) rfl rfl ?_
        exact ab_fin.q_ret (i := .ireturn) (k := 1) (v := some (.int l5)) (by decide +kernel) rfl F w
      · replace w := w.2 q
        refine ab_fin.s2 (i := .iload 4) (k := 2) (pc' := 78) (lv' := [(0, .ref 84), (2, .int l2), (3, .int l3), (4, .int l4), (5, .int l5), (6, .int l6)]) (st' := [.int l4]) (by decide +kernel) rfl rfl ?_
        refine ab_fin.s3 (i := .goto 5) (k := 3) (t := 83) (st' := [.int l4]) (by decide +kernel) (ab_gto (by decide +kernel)) ?_
        exact ab_fin.q_ret (i := .ireturn) (k := 1) (v := some (.int l4)) (by decide +kernel) rfl F w
    · replace w := w.2 q
      refine ab_fin.s2 (i := .iload_n 3) (k := 1) (pc' := 61) (lv' := [(0, .ref 84), (2, .int l2), (3, .int l3), (4, .int l4), (5, .int l5), (6, .int l6)]) (st' := [.int l3]) (by decide +kernel) rfl rfl ?_
      refine ab_fin.s1i (i := .iconst 1) (k := 1) (pc' := 62) (n := 1) (by decide +kernel) rfl (by decide +kernel) rfl ?_
      refine ab_fin.br (c := ¬ l3 = 1) (i := .if_icmp .ne 8) (off := 8) (t := 70) (pc' := 65) (r := []) (by decide +kernel) rfl (by decide +kernel) rfl (fun q => ?_) (fun q => ?_)
      · replace w := w.1 q
        refine ab_fin.s1i (i := .iconst (-1)) (k := 1) (pc' := 71) (n := (-1)) (by decide +kernel) rfl (by decide +kernel) rfl ?_
        exact ab_fin.q_ret (i := .ireturn) (k := 1) (v := some (.int (-1))) (by decide +kernel) rfl F w
      · replace w := w.2 (Decidable.of_not_not q)
        refine ab_fin.s2 (i := .iload 4) (k := 2) (pc' := 67) (lv' := [(0, .ref 84), (2, .int l2), (3, .int l3), (4, .int l4), (5, .int l5), (6, .int l6)]) (st' := [.int l4]) (by decide +kernel) rfl rfl ?_
        refine ab_fin.s3 (i := .goto 4) (k := 3) (t := 71) (st' := [.int l4]) (by decide +kernel) (ab_gto (by decide +kernel)) ?_
        exact ab_fin.q_ret (i := .ireturn) (k := 1) (v := some (.int l4)) (by decide +kernel) rfl F w
  · replace w := w.2 q
    refine ab_fin.s2 (i := .aload_n 0) (k := 1) (pc' := 19) (lv' := [(0, .ref 84), (2, .int l2), (3, .int l3), (4, .int l4), (5, .int l5), (6, .int l6)]) (st' := [.ref 84]) (by decide +kernel) rfl rfl ?_
    refine ab_fin.q_rA (b := 92) (ix := 34) (ci := 1) (k := 13) (pc' := 22) (by decide +kernel) rfl (c_rA (F.s t0_84) rfl (rC_1_13 F t0_84)) rfl ?_
    refine ab_fin.s2 (i := .iload 6) (k := 2) (pc' := 24) (lv' := [(0, .ref 84), (2, .int l2), (3, .int l3), (4, .int l4), (5, .int l5), (6, .int l6)]) (st' := [.int l6, .ref 92]) (by decide +kernel) rfl rfl ?_
    obtain ⟨e1, w⟩ := w
    refine ab_fin.q_eI (x := (σ.i 92 l6.toNatClampNeg)) (pc' := 25) (by decide +kernel) (c_eI' (F.s t0_92) e1 rfl) rfl ?_
    refine ab_fin.s1i (i := .iconst (-1)) (k := 1) (pc' := 26) (n := (-1)) (by decide +kernel) rfl (by decide +kernel) rfl ?_
    refine ab_fin.br (c := (σ.i 92 l6.toNatClampNeg) = (-1)) (i := .if_icmp .eq 7) (off := 7) (t := 33) (pc' := 29) (r := []) (by decide +kernel) rfl (by decide +kernel) rfl (fun q => ?_) (fun q => ?_)
    · replace w := w.1 q
      exact ab_fin.lv ⟨(List.forall_mem_cons.mpr ⟨(List.Mem.head _), (List.forall_mem_cons.mpr ⟨(List.Mem.tail _ (List.Mem.head _)), (List.forall_mem_cons.mpr ⟨(List.Mem.tail _ (List.Mem.tail _ (List.Mem.head _))), (List.forall_mem_cons.mpr ⟨(List.Mem.tail _ (List.Mem.tail _ (List.Mem.tail _ (List.Mem.head _)))), (List.forall_mem_cons.mpr ⟨(List.Mem.tail _ (List.Mem.tail _ (List.Mem.tail _ (List.Mem.tail _ (List.Mem.head _))))), (List.forall_mem_cons.mpr ⟨(List.Mem.tail _ (List.Mem.tail _ (List.Mem.tail _ (List.Mem.tail _ (List.Mem.tail _ (List.Mem.head _)))))), (fun _ h => absurd h List.not_mem_nil)⟩)⟩)⟩)⟩)⟩)⟩), (show ([0, 2, 3, 4, 5, 6] : List Nat).Nodup from by decide)⟩ w
    · replace w := w.2 q
      refine ab_fin.s2 (i := .iload 6) (k := 2) (pc' := 31) (lv' := [(0, .ref 84), (2, .int l2), (3, .int l3), (4, .int l4), (5, .int l5), (6, .int l6)]) (st' := [.int l6]) (by decide +kernel) rfl rfl ?_
      refine ab_fin.s2 (i := .istore 5) (k := 2) (pc' := 33) (lv' := [(5, .int l6), (0, .ref 84), (2, .int l2), (3, .int l3), (4, .int l4), (6, .int l6)]) (st' := []) (by decide +kernel) rfl rfl ?_
      exact ab_fin.lv ⟨(List.forall_mem_cons.mpr ⟨(List.Mem.tail _ (List.Mem.head _)), (List.forall_mem_cons.mpr ⟨(List.Mem.tail _ (List.Mem.tail _ (List.Mem.head _))), (List.forall_mem_cons.mpr ⟨(List.Mem.tail _ (List.Mem.tail _ (List.Mem.tail _ (List.Mem.head _)))), (List.forall_mem_cons.mpr ⟨(List.Mem.tail _ (List.Mem.tail _ (List.Mem.tail _ (List.Mem.tail _ (List.Mem.head _))))), (List.forall_mem_cons.mpr ⟨(List.Mem.head _), (List.forall_mem_cons.mpr ⟨(List.Mem.tail _ (List.Mem.tail _ (List.Mem.tail _ (List.Mem.tail _ (List.Mem.tail _ (List.Mem.head _)))))), (fun _ h => absurd h List.not_mem_nil)⟩)⟩)⟩)⟩)⟩)⟩), (show ([5, 0, 2, 3, 4, 6] : List Nat).Nodup from by decide)⟩ w
theorem T_X0_pickNext_33 {Z : zT} {d : Nat} {σ : Sg} {l2 : Int32} {l3 : Int32} {l4 : Int32} {l5 : Int32} {l6 : Int32} {K : kS} (F : FX ΦC σ.sh σ.r) (w : ib l6 120 ∧ ((¬ (σ.i 92 l6.toNatClampNeg) = 0 → C_X0_pickNext_13 Z (d + 1) σ l2 l3 l4 l5 (l6 + (-1)) K) ∧ ((σ.i 92 l6.toNatClampNeg) = 0 → C_X0_pickNext_13 Z (d + 1) σ l2 (l3 + 1) l6 l5 (l6 + (-1)) K))) : C_X0_pickNext_33 Z (d + 1) σ l2 l3 l4 l5 l6 K := by
  unfold C_X0_pickNext_33
  refine ab_fin.s2 (i := .aload_n 0) (k := 1) (pc' := 34) (lv' := [(0, .ref 84), (2, .int l2), (3, .int l3), (4, .int l4), (5, .int l5), (6, .int l6)]) (st' := [.ref 84]) (by decide +kernel) rfl rfl ?_
  refine ab_fin.q_rA (b := 92) (ix := 34) (ci := 1) (k := 13) (pc' := 37) (by decide +kernel) rfl (c_rA (F.s t0_84) rfl (rC_1_13 F t0_84)) rfl ?_
  refine ab_fin.s2 (i := .iload 6) (k := 2) (pc' := 39) (lv' := [(0, .ref 84), (2, .int l2), (3, .int l3), (4, .int l4), (5, .int l5), (6, .int l6)]) (st' := [.int l6, .ref 92]) (by decide +kernel) rfl rfl ?_
  obtain ⟨e1, w⟩ := w
  refine ab_fin.q_eI (x := (σ.i 92 l6.toNatClampNeg)) (pc' := 40) (by decide +kernel) (c_eI' (F.s t0_92) e1 rfl) rfl ?_
  refine ab_fin.br (c := ¬ (σ.i 92 l6.toNatClampNeg) = 0) (i := .ifCond .ne 10) (off := 10) (t := 50) (pc' := 43) (r := []) (by decide +kernel) rfl (by decide +kernel) rfl (fun q => ?_) (fun q => ?_)
  · replace w := w.1 q
    refine ab_fin.q_inc (n := 6) (c := (-1)) (pc' := 53) (lv' := [(6, .int (l6 + (-1))), (0, .ref 84), (2, .int l2), (3, .int l3), (4, .int l4), (5, .int l5)]) (by decide +kernel) (by decide) rfl rfl rfl rfl ?_
    refine ab_fin.s3 (i := .goto (-40)) (k := 3) (t := 13) (st' := []) (by decide +kernel) (ab_gto (by decide +kernel)) ?_
    exact ab_fin.lv ⟨(List.forall_mem_cons.mpr ⟨(List.Mem.tail _ (List.Mem.head _)), (List.forall_mem_cons.mpr ⟨(List.Mem.tail _ (List.Mem.tail _ (List.Mem.head _))), (List.forall_mem_cons.mpr ⟨(List.Mem.tail _ (List.Mem.tail _ (List.Mem.tail _ (List.Mem.head _)))), (List.forall_mem_cons.mpr ⟨(List.Mem.tail _ (List.Mem.tail _ (List.Mem.tail _ (List.Mem.tail _ (List.Mem.head _))))), (List.forall_mem_cons.mpr ⟨(List.Mem.tail _ (List.Mem.tail _ (List.Mem.tail _ (List.Mem.tail _ (List.Mem.tail _ (List.Mem.head _)))))), (List.forall_mem_cons.mpr ⟨(List.Mem.head _), (fun _ h => absurd h List.not_mem_nil)⟩)⟩)⟩)⟩)⟩)⟩), (show ([6, 0, 2, 3, 4, 5] : List Nat).Nodup from by decide)⟩ w
  · replace w := w.2 (Decidable.of_not_not q)
    refine ab_fin.s2 (i := .iload 6) (k := 2) (pc' := 45) (lv' := [(0, .ref 84), (2, .int l2), (3, .int l3), (4, .int l4), (5, .int l5), (6, .int l6)]) (st' := [.int l6]) (by decide +kernel) rfl rfl ?_
    refine ab_fin.s2 (i := .istore 4) (k := 2) (pc' := 47) (lv' := [(4, .int l6), (0, .ref 84), (2, .int l2), (3, .int l3), (5, .int l5), (6, .int l6)]) (st' := []) (by decide +kernel) rfl rfl ?_
    refine ab_fin.q_inc (n := 3) (c := 1) (pc' := 50) (lv' := [(3, .int (l3 + 1)), (4, .int l6), (0, .ref 84), (2, .int l2), (5, .int l5), (6, .int l6)]) (by decide +kernel) (by decide) rfl rfl rfl rfl ?_
    refine ab_fin.q_inc (n := 6) (c := (-1)) (pc' := 53) (lv' := [(6, .int (l6 + (-1))), (3, .int (l3 + 1)), (4, .int l6), (0, .ref 84), (2, .int l2), (5, .int l5)]) (by decide +kernel) (by decide) rfl rfl rfl rfl ?_
    refine ab_fin.s3 (i := .goto (-40)) (k := 3) (t := 13) (st' := []) (by decide +kernel) (ab_gto (by decide +kernel)) ?_
    exact ab_fin.lv ⟨(List.forall_mem_cons.mpr ⟨(List.Mem.tail _ (List.Mem.tail _ (List.Mem.tail _ (List.Mem.head _)))), (List.forall_mem_cons.mpr ⟨(List.Mem.tail _ (List.Mem.tail _ (List.Mem.tail _ (List.Mem.tail _ (List.Mem.head _))))), (List.forall_mem_cons.mpr ⟨(List.Mem.tail _ (List.Mem.head _)), (List.forall_mem_cons.mpr ⟨(List.Mem.tail _ (List.Mem.tail _ (List.Mem.head _))), (List.forall_mem_cons.mpr ⟨(List.Mem.tail _ (List.Mem.tail _ (List.Mem.tail _ (List.Mem.tail _ (List.Mem.tail _ (List.Mem.head _)))))), (List.forall_mem_cons.mpr ⟨(List.Mem.head _), (fun _ h => absurd h List.not_mem_nil)⟩)⟩)⟩)⟩)⟩)⟩), (show ([6, 3, 4, 0, 2, 5] : List Nat).Nodup from by decide)⟩ w
theorem T_X1_open_0 {Z : zT} {d : Nat} {σ : Sg} {l1 : Int32} {K : kS} (F : FX ΦC σ.sh σ.r) (w : ∃ b1, (σ.r 24 0) = Rf.ptr b1 ∧ (∃ n4, σ.sh[b1]? = some (Sh.arr 0 n4) ∧ (((l1 + (901 : Int32)) < (Int32.ofNat n4) → ∃ b5, (σ.r 24 2) = Rf.ptr b5 ∧ (∃ n8, σ.sh[b5]? = some (Sh.arr 0 n8) ∧ (ib l1 n8 ∧ (K (.inl none) (((σ.wi 24 3 l1).wi 24 4 (l1 + (901 : Int32))).wi b5 l1.toNatClampNeg (0 : Int32)))))) ∧ (¬ (l1 + (901 : Int32)) < (Int32.ofNat n4) → ∃ b10, (σ.r 24 0) = Rf.ptr b10 ∧ (∃ n13, σ.sh[b10]? = some (Sh.arr 0 n13) ∧ (∃ b14, (σ.r 24 0) = Rf.ptr b14 ∧ (C_J7_copyOf_59c91_0 Z d ((σ.wi 24 3 l1).wi 24 4 (l1 + (901 : Int32))) b14 (if ((l1 + (901 : Int32)) + (1 : Int32)) < ((2 : Int32) * (Int32.ofNat n13)) then ((2 : Int32) * (Int32.ofNat n13)) else ((l1 + (901 : Int32)) + (1 : Int32))) (yR K fun v18 τ16 => ∃ b20, (τ16.r 24 1) = Rf.ptr b20 ∧ (C_J7_copyOf_59c91_0 Z d (τ16.wr 24 0 (Rf.ptr v18)) b20 (if ((l1 + (901 : Int32)) + (1 : Int32)) < ((2 : Int32) * (Int32.ofNat n13)) then ((2 : Int32) * (Int32.ofNat n13)) else ((l1 + (901 : Int32)) + (1 : Int32))) (yR K fun v24 τ22 => ∃ b26, (τ22.r 24 2) = Rf.ptr b26 ∧ (C_J7_copyOf_59c91_0 Z d (τ22.wr 24 1 (Rf.ptr v24)) b26 (if ((l1 + (901 : Int32)) + (1 : Int32)) < ((2 : Int32) * (Int32.ofNat n13)) then ((2 : Int32) * (Int32.ofNat n13)) else ((l1 + (901 : Int32)) + (1 : Int32))) (yR K fun v30 τ28 => ∃ b32, (Rf.ptr v30) = Rf.ptr b32 ∧ (∃ n35, τ28.sh[b32]? = some (Sh.arr 0 n35) ∧ (ib (τ28.i 24 3) n35 ∧ (K (.inl none) ((τ28.wr 24 2 (Rf.ptr v30)).wi b32 ((τ28.i 24 3).toNatClampNeg) (0 : Int32))))))))))))))))) : C_X1_open_0 Z (d + 1) σ l1 K := by
  unfold C_X1_open_0
  refine ab_fin.s2 (i := .aload_n 0) (k := 1) (pc' := 1) (lv' := [(0, .ref 24), (1, .int l1)]) (st' := [.ref 24]) (by decide +kernel) rfl rfl ?_
  refine ab_fin.s2 (i := .iload_n 1) (k := 1) (pc' := 2) (lv' := [(0, .ref 24), (1, .int l1)]) (st' := [.int l1, .ref 24]) (by decide +kernel) rfl rfl ?_
  refine ab_fin.q_pF (ix := 21) (ci := 2) (k := 3) (h1 := conc (σ.wi 24 3 l1)) (pc' := 5) (by decide +kernel) rfl (c_pI (v := l1) (F.s t0_24) rfl) rfl rfl rfl ?_
  refine ab_fin.s2 (i := .aload_n 0) (k := 1) (pc' := 6) (lv' := [(0, .ref 24), (1, .int l1)]) (st' := [.ref 24]) (by decide +kernel) rfl rfl ?_
  refine ab_fin.s2 (i := .iload_n 1) (k := 1) (pc' := 7) (lv' := [(0, .ref 24), (1, .int l1)]) (st' := [.int l1, .ref 24]) (by decide +kernel) rfl rfl ?_
  refine ab_fin.s1i (i := .sipush 901) (k := 3) (pc' := 10) (n := 901) (by decide +kernel) rfl (by decide +kernel) rfl ?_
  refine ab_fin.s1 (i := .iadd) (k := 1) (pc' := 11) (st' := [.int (l1 + (901 : Int32)), .ref 24]) (by decide +kernel) rfl rfl ?_
  refine ab_fin.q_pF (ix := 25) (ci := 2) (k := 4) (h1 := conc ((σ.wi 24 3 l1).wi 24 4 (l1 + (901 : Int32)))) (pc' := 14) (by decide +kernel) rfl (c_pI (v := (l1 + (901 : Int32))) (F.s t0_24) rfl) rfl rfl rfl ?_
  refine ab_fin.s2 (i := .aload_n 0) (k := 1) (pc' := 15) (lv' := [(0, .ref 24), (1, .int l1)]) (st' := [.ref 24]) (by decide +kernel) rfl rfl ?_
  refine ab_fin.q_rI (x := (l1 + (901 : Int32))) (ix := 25) (ci := 2) (k := 4) (pc' := 18) (by decide +kernel) rfl (c_rI (F.s t0_24) rfl) rfl ?_
  refine ab_fin.s2 (i := .aload_n 0) (k := 1) (pc' := 19) (lv' := [(0, .ref 24), (1, .int l1)]) (st' := [.ref 24, .int (l1 + (901 : Int32))]) (by decide +kernel) rfl rfl ?_
  obtain ⟨b1, e2, w⟩ := w
  refine ab_fin.q_rA (b := b1) (ix := 11) (ci := 2) (k := 0) (pc' := 22) (by decide +kernel) rfl (c_rA (F.s t0_24) rfl e2) rfl ?_
  obtain ⟨n4, e3, w⟩ := w
  refine ab_fin.q_eN (n := (Int32.ofNat n4)) (pc' := 23) (by decide +kernel) (c_eN' e3 (Or.inl (by decide)) rfl) rfl ?_
  refine ab_fin.br (c := (l1 + (901 : Int32)) < (Int32.ofNat n4)) (i := .if_icmp .lt 56) (off := 56) (t := 79) (pc' := 26) (r := []) (by decide +kernel) rfl (by decide +kernel) rfl (fun q => ?_) (fun q => ?_)
  · replace w := w.1 q
    refine ab_fin.s2 (i := .aload_n 0) (k := 1) (pc' := 80) (lv' := [(0, .ref 24), (1, .int l1)]) (st' := [.ref 24]) (by decide +kernel) rfl rfl ?_
    obtain ⟨b5, e6, w⟩ := w
    refine ab_fin.q_rA (b := b5) (ix := 18) (ci := 2) (k := 2) (pc' := 83) (by decide +kernel) rfl (c_rA (F.s t0_24) rfl e6) rfl ?_
    refine ab_fin.s2 (i := .aload_n 0) (k := 1) (pc' := 84) (lv' := [(0, .ref 24), (1, .int l1)]) (st' := [.ref 24, .ref b5]) (by decide +kernel) rfl rfl ?_
    refine ab_fin.q_rI (x := l1) (ix := 21) (ci := 2) (k := 3) (pc' := 87) (by decide +kernel) rfl (c_rI (F.s t0_24) rfl) rfl ?_
    refine ab_fin.s1i (i := .iconst 0) (k := 1) (pc' := 88) (n := 0) (by decide +kernel) rfl (by decide +kernel) rfl ?_
    obtain ⟨n8, e7, w⟩ := w
    obtain ⟨e9, w⟩ := w
    refine ab_fin.q_sI (h1 := conc (((σ.wi 24 3 l1).wi 24 4 (l1 + (901 : Int32))).wi b5 l1.toNatClampNeg (0 : Int32))) (pc' := 89) (by decide +kernel) (c_sI' e7 e9 rfl) rfl ?_
    exact ab_fin.q_ret (i := .return_) (k := 1) (v := none) (by decide +kernel) rfl F w
  · replace w := w.2 q
    refine ab_fin.s2 (i := .aload_n 0) (k := 1) (pc' := 27) (lv' := [(0, .ref 24), (1, .int l1)]) (st' := [.ref 24]) (by decide +kernel) rfl rfl ?_
    refine ab_fin.q_rI (x := (l1 + (901 : Int32))) (ix := 25) (ci := 2) (k := 4) (pc' := 30) (by decide +kernel) rfl (c_rI (F.s t0_24) rfl) rfl ?_
    refine ab_fin.s1i (i := .iconst 1) (k := 1) (pc' := 31) (n := 1) (by decide +kernel) rfl (by decide +kernel) rfl ?_
    refine ab_fin.s1 (i := .iadd) (k := 1) (pc' := 32) (st' := [.int ((l1 + (901 : Int32)) + (1 : Int32))]) (by decide +kernel) rfl rfl ?_
    refine ab_fin.s1i (i := .iconst 2) (k := 1) (pc' := 33) (n := 2) (by decide +kernel) rfl (by decide +kernel) rfl ?_
    refine ab_fin.s2 (i := .aload_n 0) (k := 1) (pc' := 34) (lv' := [(0, .ref 24), (1, .int l1)]) (st' := [.ref 24, .int 2, .int ((l1 + (901 : Int32)) + (1 : Int32))]) (by decide +kernel) rfl rfl ?_
    obtain ⟨b10, e11, w⟩ := w
    refine ab_fin.q_rA (b := b10) (ix := 11) (ci := 2) (k := 0) (pc' := 37) (by decide +kernel) rfl (c_rA (F.s t0_24) rfl e11) rfl ?_
    obtain ⟨n13, e12, w⟩ := w
    refine ab_fin.q_eN (n := (Int32.ofNat n13)) (pc' := 38) (by decide +kernel) (c_eN' e12 (Or.inl (by decide)) rfl) rfl ?_
    refine ab_fin.s1 (i := .imul) (k := 1) (pc' := 39) (st' := [.int ((2 : Int32) * (Int32.ofNat n13)), .int ((l1 + (901 : Int32)) + (1 : Int32))]) (by decide +kernel) rfl rfl ?_
    refine ab_fin.cpy (i := .invokestatic 28) (k := 3) (pc' := 42) (h1 := conc ((σ.wi 24 3 l1).wi 24 4 (l1 + (901 : Int32)))) (st' := [.int (if ((l1 + (901 : Int32)) + (1 : Int32)) < ((2 : Int32) * (Int32.ofNat n13)) then ((2 : Int32) * (Int32.ofNat n13)) else ((l1 + (901 : Int32)) + (1 : Int32)))]) (by decide +kernel) rfl rfl ?_
    refine ab_fin.s2 (i := .istore_n 2) (k := 1) (pc' := 43) (lv' := [(2, .int (if ((l1 + (901 : Int32)) + (1 : Int32)) < ((2 : Int32) * (Int32.ofNat n13)) then ((2 : Int32) * (Int32.ofNat n13)) else ((l1 + (901 : Int32)) + (1 : Int32)))), (0, .ref 24), (1, .int l1)]) (st' := []) (by decide +kernel) rfl rfl ?_
    refine ab_fin.s2 (i := .aload_n 0) (k := 1) (pc' := 44) (lv' := [(2, .int (if ((l1 + (901 : Int32)) + (1 : Int32)) < ((2 : Int32) * (Int32.ofNat n13)) then ((2 : Int32) * (Int32.ofNat n13)) else ((l1 + (901 : Int32)) + (1 : Int32)))), (0, .ref 24), (1, .int l1)]) (st' := [.ref 24]) (by decide +kernel) rfl rfl ?_
    refine ab_fin.s2 (i := .aload_n 0) (k := 1) (pc' := 45) (lv' := [(2, .int (if ((l1 + (901 : Int32)) + (1 : Int32)) < ((2 : Int32) * (Int32.ofNat n13)) then ((2 : Int32) * (Int32.ofNat n13)) else ((l1 + (901 : Int32)) + (1 : Int32)))), (0, .ref 24), (1, .int l1)]) (st' := [.ref 24, .ref 24]) (by decide +kernel) rfl rfl ?_
    obtain ⟨b14, e15, w⟩ := w
    refine ab_fin.q_rA (b := b14) (ix := 11) (ci := 2) (k := 0) (pc' := 48) (by decide +kernel) rfl (c_rA (F.s t0_24) rfl e15) rfl ?_
    refine ab_fin.s2 (i := .iload_n 2) (k := 1) (pc' := 49) (lv' := [(2, .int (if ((l1 + (901 : Int32)) + (1 : Int32)) < ((2 : Int32) * (Int32.ofNat n13)) then ((2 : Int32) * (Int32.ofNat n13)) else ((l1 + (901 : Int32)) + (1 : Int32)))), (0, .ref 24), (1, .int l1)]) (st' := [.int (if ((l1 + (901 : Int32)) + (1 : Int32)) < ((2 : Int32) * (Int32.ofNat n13)) then ((2 : Int32) * (Int32.ofNat n13)) else ((l1 + (901 : Int32)) + (1 : Int32))), .ref b14, .ref 24]) (by decide +kernel) rfl rfl ?_
    refine ab_fin.q_yR (i := .invokestatic 34) (k := 3) (y := 11269) (As := [.ref b14, .int (if ((l1 + (901 : Int32)) + (1 : Int32)) < ((2 : Int32) * (Int32.ofNat n13)) then ((2 : Int32) * (Int32.ofNat n13)) else ((l1 + (901 : Int32)) + (1 : Int32)))]) (rest := [.ref 24]) (M' := (mJ7_copyOf_59c91, [])) (lv2 := [(0, .ref b14), (1, .int (if ((l1 + (901 : Int32)) + (1 : Int32)) < ((2 : Int32) * (Int32.ofNat n13)) then ((2 : Int32) * (Int32.ofNat n13)) else ((l1 + (901 : Int32)) + (1 : Int32))))]) (pc' := 52) (X := K) (by decide +kernel) (ab_cs rfl rfl ⟨(Nat.le_of_ble_eq_true rfl), (Nat.le_of_ble_eq_true rfl)⟩ rfl) rfl (Nat.le_of_ble_eq_true rfl) rfl rfl (hY_no fun E => rfl) w (fun v18 τ16 F17 w => ?_)
    have F19 := FX.w (Φ := ΦC) (a := 24) (k := 0) (v := (Rf.ptr v18)) F17 (dC_2_0 t0_24)
    refine ab_fin.q_pF (ix := 11) (ci := 2) (k := 0) (h1 := conc (τ16.wr 24 0 (Rf.ptr v18))) (pc' := 55) (by decide +kernel) rfl (c_pR (v := (Rf.ptr v18)) (F17.s t0_24) rfl) rfl rfl rfl ?_
    refine ab_fin.s2 (i := .aload_n 0) (k := 1) (pc' := 56) (lv' := [(2, .int (if ((l1 + (901 : Int32)) + (1 : Int32)) < ((2 : Int32) * (Int32.ofNat n13)) then ((2 : Int32) * (Int32.ofNat n13)) else ((l1 + (901 : Int32)) + (1 : Int32)))), (0, .ref 24), (1, .int l1)]) (st' := [.ref 24]) (by decide +kernel) rfl rfl ?_
    refine ab_fin.s2 (i := .aload_n 0) (k := 1) (pc' := 57) (lv' := [(2, .int (if ((l1 + (901 : Int32)) + (1 : Int32)) < ((2 : Int32) * (Int32.ofNat n13)) then ((2 : Int32) * (Int32.ofNat n13)) else ((l1 + (901 : Int32)) + (1 : Int32)))), (0, .ref 24), (1, .int l1)]) (st' := [.ref 24, .ref 24]) (by decide +kernel) rfl rfl ?_
    obtain ⟨b20, e21, w⟩ := w
    refine ab_fin.q_rA (b := b20) (ix := 15) (ci := 2) (k := 1) (pc' := 60) (by decide +kernel) rfl (c_rA (F19.s t0_24) rfl e21) rfl ?_
    refine ab_fin.s2 (i := .iload_n 2) (k := 1) (pc' := 61) (lv' := [(2, .int (if ((l1 + (901 : Int32)) + (1 : Int32)) < ((2 : Int32) * (Int32.ofNat n13)) then ((2 : Int32) * (Int32.ofNat n13)) else ((l1 + (901 : Int32)) + (1 : Int32)))), (0, .ref 24), (1, .int l1)]) (st' := [.int (if ((l1 + (901 : Int32)) + (1 : Int32)) < ((2 : Int32) * (Int32.ofNat n13)) then ((2 : Int32) * (Int32.ofNat n13)) else ((l1 + (901 : Int32)) + (1 : Int32))), .ref b20, .ref 24]) (by decide +kernel) rfl rfl ?_
    refine ab_fin.q_yR (i := .invokestatic 34) (k := 3) (y := 11269) (As := [.ref b20, .int (if ((l1 + (901 : Int32)) + (1 : Int32)) < ((2 : Int32) * (Int32.ofNat n13)) then ((2 : Int32) * (Int32.ofNat n13)) else ((l1 + (901 : Int32)) + (1 : Int32)))]) (rest := [.ref 24]) (M' := (mJ7_copyOf_59c91, [])) (lv2 := [(0, .ref b20), (1, .int (if ((l1 + (901 : Int32)) + (1 : Int32)) < ((2 : Int32) * (Int32.ofNat n13)) then ((2 : Int32) * (Int32.ofNat n13)) else ((l1 + (901 : Int32)) + (1 : Int32))))]) (pc' := 64) (X := K) (by decide +kernel) (ab_cs rfl rfl ⟨(Nat.le_of_ble_eq_true rfl), (Nat.le_of_ble_eq_true rfl)⟩ rfl) rfl (Nat.le_of_ble_eq_true rfl) rfl rfl (hY_no fun E => rfl) w (fun v24 τ22 F23 w => ?_)
    have F25 := FX.w (Φ := ΦC) (a := 24) (k := 1) (v := (Rf.ptr v24)) F23 (dC_2_1 t0_24)
    refine ab_fin.q_pF (ix := 15) (ci := 2) (k := 1) (h1 := conc (τ22.wr 24 1 (Rf.ptr v24))) (pc' := 67) (by decide +kernel) rfl (c_pR (v := (Rf.ptr v24)) (F23.s t0_24) rfl) rfl rfl rfl ?_
    refine ab_fin.s2 (i := .aload_n 0) (k := 1) (pc' := 68) (lv' := [(2, .int (if ((l1 + (901 : Int32)) + (1 : Int32)) < ((2 : Int32) * (Int32.ofNat n13)) then ((2 : Int32) * (Int32.ofNat n13)) else ((l1 + (901 : Int32)) + (1 : Int32)))), (0, .ref 24), (1, .int l1)]) (st' := [.ref 24]) (by decide +kernel) rfl rfl ?_
    refine ab_fin.s2 (i := .aload_n 0) (k := 1) (pc' := 69) (lv' := [(2, .int (if ((l1 + (901 : Int32)) + (1 : Int32)) < ((2 : Int32) * (Int32.ofNat n13)) then ((2 : Int32) * (Int32.ofNat n13)) else ((l1 + (901 : Int32)) + (1 : Int32)))), (0, .ref 24), (1, .int l1)]) (st' := [.ref 24, .ref 24]) (by decide +kernel) rfl rfl ?_
    obtain ⟨b26, e27, w⟩ := w
    refine ab_fin.q_rA (b := b26) (ix := 18) (ci := 2) (k := 2) (pc' := 72) (by decide +kernel) rfl (c_rA (F25.s t0_24) rfl e27) rfl ?_
    refine ab_fin.s2 (i := .iload_n 2) (k := 1) (pc' := 73) (lv' := [(2, .int (if ((l1 + (901 : Int32)) + (1 : Int32)) < ((2 : Int32) * (Int32.ofNat n13)) then ((2 : Int32) * (Int32.ofNat n13)) else ((l1 + (901 : Int32)) + (1 : Int32)))), (0, .ref 24), (1, .int l1)]) (st' := [.int (if ((l1 + (901 : Int32)) + (1 : Int32)) < ((2 : Int32) * (Int32.ofNat n13)) then ((2 : Int32) * (Int32.ofNat n13)) else ((l1 + (901 : Int32)) + (1 : Int32))), .ref b26, .ref 24]) (by decide +kernel) rfl rfl ?_
    refine ab_fin.q_yR (i := .invokestatic 34) (k := 3) (y := 11269) (As := [.ref b26, .int (if ((l1 + (901 : Int32)) + (1 : Int32)) < ((2 : Int32) * (Int32.ofNat n13)) then ((2 : Int32) * (Int32.ofNat n13)) else ((l1 + (901 : Int32)) + (1 : Int32)))]) (rest := [.ref 24]) (M' := (mJ7_copyOf_59c91, [])) (lv2 := [(0, .ref b26), (1, .int (if ((l1 + (901 : Int32)) + (1 : Int32)) < ((2 : Int32) * (Int32.ofNat n13)) then ((2 : Int32) * (Int32.ofNat n13)) else ((l1 + (901 : Int32)) + (1 : Int32))))]) (pc' := 76) (X := K) (by decide +kernel) (ab_cs rfl rfl ⟨(Nat.le_of_ble_eq_true rfl), (Nat.le_of_ble_eq_true rfl)⟩ rfl) rfl (Nat.le_of_ble_eq_true rfl) rfl rfl (hY_no fun E => rfl) w (fun v30 τ28 F29 w => ?_)
    have F31 := FX.w (Φ := ΦC) (a := 24) (k := 2) (v := (Rf.ptr v30)) F29 (dC_2_2 t0_24)
    refine ab_fin.q_pF (ix := 18) (ci := 2) (k := 2) (h1 := conc (τ28.wr 24 2 (Rf.ptr v30))) (pc' := 79) (by decide +kernel) rfl (c_pR (v := (Rf.ptr v30)) (F29.s t0_24) rfl) rfl rfl rfl ?_
    refine ab_fin.s2 (i := .aload_n 0) (k := 1) (pc' := 80) (lv' := [(2, .int (if ((l1 + (901 : Int32)) + (1 : Int32)) < ((2 : Int32) * (Int32.ofNat n13)) then ((2 : Int32) * (Int32.ofNat n13)) else ((l1 + (901 : Int32)) + (1 : Int32)))), (0, .ref 24), (1, .int l1)]) (st' := [.ref 24]) (by decide +kernel) rfl rfl ?_
    obtain ⟨b32, e33, w⟩ := w
    refine ab_fin.q_rA (b := b32) (ix := 18) (ci := 2) (k := 2) (pc' := 83) (by decide +kernel) rfl (c_rA (F31.s t0_24) rfl e33) rfl ?_
    refine ab_fin.s2 (i := .aload_n 0) (k := 1) (pc' := 84) (lv' := [(2, .int (if ((l1 + (901 : Int32)) + (1 : Int32)) < ((2 : Int32) * (Int32.ofNat n13)) then ((2 : Int32) * (Int32.ofNat n13)) else ((l1 + (901 : Int32)) + (1 : Int32)))), (0, .ref 24), (1, .int l1)]) (st' := [.ref 24, .ref b32]) (by decide +kernel) rfl rfl ?_
    refine ab_fin.q_rI (x := (τ28.i 24 3)) (ix := 21) (ci := 2) (k := 3) (pc' := 87) (by decide +kernel) rfl (c_rI (F31.s t0_24) rfl) rfl ?_
    refine ab_fin.s1i (i := .iconst 0) (k := 1) (pc' := 88) (n := 0) (by decide +kernel) rfl (by decide +kernel) rfl ?_
    obtain ⟨n35, e34, w⟩ := w
    obtain ⟨e36, w⟩ := w
    refine ab_fin.q_sI (h1 := conc ((τ28.wr 24 2 (Rf.ptr v30)).wi b32 ((τ28.i 24 3).toNatClampNeg) (0 : Int32))) (pc' := 89) (by decide +kernel) (c_sI' e34 e36 rfl) rfl ?_
    exact ab_fin.q_ret (i := .return_) (k := 1) (v := none) (by decide +kernel) rfl F31 w
theorem T_X1_emit_0 {Z : zT} {d : Nat} {σ : Sg} {l1 : Int32} {l2 : Int32} {K : kS} (F : FX ΦC σ.sh σ.r) (w : ((σ.i 24 4) ≤ (σ.i 24 3) → K (.inl none) σ) ∧ (¬ (σ.i 24 4) ≤ (σ.i 24 3) → ∃ b1, (σ.r 24 0) = Rf.ptr b1 ∧ (∃ n4, σ.sh[b1]? = some (Sh.arr 0 n4) ∧ (ib (σ.i 24 3) n4 ∧ (∃ b6, (σ.r 24 1) = Rf.ptr b6 ∧ (∃ n9, σ.sh[b6]? = some (Sh.arr 0 n9) ∧ (ib ((σ.wi b1 ((σ.i 24 3).toNatClampNeg) l1).i 24 3) n9 ∧ (∃ b11, (σ.r 24 2) = Rf.ptr b11 ∧ (∃ n14, σ.sh[b11]? = some (Sh.arr 0 n14) ∧ (ib ((((σ.wi b1 ((σ.i 24 3).toNatClampNeg) l1).wi b6 (((σ.wi b1 ((σ.i 24 3).toNatClampNeg) l1).i 24 3).toNatClampNeg) l2).i 24 3) + (1 : Int32)) n14 ∧ (K (.inl none) ((((σ.wi b1 ((σ.i 24 3).toNatClampNeg) l1).wi b6 (((σ.wi b1 ((σ.i 24 3).toNatClampNeg) l1).i 24 3).toNatClampNeg) l2).wi 24 3 ((((σ.wi b1 ((σ.i 24 3).toNatClampNeg) l1).wi b6 (((σ.wi b1 ((σ.i 24 3).toNatClampNeg) l1).i 24 3).toNatClampNeg) l2).i 24 3) + (1 : Int32))).wi b11 (((((σ.wi b1 ((σ.i 24 3).toNatClampNeg) l1).wi b6 (((σ.wi b1 ((σ.i 24 3).toNatClampNeg) l1).i 24 3).toNatClampNeg) l2).i 24 3) + (1 : Int32)).toNatClampNeg) (0 : Int32))))))))))))) : C_X1_emit_0 Z (d + 1) σ l1 l2 K := by
  unfold C_X1_emit_0
  refine ab_fin.s2 (i := .aload_n 0) (k := 1) (pc' := 1) (lv' := [(0, .ref 24), (1, .int l1), (2, .int l2)]) (st' := [.ref 24]) (by decide +kernel) rfl rfl ?_
  refine ab_fin.q_rI (x := (σ.i 24 3)) (ix := 21) (ci := 2) (k := 3) (pc' := 4) (by decide +kernel) rfl (c_rI (F.s t0_24) rfl) rfl ?_
  refine ab_fin.s2 (i := .aload_n 0) (k := 1) (pc' := 5) (lv' := [(0, .ref 24), (1, .int l1), (2, .int l2)]) (st' := [.ref 24, .int (σ.i 24 3)]) (by decide +kernel) rfl rfl ?_
  refine ab_fin.q_rI (x := (σ.i 24 4)) (ix := 25) (ci := 2) (k := 4) (pc' := 8) (by decide +kernel) rfl (c_rI (F.s t0_24) rfl) rfl ?_
  refine ab_fin.br (c := (σ.i 24 4) ≤ (σ.i 24 3)) (i := .if_icmp .ge 43) (off := 43) (t := 51) (pc' := 11) (r := []) (by decide +kernel) rfl (by decide +kernel) rfl (fun q => ?_) (fun q => ?_)
  · replace w := w.1 q
    exact ab_fin.q_ret (i := .return_) (k := 1) (v := none) (by decide +kernel) rfl F w
  · replace w := w.2 q
    refine ab_fin.s2 (i := .aload_n 0) (k := 1) (pc' := 12) (lv' := [(0, .ref 24), (1, .int l1), (2, .int l2)]) (st' := [.ref 24]) (by decide +kernel) rfl rfl ?_
    obtain ⟨b1, e2, w⟩ := w
    refine ab_fin.q_rA (b := b1) (ix := 11) (ci := 2) (k := 0) (pc' := 15) (by decide +kernel) rfl (c_rA (F.s t0_24) rfl e2) rfl ?_
    refine ab_fin.s2 (i := .aload_n 0) (k := 1) (pc' := 16) (lv' := [(0, .ref 24), (1, .int l1), (2, .int l2)]) (st' := [.ref 24, .ref b1]) (by decide +kernel) rfl rfl ?_
    refine ab_fin.q_rI (x := (σ.i 24 3)) (ix := 21) (ci := 2) (k := 3) (pc' := 19) (by decide +kernel) rfl (c_rI (F.s t0_24) rfl) rfl ?_
    refine ab_fin.s2 (i := .iload_n 1) (k := 1) (pc' := 20) (lv' := [(0, .ref 24), (1, .int l1), (2, .int l2)]) (st' := [.int l1, .int (σ.i 24 3), .ref b1]) (by decide +kernel) rfl rfl ?_
    obtain ⟨n4, e3, w⟩ := w
    obtain ⟨e5, w⟩ := w
    refine ab_fin.q_sI (h1 := conc (σ.wi b1 ((σ.i 24 3).toNatClampNeg) l1)) (pc' := 21) (by decide +kernel) (c_sI' e3 e5 rfl) rfl ?_
    refine ab_fin.s2 (i := .aload_n 0) (k := 1) (pc' := 22) (lv' := [(0, .ref 24), (1, .int l1), (2, .int l2)]) (st' := [.ref 24]) (by decide +kernel) rfl rfl ?_
    obtain ⟨b6, e7, w⟩ := w
    refine ab_fin.q_rA (b := b6) (ix := 15) (ci := 2) (k := 1) (pc' := 25) (by decide +kernel) rfl (c_rA (F.s t0_24) rfl e7) rfl ?_
    refine ab_fin.s2 (i := .aload_n 0) (k := 1) (pc' := 26) (lv' := [(0, .ref 24), (1, .int l1), (2, .int l2)]) (st' := [.ref 24, .ref b6]) (by decide +kernel) rfl rfl ?_
    refine ab_fin.q_rI (x := ((σ.wi b1 ((σ.i 24 3).toNatClampNeg) l1).i 24 3)) (ix := 21) (ci := 2) (k := 3) (pc' := 29) (by decide +kernel) rfl (c_rI (F.s t0_24) rfl) rfl ?_
    refine ab_fin.s2 (i := .iload_n 2) (k := 1) (pc' := 30) (lv' := [(0, .ref 24), (1, .int l1), (2, .int l2)]) (st' := [.int l2, .int ((σ.wi b1 ((σ.i 24 3).toNatClampNeg) l1).i 24 3), .ref b6]) (by decide +kernel) rfl rfl ?_
    obtain ⟨n9, e8, w⟩ := w
    obtain ⟨e10, w⟩ := w
    refine ab_fin.q_sI (h1 := conc ((σ.wi b1 ((σ.i 24 3).toNatClampNeg) l1).wi b6 (((σ.wi b1 ((σ.i 24 3).toNatClampNeg) l1).i 24 3).toNatClampNeg) l2)) (pc' := 31) (by decide +kernel) (c_sI' e8 e10 rfl) rfl ?_
    refine ab_fin.s2 (i := .aload_n 0) (k := 1) (pc' := 32) (lv' := [(0, .ref 24), (1, .int l1), (2, .int l2)]) (st' := [.ref 24]) (by decide +kernel) rfl rfl ?_
    refine ab_fin.s1 (i := .dup) (k := 1) (pc' := 33) (st' := [.ref 24, .ref 24]) (by decide +kernel) rfl rfl ?_
    refine ab_fin.q_rI (x := (((σ.wi b1 ((σ.i 24 3).toNatClampNeg) l1).wi b6 (((σ.wi b1 ((σ.i 24 3).toNatClampNeg) l1).i 24 3).toNatClampNeg) l2).i 24 3)) (ix := 21) (ci := 2) (k := 3) (pc' := 36) (by decide +kernel) rfl (c_rI (F.s t0_24) rfl) rfl ?_
    refine ab_fin.s1i (i := .iconst 1) (k := 1) (pc' := 37) (n := 1) (by decide +kernel) rfl (by decide +kernel) rfl ?_
    refine ab_fin.s1 (i := .iadd) (k := 1) (pc' := 38) (st' := [.int ((((σ.wi b1 ((σ.i 24 3).toNatClampNeg) l1).wi b6 (((σ.wi b1 ((σ.i 24 3).toNatClampNeg) l1).i 24 3).toNatClampNeg) l2).i 24 3) + (1 : Int32)), .ref 24]) (by decide +kernel) rfl rfl ?_
    refine ab_fin.q_pF (ix := 21) (ci := 2) (k := 3) (h1 := conc (((σ.wi b1 ((σ.i 24 3).toNatClampNeg) l1).wi b6 (((σ.wi b1 ((σ.i 24 3).toNatClampNeg) l1).i 24 3).toNatClampNeg) l2).wi 24 3 ((((σ.wi b1 ((σ.i 24 3).toNatClampNeg) l1).wi b6 (((σ.wi b1 ((σ.i 24 3).toNatClampNeg) l1).i 24 3).toNatClampNeg) l2).i 24 3) + (1 : Int32)))) (pc' := 41) (by decide +kernel) rfl (c_pI (v := ((((σ.wi b1 ((σ.i 24 3).toNatClampNeg) l1).wi b6 (((σ.wi b1 ((σ.i 24 3).toNatClampNeg) l1).i 24 3).toNatClampNeg) l2).i 24 3) + (1 : Int32))) (F.s t0_24) rfl) rfl rfl rfl ?_
    refine ab_fin.s2 (i := .aload_n 0) (k := 1) (pc' := 42) (lv' := [(0, .ref 24), (1, .int l1), (2, .int l2)]) (st' := [.ref 24]) (by decide +kernel) rfl rfl ?_
    obtain ⟨b11, e12, w⟩ := w
    refine ab_fin.q_rA (b := b11) (ix := 18) (ci := 2) (k := 2) (pc' := 45) (by decide +kernel) rfl (c_rA (F.s t0_24) rfl e12) rfl ?_
    refine ab_fin.s2 (i := .aload_n 0) (k := 1) (pc' := 46) (lv' := [(0, .ref 24), (1, .int l1), (2, .int l2)]) (st' := [.ref 24, .ref b11]) (by decide +kernel) rfl rfl ?_
    refine ab_fin.q_rI (x := ((((σ.wi b1 ((σ.i 24 3).toNatClampNeg) l1).wi b6 (((σ.wi b1 ((σ.i 24 3).toNatClampNeg) l1).i 24 3).toNatClampNeg) l2).i 24 3) + (1 : Int32))) (ix := 21) (ci := 2) (k := 3) (pc' := 49) (by decide +kernel) rfl (c_rI (F.s t0_24) rfl) rfl ?_
    refine ab_fin.s1i (i := .iconst 0) (k := 1) (pc' := 50) (n := 0) (by decide +kernel) rfl (by decide +kernel) rfl ?_
    obtain ⟨n14, e13, w⟩ := w
    obtain ⟨e15, w⟩ := w
    refine ab_fin.q_sI (h1 := conc ((((σ.wi b1 ((σ.i 24 3).toNatClampNeg) l1).wi b6 (((σ.wi b1 ((σ.i 24 3).toNatClampNeg) l1).i 24 3).toNatClampNeg) l2).wi 24 3 ((((σ.wi b1 ((σ.i 24 3).toNatClampNeg) l1).wi b6 (((σ.wi b1 ((σ.i 24 3).toNatClampNeg) l1).i 24 3).toNatClampNeg) l2).i 24 3) + (1 : Int32))).wi b11 (((((σ.wi b1 ((σ.i 24 3).toNatClampNeg) l1).wi b6 (((σ.wi b1 ((σ.i 24 3).toNatClampNeg) l1).i 24 3).toNatClampNeg) l2).i 24 3) + (1 : Int32)).toNatClampNeg) (0 : Int32))) (pc' := 51) (by decide +kernel) (c_sI' e13 e15 rfl) rfl ?_
    exact ab_fin.q_ret (i := .return_) (k := 1) (v := none) (by decide +kernel) rfl F w
theorem T_X1_aim_0 {Z : zT} {d : Nat} {σ : Sg} {l1 : Int32} {l2 : Int32} {K : kS} (F : FX ΦC σ.sh σ.r) (w : ((σ.i 24 4) ≤ l1 → K (.inl none) σ) ∧ (¬ (σ.i 24 4) ≤ l1 → ∃ b1, (σ.r 24 1) = Rf.ptr b1 ∧ (∃ n4, σ.sh[b1]? = some (Sh.arr 0 n4) ∧ (ib l1 n4 ∧ (K (.inl none) (σ.wi b1 l1.toNatClampNeg l2)))))) : C_X1_aim_0 Z (d + 1) σ l1 l2 K := by
  unfold C_X1_aim_0
  refine ab_fin.s2 (i := .iload_n 1) (k := 1) (pc' := 1) (lv' := [(0, .ref 24), (1, .int l1), (2, .int l2)]) (st' := [.int l1]) (by decide +kernel) rfl rfl ?_
  refine ab_fin.s2 (i := .aload_n 0) (k := 1) (pc' := 2) (lv' := [(0, .ref 24), (1, .int l1), (2, .int l2)]) (st' := [.ref 24, .int l1]) (by decide +kernel) rfl rfl ?_
  refine ab_fin.q_rI (x := (σ.i 24 4)) (ix := 25) (ci := 2) (k := 4) (pc' := 5) (by decide +kernel) rfl (c_rI (F.s t0_24) rfl) rfl ?_
  refine ab_fin.br (c := (σ.i 24 4) ≤ l1) (i := .if_icmp .ge 10) (off := 10) (t := 15) (pc' := 8) (r := []) (by decide +kernel) rfl (by decide +kernel) rfl (fun q => ?_) (fun q => ?_)
  · replace w := w.1 q
    exact ab_fin.q_ret (i := .return_) (k := 1) (v := none) (by decide +kernel) rfl F w
  · replace w := w.2 q
    refine ab_fin.s2 (i := .aload_n 0) (k := 1) (pc' := 9) (lv' := [(0, .ref 24), (1, .int l1), (2, .int l2)]) (st' := [.ref 24]) (by decide +kernel) rfl rfl ?_
    obtain ⟨b1, e2, w⟩ := w
    refine ab_fin.q_rA (b := b1) (ix := 15) (ci := 2) (k := 1) (pc' := 12) (by decide +kernel) rfl (c_rA (F.s t0_24) rfl e2) rfl ?_
    refine ab_fin.s2 (i := .iload_n 1) (k := 1) (pc' := 13) (lv' := [(0, .ref 24), (1, .int l1), (2, .int l2)]) (st' := [.int l1, .ref b1]) (by decide +kernel) rfl rfl ?_
    refine ab_fin.s2 (i := .iload_n 2) (k := 1) (pc' := 14) (lv' := [(0, .ref 24), (1, .int l1), (2, .int l2)]) (st' := [.int l2, .int l1, .ref b1]) (by decide +kernel) rfl rfl ?_
    obtain ⟨n4, e3, w⟩ := w
    obtain ⟨e5, w⟩ := w
    refine ab_fin.q_sI (h1 := conc (σ.wi b1 l1.toNatClampNeg l2)) (pc' := 15) (by decide +kernel) (c_sI' e3 e5 rfl) rfl ?_
    exact ab_fin.q_ret (i := .return_) (k := 1) (v := none) (by decide +kernel) rfl F w
theorem T_X2_isBelow_0 {Z : zT} {d : Nat} {σ : Sg} {l1 : Int32} {l2 : Int32} {K : kS} (F : FX ΦC σ.sh σ.r) (w : ib l1 24 ∧ (((((σ.i 4 l1.toNatClampNeg) >>> (l2 &&& 31)) &&& (1 : Int32)) = 0 → K (.inl (some (.int 0))) σ) ∧ (¬ (((σ.i 4 l1.toNatClampNeg) >>> (l2 &&& 31)) &&& (1 : Int32)) = 0 → K (.inl (some (.int 1))) σ))) : C_X2_isBelow_0 Z (d + 1) σ l1 l2 K := by
  unfold C_X2_isBelow_0
  refine ab_fin.s2 (i := .aload_n 0) (k := 1) (pc' := 1) (lv' := [(0, .ref 2), (1, .int l1), (2, .int l2)]) (st' := [.ref 2]) (by decide +kernel) rfl rfl ?_
  refine ab_fin.q_rA (b := 4) (ix := 15) (ci := 3) (k := 1) (pc' := 4) (by decide +kernel) rfl (c_rA (F.s t0_2) rfl (rC_3_1 F t0_2)) rfl ?_
  refine ab_fin.s2 (i := .iload_n 1) (k := 1) (pc' := 5) (lv' := [(0, .ref 2), (1, .int l1), (2, .int l2)]) (st' := [.int l1, .ref 4]) (by decide +kernel) rfl rfl ?_
  obtain ⟨e1, w⟩ := w
  refine ab_fin.q_eI (x := (σ.i 4 l1.toNatClampNeg)) (pc' := 6) (by decide +kernel) (c_eI' (F.s t0_4) e1 rfl) rfl ?_
  refine ab_fin.s2 (i := .iload_n 2) (k := 1) (pc' := 7) (lv' := [(0, .ref 2), (1, .int l1), (2, .int l2)]) (st' := [.int l2, .int (σ.i 4 l1.toNatClampNeg)]) (by decide +kernel) rfl rfl ?_
  refine ab_fin.s1 (i := .ishr) (k := 1) (pc' := 8) (st' := [.int ((σ.i 4 l1.toNatClampNeg) >>> (l2 &&& 31))]) (by decide +kernel) rfl rfl ?_
  refine ab_fin.s1i (i := .iconst 1) (k := 1) (pc' := 9) (n := 1) (by decide +kernel) rfl (by decide +kernel) rfl ?_
  refine ab_fin.s1 (i := .iand) (k := 1) (pc' := 10) (st' := [.int (((σ.i 4 l1.toNatClampNeg) >>> (l2 &&& 31)) &&& (1 : Int32))]) (by decide +kernel) rfl rfl ?_
  refine ab_fin.br (c := (((σ.i 4 l1.toNatClampNeg) >>> (l2 &&& 31)) &&& (1 : Int32)) = 0) (i := .ifCond .eq 7) (off := 7) (t := 17) (pc' := 13) (r := []) (by decide +kernel) rfl (by decide +kernel) rfl (fun q => ?_) (fun q => ?_)
  · replace w := w.1 q
    refine ab_fin.s1i (i := .iconst 0) (k := 1) (pc' := 18) (n := 0) (by decide +kernel) rfl (by decide +kernel) rfl ?_
    exact ab_fin.q_ret (i := .ireturn) (k := 1) (v := some (.int 0)) (by decide +kernel) rfl F w
  · replace w := w.2 q
    refine ab_fin.s1i (i := .iconst 1) (k := 1) (pc' := 14) (n := 1) (by decide +kernel) rfl (by decide +kernel) rfl ?_
    refine ab_fin.s3 (i := .goto 4) (k := 3) (t := 18) (st' := [.int 1]) (by decide +kernel) (ab_gto (by decide +kernel)) ?_
    exact ab_fin.q_ret (i := .ireturn) (k := 1) (v := some (.int 1)) (by decide +kernel) rfl F w
theorem T_X2_inRow_0 {Z : zT} {d : Nat} {σ : Sg} {l1 : Int32} {l2 : Int32} {l3 : Int32} {K : kS} (F : FX ΦC σ.sh σ.r) (w : ib ((((l1 * (24 : Int32)) + l2) * (24 : Int32)) + l3) 1728 ∧ (K (.inl (some (.int (σ.i 7 (((((l1 * (24 : Int32)) + l2) * (24 : Int32)) + l3).toNatClampNeg))))) σ)) : C_X2_inRow_0 Z (d + 1) σ l1 l2 l3 K := by
  unfold C_X2_inRow_0
  refine ab_fin.s2 (i := .aload_n 0) (k := 1) (pc' := 1) (lv' := [(0, .ref 2), (1, .int l1), (2, .int l2), (3, .int l3)]) (st' := [.ref 2]) (by decide +kernel) rfl rfl ?_
  refine ab_fin.q_rA (b := 7) (ix := 25) (ci := 3) (k := 5) (pc' := 4) (by decide +kernel) rfl (c_rA (F.s t0_2) rfl (rC_3_5 F t0_2)) rfl ?_
  refine ab_fin.s2 (i := .iload_n 1) (k := 1) (pc' := 5) (lv' := [(0, .ref 2), (1, .int l1), (2, .int l2), (3, .int l3)]) (st' := [.int l1, .ref 7]) (by decide +kernel) rfl rfl ?_
  refine ab_fin.s1i (i := .bipush 24) (k := 2) (pc' := 7) (n := 24) (by decide +kernel) rfl (by decide +kernel) rfl ?_
  refine ab_fin.s1 (i := .imul) (k := 1) (pc' := 8) (st' := [.int (l1 * (24 : Int32)), .ref 7]) (by decide +kernel) rfl rfl ?_
  refine ab_fin.s2 (i := .iload_n 2) (k := 1) (pc' := 9) (lv' := [(0, .ref 2), (1, .int l1), (2, .int l2), (3, .int l3)]) (st' := [.int l2, .int (l1 * (24 : Int32)), .ref 7]) (by decide +kernel) rfl rfl ?_
  refine ab_fin.s1 (i := .iadd) (k := 1) (pc' := 10) (st' := [.int ((l1 * (24 : Int32)) + l2), .ref 7]) (by decide +kernel) rfl rfl ?_
  refine ab_fin.s1i (i := .bipush 24) (k := 2) (pc' := 12) (n := 24) (by decide +kernel) rfl (by decide +kernel) rfl ?_
  refine ab_fin.s1 (i := .imul) (k := 1) (pc' := 13) (st' := [.int (((l1 * (24 : Int32)) + l2) * (24 : Int32)), .ref 7]) (by decide +kernel) rfl rfl ?_
  refine ab_fin.s2 (i := .iload_n 3) (k := 1) (pc' := 14) (lv' := [(0, .ref 2), (1, .int l1), (2, .int l2), (3, .int l3)]) (st' := [.int l3, .int (((l1 * (24 : Int32)) + l2) * (24 : Int32)), .ref 7]) (by decide +kernel) rfl rfl ?_
  refine ab_fin.s1 (i := .iadd) (k := 1) (pc' := 15) (st' := [.int ((((l1 * (24 : Int32)) + l2) * (24 : Int32)) + l3), .ref 7]) (by decide +kernel) rfl rfl ?_
  obtain ⟨e1, w⟩ := w
  refine ab_fin.q_eI (x := (σ.i 7 (((((l1 * (24 : Int32)) + l2) * (24 : Int32)) + l3).toNatClampNeg))) (pc' := 16) (by decide +kernel) (c_eI' (F.s t0_7) e1 rfl) rfl ?_
  exact ab_fin.q_ret (i := .ireturn) (k := 1) (v := some (.int (σ.i 7 (((((l1 * (24 : Int32)) + l2) * (24 : Int32)) + l3).toNatClampNeg)))) (by decide +kernel) rfl F w
theorem T_X2_spotInRow_0 {Z : zT} {d : Nat} {σ : Sg} {l1 : Int32} {l2 : Int32} {l3 : Int32} {K : kS} (F : FX ΦC σ.sh σ.r) (w : ib ((((l1 * (24 : Int32)) + l2) * (24 : Int32)) + l3) 1728 ∧ (K (.inl (some (.int (σ.i 8 (((((l1 * (24 : Int32)) + l2) * (24 : Int32)) + l3).toNatClampNeg))))) σ)) : C_X2_spotInRow_0 Z (d + 1) σ l1 l2 l3 K := by
  unfold C_X2_spotInRow_0
  refine ab_fin.s2 (i := .aload_n 0) (k := 1) (pc' := 1) (lv' := [(0, .ref 2), (1, .int l1), (2, .int l2), (3, .int l3)]) (st' := [.ref 2]) (by decide +kernel) rfl rfl ?_
  refine ab_fin.q_rA (b := 8) (ix := 28) (ci := 3) (k := 6) (pc' := 4) (by decide +kernel) rfl (c_rA (F.s t0_2) rfl (rC_3_6 F t0_2)) rfl ?_
  refine ab_fin.s2 (i := .iload_n 1) (k := 1) (pc' := 5) (lv' := [(0, .ref 2), (1, .int l1), (2, .int l2), (3, .int l3)]) (st' := [.int l1, .ref 8]) (by decide +kernel) rfl rfl ?_
  refine ab_fin.s1i (i := .bipush 24) (k := 2) (pc' := 7) (n := 24) (by decide +kernel) rfl (by decide +kernel) rfl ?_
  refine ab_fin.s1 (i := .imul) (k := 1) (pc' := 8) (st' := [.int (l1 * (24 : Int32)), .ref 8]) (by decide +kernel) rfl rfl ?_
  refine ab_fin.s2 (i := .iload_n 2) (k := 1) (pc' := 9) (lv' := [(0, .ref 2), (1, .int l1), (2, .int l2), (3, .int l3)]) (st' := [.int l2, .int (l1 * (24 : Int32)), .ref 8]) (by decide +kernel) rfl rfl ?_
  refine ab_fin.s1 (i := .iadd) (k := 1) (pc' := 10) (st' := [.int ((l1 * (24 : Int32)) + l2), .ref 8]) (by decide +kernel) rfl rfl ?_
  refine ab_fin.s1i (i := .bipush 24) (k := 2) (pc' := 12) (n := 24) (by decide +kernel) rfl (by decide +kernel) rfl ?_
  refine ab_fin.s1 (i := .imul) (k := 1) (pc' := 13) (st' := [.int (((l1 * (24 : Int32)) + l2) * (24 : Int32)), .ref 8]) (by decide +kernel) rfl rfl ?_
  refine ab_fin.s2 (i := .iload_n 3) (k := 1) (pc' := 14) (lv' := [(0, .ref 2), (1, .int l1), (2, .int l2), (3, .int l3)]) (st' := [.int l3, .int (((l1 * (24 : Int32)) + l2) * (24 : Int32)), .ref 8]) (by decide +kernel) rfl rfl ?_
  refine ab_fin.s1 (i := .iadd) (k := 1) (pc' := 15) (st' := [.int ((((l1 * (24 : Int32)) + l2) * (24 : Int32)) + l3), .ref 8]) (by decide +kernel) rfl rfl ?_
  obtain ⟨e1, w⟩ := w
  refine ab_fin.q_eI (x := (σ.i 8 (((((l1 * (24 : Int32)) + l2) * (24 : Int32)) + l3).toNatClampNeg))) (pc' := 16) (by decide +kernel) (c_eI' (F.s t0_8) e1 rfl) rfl ?_
  exact ab_fin.q_ret (i := .ireturn) (k := 1) (v := some (.int (σ.i 8 (((((l1 * (24 : Int32)) + l2) * (24 : Int32)) + l3).toNatClampNeg)))) (by decide +kernel) rfl F w
theorem T_X2_isParent_0 {Z : zT} {d : Nat} {σ : Sg} {l1 : Int32} {K : kS} (F : FX ΦC σ.sh σ.r) (w : C_X2_isParent_2 Z (d + 1) σ l1 0 K) : C_X2_isParent_0 Z (d + 1) σ l1 K := by
  unfold C_X2_isParent_0
  refine ab_fin.s1i (i := .iconst 0) (k := 1) (pc' := 1) (n := 0) (by decide +kernel) rfl (by decide +kernel) rfl ?_
  refine ab_fin.s2 (i := .istore_n 2) (k := 1) (pc' := 2) (lv' := [(2, .int 0), (0, .ref 2), (1, .int l1)]) (st' := []) (by decide +kernel) rfl rfl ?_
  exact ab_fin.lv ⟨(List.forall_mem_cons.mpr ⟨(List.Mem.tail _ (List.Mem.head _)), (List.forall_mem_cons.mpr ⟨(List.Mem.tail _ (List.Mem.tail _ (List.Mem.head _))), (List.forall_mem_cons.mpr ⟨(List.Mem.head _), (fun _ h => absurd h List.not_mem_nil)⟩)⟩)⟩), (show ([2, 0, 1] : List Nat).Nodup from by decide)⟩ w
theorem T_X2_isParent_2 {Z : zT} {d : Nat} {σ : Sg} {l1 : Int32} {l2 : Int32} {K : kS} (F : FX ΦC σ.sh σ.r) (w : ((σ.i 2 4) ≤ l2 → K (.inl (some (.int 0))) σ) ∧ (¬ (σ.i 2 4) ≤ l2 → ib l2 24 ∧ ((¬ (σ.i 6 l2.toNatClampNeg) = l1 → C_X2_isParent_2 Z (d + 1) σ l1 (l2 + 1) K) ∧ ((σ.i 6 l2.toNatClampNeg) = l1 → K (.inl (some (.int 1))) σ)))) : C_X2_isParent_2 Z (d + 1) σ l1 l2 K := by
  unfold C_X2_isParent_2
  refine ab_fin.s2 (i := .iload_n 2) (k := 1) (pc' := 3) (lv' := [(0, .ref 2), (1, .int l1), (2, .int l2)]) (st' := [.int l2]) (by decide +kernel) rfl rfl ?_
  refine ab_fin.s2 (i := .aload_n 0) (k := 1) (pc' := 4) (lv' := [(0, .ref 2), (1, .int l1), (2, .int l2)]) (st' := [.ref 2, .int l2]) (by decide +kernel) rfl rfl ?_
  refine ab_fin.q_rI (x := (σ.i 2 4)) (ix := 34) (ci := 3) (k := 4) (pc' := 7) (by decide +kernel) rfl (c_rI (F.s t0_2) rfl) rfl ?_
  refine ab_fin.br (c := (σ.i 2 4) ≤ l2) (i := .if_icmp .ge 21) (off := 21) (t := 28) (pc' := 10) (r := []) (by decide +kernel) rfl (by decide +kernel) rfl (fun q => ?_) (fun q => ?_)
  · replace w := w.1 q
    refine ab_fin.s1i (i := .iconst 0) (k := 1) (pc' := 29) (n := 0) (by decide +kernel) rfl (by decide +kernel) rfl ?_
    exact ab_fin.q_ret (i := .ireturn) (k := 1) (v := some (.int 0)) (by decide +kernel) rfl F w
  · replace w := w.2 q
    refine ab_fin.s2 (i := .aload_n 0) (k := 1) (pc' := 11) (lv' := [(0, .ref 2), (1, .int l1), (2, .int l2)]) (st' := [.ref 2]) (by decide +kernel) rfl rfl ?_
    refine ab_fin.q_rA (b := 6) (ix := 22) (ci := 3) (k := 3) (pc' := 14) (by decide +kernel) rfl (c_rA (F.s t0_2) rfl (rC_3_3 F t0_2)) rfl ?_
    refine ab_fin.s2 (i := .iload_n 2) (k := 1) (pc' := 15) (lv' := [(0, .ref 2), (1, .int l1), (2, .int l2)]) (st' := [.int l2, .ref 6]) (by decide +kernel) rfl rfl ?_
    obtain ⟨e1, w⟩ := w
    refine ab_fin.q_eI (x := (σ.i 6 l2.toNatClampNeg)) (pc' := 16) (by decide +kernel) (c_eI' (F.s t0_6) e1 rfl) rfl ?_
    refine ab_fin.s2 (i := .iload_n 1) (k := 1) (pc' := 17) (lv' := [(0, .ref 2), (1, .int l1), (2, .int l2)]) (st' := [.int l1, .int (σ.i 6 l2.toNatClampNeg)]) (by decide +kernel) rfl rfl ?_
    refine ab_fin.br (c := ¬ (σ.i 6 l2.toNatClampNeg) = l1) (i := .if_icmp .ne 5) (off := 5) (t := 22) (pc' := 20) (r := []) (by decide +kernel) rfl (by decide +kernel) rfl (fun q => ?_) (fun q => ?_)
    · replace w := w.1 q
      refine ab_fin.q_inc (n := 2) (c := 1) (pc' := 25) (lv' := [(2, .int (l2 + 1)), (0, .ref 2), (1, .int l1)]) (by decide +kernel) (by decide) rfl rfl rfl rfl ?_
      refine ab_fin.s3 (i := .goto (-23)) (k := 3) (t := 2) (st' := []) (by decide +kernel) (ab_gto (by decide +kernel)) ?_
      exact ab_fin.lv ⟨(List.forall_mem_cons.mpr ⟨(List.Mem.tail _ (List.Mem.head _)), (List.forall_mem_cons.mpr ⟨(List.Mem.tail _ (List.Mem.tail _ (List.Mem.head _))), (List.forall_mem_cons.mpr ⟨(List.Mem.head _), (fun _ h => absurd h List.not_mem_nil)⟩)⟩)⟩), (show ([2, 0, 1] : List Nat).Nodup from by decide)⟩ w
    · replace w := w.2 (Decidable.of_not_not q)
      refine ab_fin.s1i (i := .iconst 1) (k := 1) (pc' := 21) (n := 1) (by decide +kernel) rfl (by decide +kernel) rfl ?_
      exact ab_fin.q_ret (i := .ireturn) (k := 1) (v := some (.int 1)) (by decide +kernel) rfl F w
theorem T_X2_addParent_0 {Z : zT} {d : Nat} {σ : Sg} {l1 : Int32} {K : kS} (F : FX ΦC σ.sh σ.r) (w : (24 ≤ (σ.i 2 4) → K (.inl none) σ) ∧ (¬ 24 ≤ (σ.i 2 4) → ib (σ.i 2 4) 24 ∧ (K (.inl none) ((σ.wi 6 ((σ.i 2 4).toNatClampNeg) l1).wi 2 4 ((σ.i 2 4) + (1 : Int32)))))) : C_X2_addParent_0 Z (d + 1) σ l1 K := by
  unfold C_X2_addParent_0
  refine ab_fin.s2 (i := .aload_n 0) (k := 1) (pc' := 1) (lv' := [(0, .ref 2), (1, .int l1)]) (st' := [.ref 2]) (by decide +kernel) rfl rfl ?_
  refine ab_fin.q_rI (x := (σ.i 2 4)) (ix := 34) (ci := 3) (k := 4) (pc' := 4) (by decide +kernel) rfl (c_rI (F.s t0_2) rfl) rfl ?_
  refine ab_fin.s2 (i := .aload_n 0) (k := 1) (pc' := 5) (lv' := [(0, .ref 2), (1, .int l1)]) (st' := [.ref 2, .int (σ.i 2 4)]) (by decide +kernel) rfl rfl ?_
  refine ab_fin.q_rA (b := 6) (ix := 22) (ci := 3) (k := 3) (pc' := 8) (by decide +kernel) rfl (c_rA (F.s t0_2) rfl (rC_3_3 F t0_2)) rfl ?_
  refine ab_fin.q_eN (n := 24) (pc' := 9) (by decide +kernel) (c_eN' (F.s t0_6) (Or.inl (by decide)) (by decide +kernel)) rfl ?_
  refine ab_fin.br (c := 24 ≤ (σ.i 2 4)) (i := .if_icmp .ge 23) (off := 23) (t := 32) (pc' := 12) (r := []) (by decide +kernel) rfl (by decide +kernel) rfl (fun q => ?_) (fun q => ?_)
  · replace w := w.1 q
    exact ab_fin.q_ret (i := .return_) (k := 1) (v := none) (by decide +kernel) rfl F w
  · replace w := w.2 q
    refine ab_fin.s2 (i := .aload_n 0) (k := 1) (pc' := 13) (lv' := [(0, .ref 2), (1, .int l1)]) (st' := [.ref 2]) (by decide +kernel) rfl rfl ?_
    refine ab_fin.q_rA (b := 6) (ix := 22) (ci := 3) (k := 3) (pc' := 16) (by decide +kernel) rfl (c_rA (F.s t0_2) rfl (rC_3_3 F t0_2)) rfl ?_
    refine ab_fin.s2 (i := .aload_n 0) (k := 1) (pc' := 17) (lv' := [(0, .ref 2), (1, .int l1)]) (st' := [.ref 2, .ref 6]) (by decide +kernel) rfl rfl ?_
    refine ab_fin.q_rI (x := (σ.i 2 4)) (ix := 34) (ci := 3) (k := 4) (pc' := 20) (by decide +kernel) rfl (c_rI (F.s t0_2) rfl) rfl ?_
    refine ab_fin.s2 (i := .iload_n 1) (k := 1) (pc' := 21) (lv' := [(0, .ref 2), (1, .int l1)]) (st' := [.int l1, .int (σ.i 2 4), .ref 6]) (by decide +kernel) rfl rfl ?_
    obtain ⟨e1, w⟩ := w
    refine ab_fin.q_sI (h1 := conc (σ.wi 6 ((σ.i 2 4).toNatClampNeg) l1)) (pc' := 22) (by decide +kernel) (c_sI' (F.s t0_6) e1 rfl) rfl ?_
    refine ab_fin.s2 (i := .aload_n 0) (k := 1) (pc' := 23) (lv' := [(0, .ref 2), (1, .int l1)]) (st' := [.ref 2]) (by decide +kernel) rfl rfl ?_
    refine ab_fin.s1 (i := .dup) (k := 1) (pc' := 24) (st' := [.ref 2, .ref 2]) (by decide +kernel) rfl rfl ?_
    refine ab_fin.q_rI (x := (σ.i 2 4)) (ix := 34) (ci := 3) (k := 4) (pc' := 27) (by decide +kernel) rfl (c_rI (F.s t0_2) rfl) rfl ?_
    refine ab_fin.s1i (i := .iconst 1) (k := 1) (pc' := 28) (n := 1) (by decide +kernel) rfl (by decide +kernel) rfl ?_
    refine ab_fin.s1 (i := .iadd) (k := 1) (pc' := 29) (st' := [.int ((σ.i 2 4) + (1 : Int32)), .ref 2]) (by decide +kernel) rfl rfl ?_
    refine ab_fin.q_pF (ix := 34) (ci := 3) (k := 4) (h1 := conc ((σ.wi 6 ((σ.i 2 4).toNatClampNeg) l1).wi 2 4 ((σ.i 2 4) + (1 : Int32)))) (pc' := 32) (by decide +kernel) rfl (c_pI (v := ((σ.i 2 4) + (1 : Int32))) (F.s t0_2) rfl) rfl rfl rfl ?_
    exact ab_fin.q_ret (i := .return_) (k := 1) (v := none) (by decide +kernel) rfl F w
theorem T_X2_make_0 {Z : zT} {d : Nat} {σ : Sg} {l1 : Int32} {l2 : Int32} {K : kS} (F : FX ΦC σ.sh σ.r) (w : ib l1 24 ∧ (ib l1 24 ∧ (C_X2_make_18 Z (d + 1) ((σ.wi 3 l1.toNatClampNeg (vp_nar .boolean l2)).wi 4 l1.toNatClampNeg ((1 : Int32) <<< (l1 &&& 31))) l1 0 K))) : C_X2_make_0 Z (d + 1) σ l1 l2 K := by
  unfold C_X2_make_0
  refine ab_fin.s2 (i := .aload_n 0) (k := 1) (pc' := 1) (lv' := [(0, .ref 2), (1, .int l1), (2, .int l2)]) (st' := [.ref 2]) (by decide +kernel) rfl rfl ?_
  refine ab_fin.q_rA (b := 3) (ix := 9) (ci := 3) (k := 0) (pc' := 4) (by decide +kernel) rfl (c_rA (F.s t0_2) rfl (rC_3_0 F t0_2)) rfl ?_
  refine ab_fin.s2 (i := .iload_n 1) (k := 1) (pc' := 5) (lv' := [(0, .ref 2), (1, .int l1), (2, .int l2)]) (st' := [.int l1, .ref 3]) (by decide +kernel) rfl rfl ?_
  refine ab_fin.s2 (i := .iload_n 2) (k := 1) (pc' := 6) (lv' := [(0, .ref 2), (1, .int l1), (2, .int l2)]) (st' := [.int l2, .int l1, .ref 3]) (by decide +kernel) rfl rfl ?_
  obtain ⟨e1, w⟩ := w
  refine ab_fin.q_sB (h1 := conc (σ.wi 3 l1.toNatClampNeg (vp_nar .boolean l2))) (pc' := 7) (by decide +kernel) (c_sB3' (F.s t0_3) e1 rfl) rfl ?_
  refine ab_fin.s2 (i := .aload_n 0) (k := 1) (pc' := 8) (lv' := [(0, .ref 2), (1, .int l1), (2, .int l2)]) (st' := [.ref 2]) (by decide +kernel) rfl rfl ?_
  refine ab_fin.q_rA (b := 4) (ix := 15) (ci := 3) (k := 1) (pc' := 11) (by decide +kernel) rfl (c_rA (F.s t0_2) rfl (rC_3_1 F t0_2)) rfl ?_
  refine ab_fin.s2 (i := .iload_n 1) (k := 1) (pc' := 12) (lv' := [(0, .ref 2), (1, .int l1), (2, .int l2)]) (st' := [.int l1, .ref 4]) (by decide +kernel) rfl rfl ?_
  refine ab_fin.s1i (i := .iconst 1) (k := 1) (pc' := 13) (n := 1) (by decide +kernel) rfl (by decide +kernel) rfl ?_
  refine ab_fin.s2 (i := .iload_n 1) (k := 1) (pc' := 14) (lv' := [(0, .ref 2), (1, .int l1), (2, .int l2)]) (st' := [.int l1, .int 1, .int l1, .ref 4]) (by decide +kernel) rfl rfl ?_
  refine ab_fin.s1 (i := .ishl) (k := 1) (pc' := 15) (st' := [.int ((1 : Int32) <<< (l1 &&& 31)), .int l1, .ref 4]) (by decide +kernel) rfl rfl ?_
  obtain ⟨e2, w⟩ := w
  refine ab_fin.q_sI (h1 := conc ((σ.wi 3 l1.toNatClampNeg (vp_nar .boolean l2)).wi 4 l1.toNatClampNeg ((1 : Int32) <<< (l1 &&& 31)))) (pc' := 16) (by decide +kernel) (c_sI' (F.s t0_4) e2 rfl) rfl ?_
  refine ab_fin.s1i (i := .iconst 0) (k := 1) (pc' := 17) (n := 0) (by decide +kernel) rfl (by decide +kernel) rfl ?_
  refine ab_fin.s2 (i := .istore_n 3) (k := 1) (pc' := 18) (lv' := [(3, .int 0), (0, .ref 2), (1, .int l1), (2, .int l2)]) (st' := []) (by decide +kernel) rfl rfl ?_
  exact ab_fin.lv ⟨(List.forall_mem_cons.mpr ⟨(List.Mem.tail _ (List.Mem.head _)), (List.forall_mem_cons.mpr ⟨(List.Mem.tail _ (List.Mem.tail _ (List.Mem.head _))), (List.forall_mem_cons.mpr ⟨(List.Mem.head _), (fun _ h => absurd h List.not_mem_nil)⟩)⟩)⟩), (show ([3, 0, 1, 2] : List Nat).Nodup from by decide)⟩ w

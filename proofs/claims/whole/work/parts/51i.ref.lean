/-! THE REFERENCE, PIECE BY PIECE (printed by sgen.py), 9 -/
theorem S_X23_inside_0 {Z : zT} {d : Nat} {σ : Sg} {l1 : Nat} {l2 : Int64} {l4 : Int64} {l6 : Int64} {K : kS} (F : FX ΦR σ.sh σ.r) (w : sh0R[l1]? = some (Sh.obj 15) ∧ (ib (σ.i l1 0) 24 ∧ ((¬ (σ.i (2409 + 3 * ((σ.i l1 0).toNatClampNeg)) 2) = 0 → B_X23_inside_37 Z (d + 1) σ l1 l2 l4 l6 (σ.i (2409 + 3 * ((σ.i l1 0).toNatClampNeg)) 2) 0 K) ∧ ((σ.i (2409 + 3 * ((σ.i l1 0).toNatClampNeg)) 2) = 0 → (¬ (σ.i (l1 + 6) 0) = 0 → B_X23_inside_37 Z (d + 1) σ l1 l2 l4 l6 (σ.i (2409 + 3 * ((σ.i l1 0).toNatClampNeg)) 2) 0 K) ∧ ((σ.i (l1 + 6) 0) = 0 → B_X23_fault_0 Z d σ 2 (yR K fun v5 τ3 => ∃ x7, aT τ3 v5 x7 ∧ K (.inr (x7, v5)) τ3)))))) : B_X23_inside_0 Z (d + 1) σ l1 l2 l4 l6 K := by
  unfold B_X23_inside_0
  refine ab_fin.s2 (i := .aload_n 0) (k := 1) (pc' := 1) (lv' := [(0, .ref 0), (1, .ref l1), (2, .long l2), (4, .long l4), (6, .long l6)]) (st' := [.ref 0]) (by decide +kernel) rfl rfl ?_
  refine ab_fin.q_rA (b := 2) (ix := 34) (ci := 24) (k := 1) (pc' := 4) (by decide +kernel) rfl (c_rA (F.s s0_0) rfl (rM_1 F)) rfl ?_
  refine ab_fin.s2 (i := .aload_n 1) (k := 1) (pc' := 5) (lv' := [(0, .ref 0), (1, .ref l1), (2, .long l2), (4, .long l4), (6, .long l6)]) (st' := [.ref l1, .ref 2]) (by decide +kernel) rfl rfl ?_
  obtain ⟨e1, w⟩ := w
  refine ab_fin.q_rI (x := (σ.i l1 0)) (ix := 720) (ci := 15) (k := 0) (pc' := 8) (by decide +kernel) rfl (c_rI (F.s e1) rfl) rfl ?_
  obtain ⟨e2, w⟩ := w
  refine ab_fin.q_eA (b := (2409 + 3 * ((σ.i l1 0).toNatClampNeg))) (pc' := 9) (by decide +kernel) (c_eA' (F.s s0_2) (by decide) rfl e2 rfl (rE_5 F s0_2)) rfl ?_
  refine ab_fin.q_rI (x := (σ.i (2409 + 3 * ((σ.i l1 0).toNatClampNeg)) 2)) (ix := 306) (ci := 14) (k := 2) (pc' := 12) (by decide +kernel) rfl (c_rI (F.s (kE_2 e2.2)) rfl) rfl ?_
  refine ab_fin.s2 (i := .istore 8) (k := 2) (pc' := 14) (lv' := [(8, .int (σ.i (2409 + 3 * ((σ.i l1 0).toNatClampNeg)) 2)), (0, .ref 0), (1, .ref l1), (2, .long l2), (4, .long l4), (6, .long l6)]) (st' := []) (by decide +kernel) rfl rfl ?_
  refine ab_fin.s2 (i := .iload 8) (k := 2) (pc' := 16) (lv' := [(8, .int (σ.i (2409 + 3 * ((σ.i l1 0).toNatClampNeg)) 2)), (0, .ref 0), (1, .ref l1), (2, .long l2), (4, .long l4), (6, .long l6)]) (st' := [.int (σ.i (2409 + 3 * ((σ.i l1 0).toNatClampNeg)) 2)]) (by decide +kernel) rfl rfl ?_
  refine ab_fin.br (c := ¬ (σ.i (2409 + 3 * ((σ.i l1 0).toNatClampNeg)) 2) = 0) (i := .ifCond .ne 18) (off := 18) (t := 34) (pc' := 19) (r := []) (by decide +kernel) rfl (by decide +kernel) rfl (fun q => ?_) (fun q => ?_)
  · replace w := w.1 q
    refine ab_fin.s1i (i := .iconst 0) (k := 1) (pc' := 35) (n := 0) (by decide +kernel) rfl (by decide +kernel) rfl ?_
    refine ab_fin.s2 (i := .istore 9) (k := 2) (pc' := 37) (lv' := [(9, .int 0), (8, .int (σ.i (2409 + 3 * ((σ.i l1 0).toNatClampNeg)) 2)), (0, .ref 0), (1, .ref l1), (2, .long l2), (4, .long l4), (6, .long l6)]) (st' := []) (by decide +kernel) rfl rfl ?_
    exact ab_fin.lv ⟨(List.forall_mem_cons.mpr ⟨(List.Mem.tail _ (List.Mem.tail _ (List.Mem.head _))), (List.forall_mem_cons.mpr ⟨(List.Mem.tail _ (List.Mem.tail _ (List.Mem.tail _ (List.Mem.head _)))), (List.forall_mem_cons.mpr ⟨(List.Mem.tail _ (List.Mem.tail _ (List.Mem.tail _ (List.Mem.tail _ (List.Mem.head _))))), (List.forall_mem_cons.mpr ⟨(List.Mem.tail _ (List.Mem.tail _ (List.Mem.tail _ (List.Mem.tail _ (List.Mem.tail _ (List.Mem.head _)))))), (List.forall_mem_cons.mpr ⟨(List.Mem.tail _ (List.Mem.tail _ (List.Mem.tail _ (List.Mem.tail _ (List.Mem.tail _ (List.Mem.tail _ (List.Mem.head _))))))), (List.forall_mem_cons.mpr ⟨(List.Mem.tail _ (List.Mem.head _)), (List.forall_mem_cons.mpr ⟨(List.Mem.head _), (fun _ h => absurd h List.not_mem_nil)⟩)⟩)⟩)⟩)⟩)⟩)⟩), (show ([9, 8, 0, 1, 2, 4, 6] : List Nat).Nodup from by decide)⟩ w
  · replace w := w.2 (Decidable.of_not_not q)
    refine ab_fin.s2 (i := .aload_n 1) (k := 1) (pc' := 20) (lv' := [(8, .int (σ.i (2409 + 3 * ((σ.i l1 0).toNatClampNeg)) 2)), (0, .ref 0), (1, .ref l1), (2, .long l2), (4, .long l4), (6, .long l6)]) (st' := [.ref l1]) (by decide +kernel) rfl rfl ?_
    refine ab_fin.q_rA (b := (l1 + 6)) (ix := 723) (ci := 15) (k := 2) (pc' := 23) (by decide +kernel) rfl (c_rA (F.s e1) rfl (rO_15_2 F e1)) rfl ?_
    refine ab_fin.s1i (i := .iconst 0) (k := 1) (pc' := 24) (n := 0) (by decide +kernel) rfl (by decide +kernel) rfl ?_
    refine ab_fin.q_eI (x := (σ.i (l1 + 6) 0)) (pc' := 25) (by decide +kernel) (c_eI' (F.s (kF_15_6 e1)) (show ib (0 : Int32) 4 by decide +kernel) (by decide +kernel)) rfl ?_
    refine ab_fin.br (c := ¬ (σ.i (l1 + 6) 0) = 0) (i := .ifCond .ne 9) (off := 9) (t := 34) (pc' := 28) (r := []) (by decide +kernel) rfl (by decide +kernel) rfl (fun q => ?_) (fun q => ?_)
    · replace w := w.1 q
      refine ab_fin.s1i (i := .iconst 0) (k := 1) (pc' := 35) (n := 0) (by decide +kernel) rfl (by decide +kernel) rfl ?_
      refine ab_fin.s2 (i := .istore 9) (k := 2) (pc' := 37) (lv' := [(9, .int 0), (8, .int (σ.i (2409 + 3 * ((σ.i l1 0).toNatClampNeg)) 2)), (0, .ref 0), (1, .ref l1), (2, .long l2), (4, .long l4), (6, .long l6)]) (st' := []) (by decide +kernel) rfl rfl ?_
      exact ab_fin.lv ⟨(List.forall_mem_cons.mpr ⟨(List.Mem.tail _ (List.Mem.tail _ (List.Mem.head _))), (List.forall_mem_cons.mpr ⟨(List.Mem.tail _ (List.Mem.tail _ (List.Mem.tail _ (List.Mem.head _)))), (List.forall_mem_cons.mpr ⟨(List.Mem.tail _ (List.Mem.tail _ (List.Mem.tail _ (List.Mem.tail _ (List.Mem.head _))))), (List.forall_mem_cons.mpr ⟨(List.Mem.tail _ (List.Mem.tail _ (List.Mem.tail _ (List.Mem.tail _ (List.Mem.tail _ (List.Mem.head _)))))), (List.forall_mem_cons.mpr ⟨(List.Mem.tail _ (List.Mem.tail _ (List.Mem.tail _ (List.Mem.tail _ (List.Mem.tail _ (List.Mem.tail _ (List.Mem.head _))))))), (List.forall_mem_cons.mpr ⟨(List.Mem.tail _ (List.Mem.head _)), (List.forall_mem_cons.mpr ⟨(List.Mem.head _), (fun _ h => absurd h List.not_mem_nil)⟩)⟩)⟩)⟩)⟩)⟩)⟩), (show ([9, 8, 0, 1, 2, 4, 6] : List Nat).Nodup from by decide)⟩ w
    · replace w := w.2 (Decidable.of_not_not q)
      refine ab_fin.s2 (i := .aload_n 0) (k := 1) (pc' := 29) (lv' := [(8, .int (σ.i (2409 + 3 * ((σ.i l1 0).toNatClampNeg)) 2)), (0, .ref 0), (1, .ref l1), (2, .long l2), (4, .long l4), (6, .long l6)]) (st' := [.ref 0]) (by decide +kernel) rfl rfl ?_
      refine ab_fin.s1i (i := .iconst 2) (k := 1) (pc' := 30) (n := 2) (by decide +kernel) rfl (by decide +kernel) rfl ?_
      refine ab_fin.q_yR (i := .invokevirtual 812) (k := 3) (y := 5975) (As := [.ref 0, .int 2]) (rest := []) (M' := (mX23_fault, [])) (lv2 := [(0, .ref 0), (1, .int 2)]) (pc' := 33) (X := K) (by decide +kernel) (ab_cv rfl rfl (conc_get (σ := σ) (F.s s0_0)) ⟨(Nat.le_of_ble_eq_true rfl), (Nat.le_of_ble_eq_true rfl)⟩ rfl) rfl (Nat.le_of_ble_eq_true rfl) rfl rfl (hY_no fun E => rfl) w (fun v5 τ3 F4 w => ?_)
      obtain ⟨x7, e6, w⟩ := w
      exact ab_fin.q_ath (X := fun r h => ∃ τ, h = conc τ ∧ FX ΦR τ.sh τ.r ∧ K r τ) (by decide +kernel) (aT_ok e6) (fun p h ⟨τ, q, f, z⟩ => by subst q; exact ((hY_no fun E => rfl) : hY ΦR _ _ _ _ _ _ _ _ _ _) p τ f z) ⟨_, rfl, F4, w⟩
theorem S_X23_inside_37 {Z : zT} {d : Nat} {σ : Sg} {l1 : Nat} {l2 : Int64} {l4 : Int64} {l6 : Int64} {l8 : Int32} {l9 : Int32} {K : kS} (F : FX ΦR σ.sh σ.r) (p_l1 : sh0R[l1]? = some (Sh.obj 15)) (w : ((σ.i (l1 + 6) 2) ≤ l9 → (¬ l8 = 0 → B_X23_joined__0 Z d σ l1 l8 l2 l4 l6 (yI K fun v3 τ1 => B_X23_value_0 Z d τ1 1 v3 (yL K fun v6 τ4 => B_X23_inside_118 Z (d + 1) τ4 l1 l2 l4 l6 v6 ((τ4.i (l1 + 6) 3) - (1 : Int32)) K))) ∧ (l8 = 0 → B_X23_enter_0 Z d σ l1 0 0 l2 l4 l6 (yL K fun v9 τ7 => B_X23_inside_118 Z (d + 1) τ7 l1 l2 l4 l6 v9 ((τ7.i (l1 + 6) 3) - (1 : Int32)) K))) ∧ (¬ (σ.i (l1 + 6) 2) ≤ l9 → B_X23_enter_0 Z d σ l1 2 l9 l2 l4 l6 (yL K fun v12 τ10 => B_X23_inside_37 Z (d + 1) τ10 l1 l2 l4 l6 l8 (l9 + 1) K))) : B_X23_inside_37 Z (d + 1) σ l1 l2 l4 l6 l8 l9 K := by
  unfold B_X23_inside_37
  refine ab_fin.s2 (i := .iload 9) (k := 2) (pc' := 39) (lv' := [(0, .ref 0), (1, .ref l1), (2, .long l2), (4, .long l4), (6, .long l6), (8, .int l8), (9, .int l9)]) (st' := [.int l9]) (by decide +kernel) rfl rfl ?_
  refine ab_fin.s2 (i := .aload_n 1) (k := 1) (pc' := 40) (lv' := [(0, .ref 0), (1, .ref l1), (2, .long l2), (4, .long l4), (6, .long l6), (8, .int l8), (9, .int l9)]) (st' := [.ref l1, .int l9]) (by decide +kernel) rfl rfl ?_
  refine ab_fin.q_rA (b := (l1 + 6)) (ix := 723) (ci := 15) (k := 2) (pc' := 43) (by decide +kernel) rfl (c_rA (F.s p_l1) rfl (rO_15_2 F p_l1)) rfl ?_
  refine ab_fin.s1i (i := .iconst 2) (k := 1) (pc' := 44) (n := 2) (by decide +kernel) rfl (by decide +kernel) rfl ?_
  refine ab_fin.q_eI (x := (σ.i (l1 + 6) 2)) (pc' := 45) (by decide +kernel) (c_eI' (F.s (kF_15_6 p_l1)) (show ib (2 : Int32) 4 by decide +kernel) (by decide +kernel)) rfl ?_
  refine ab_fin.br (c := (σ.i (l1 + 6) 2) ≤ l9) (i := .if_icmp .ge 23) (off := 23) (t := 68) (pc' := 48) (r := []) (by decide +kernel) rfl (by decide +kernel) rfl (fun q => ?_) (fun q => ?_)
  · replace w := w.1 q
    refine ab_fin.s2 (i := .iload 8) (k := 2) (pc' := 70) (lv' := [(0, .ref 0), (1, .ref l1), (2, .long l2), (4, .long l4), (6, .long l6), (8, .int l8), (9, .int l9)]) (st' := [.int l8]) (by decide +kernel) rfl rfl ?_
    refine ab_fin.br (c := ¬ l8 = 0) (i := .ifCond .ne 20) (off := 20) (t := 90) (pc' := 73) (r := []) (by decide +kernel) rfl (by decide +kernel) rfl (fun q => ?_) (fun q => ?_)
    · replace w := w.1 q
      refine ab_fin.s1i (i := .iconst 1) (k := 1) (pc' := 91) (n := 1) (by decide +kernel) rfl (by decide +kernel) rfl ?_
      refine ab_fin.s2 (i := .aload_n 0) (k := 1) (pc' := 92) (lv' := [(0, .ref 0), (1, .ref l1), (2, .long l2), (4, .long l4), (6, .long l6), (8, .int l8), (9, .int l9)]) (st' := [.ref 0, .int 1]) (by decide +kernel) rfl rfl ?_
      refine ab_fin.s2 (i := .aload_n 1) (k := 1) (pc' := 93) (lv' := [(0, .ref 0), (1, .ref l1), (2, .long l2), (4, .long l4), (6, .long l6), (8, .int l8), (9, .int l9)]) (st' := [.ref l1, .ref 0, .int 1]) (by decide +kernel) rfl rfl ?_
      refine ab_fin.s2 (i := .iload 8) (k := 2) (pc' := 95) (lv' := [(0, .ref 0), (1, .ref l1), (2, .long l2), (4, .long l4), (6, .long l6), (8, .int l8), (9, .int l9)]) (st' := [.int l8, .ref l1, .ref 0, .int 1]) (by decide +kernel) rfl rfl ?_
      refine ab_fin.s2 (i := .lload_n 2) (k := 1) (pc' := 96) (lv' := [(0, .ref 0), (1, .ref l1), (2, .long l2), (4, .long l4), (6, .long l6), (8, .int l8), (9, .int l9)]) (st' := [.long l2, .int l8, .ref l1, .ref 0, .int 1]) (by decide +kernel) rfl rfl ?_
      refine ab_fin.s2 (i := .lload 4) (k := 2) (pc' := 98) (lv' := [(0, .ref 0), (1, .ref l1), (2, .long l2), (4, .long l4), (6, .long l6), (8, .int l8), (9, .int l9)]) (st' := [.long l4, .long l2, .int l8, .ref l1, .ref 0, .int 1]) (by decide +kernel) rfl rfl ?_
      refine ab_fin.s2 (i := .lload 6) (k := 2) (pc' := 100) (lv' := [(0, .ref 0), (1, .ref l1), (2, .long l2), (4, .long l4), (6, .long l6), (8, .int l8), (9, .int l9)]) (st' := [.long l6, .long l4, .long l2, .int l8, .ref l1, .ref 0, .int 1]) (by decide +kernel) rfl rfl ?_
      refine ab_fin.q_yI (i := .invokevirtual 874) (k := 3) (y := 5982) (As := [.ref 0, .ref l1, .int l8, .long l2, .long l4, .long l6]) (rest := [.int 1]) (M' := (mX23_joined_, [])) (lv2 := [(0, .ref 0), (1, .ref l1), (2, .int l8), (3, .long l2), (5, .long l4), (7, .long l6)]) (pc' := 103) (X := K) (by decide +kernel) (ab_cv rfl rfl (conc_get (σ := σ) (F.s s0_0)) ⟨(Nat.le_of_ble_eq_true rfl), (Nat.le_of_ble_eq_true rfl)⟩ rfl) rfl (Nat.le_of_ble_eq_true rfl) rfl rfl (hY_no fun E => rfl) w (fun v3 τ1 F2 w => ?_)
      refine ab_fin.q_yL (i := .invokestatic 745) (k := 3) (y := 5973) (As := [.int 1, .int v3]) (rest := []) (M' := (mX23_value, [])) (lv2 := [(0, .int 1), (1, .int v3)]) (pc' := 106) (X := K) (by decide +kernel) (ab_cs rfl rfl ⟨(Nat.le_of_ble_eq_true rfl), (Nat.le_of_ble_eq_true rfl)⟩ rfl) rfl (Nat.le_of_ble_eq_true rfl) rfl rfl (hY_no fun E => rfl) w (fun v6 τ4 F5 w => ?_)
      refine ab_fin.s2 (i := .lstore 9) (k := 2) (pc' := 108) (lv' := [(9, .long v6), (0, .ref 0), (1, .ref l1), (2, .long l2), (4, .long l4), (6, .long l6), (8, .int l8)]) (st' := []) (by decide +kernel) rfl rfl ?_
      refine ab_fin.s2 (i := .aload_n 1) (k := 1) (pc' := 109) (lv' := [(9, .long v6), (0, .ref 0), (1, .ref l1), (2, .long l2), (4, .long l4), (6, .long l6), (8, .int l8)]) (st' := [.ref l1]) (by decide +kernel) rfl rfl ?_
      refine ab_fin.q_rA (b := (l1 + 6)) (ix := 723) (ci := 15) (k := 2) (pc' := 112) (by decide +kernel) rfl (c_rA (F5.s p_l1) rfl (rO_15_2 F5 p_l1)) rfl ?_
      refine ab_fin.s1i (i := .iconst 3) (k := 1) (pc' := 113) (n := 3) (by decide +kernel) rfl (by decide +kernel) rfl ?_
      refine ab_fin.q_eI (x := (τ4.i (l1 + 6) 3)) (pc' := 114) (by decide +kernel) (c_eI' (F5.s (kF_15_6 p_l1)) (show ib (3 : Int32) 4 by decide +kernel) (by decide +kernel)) rfl ?_
      refine ab_fin.s1i (i := .iconst 1) (k := 1) (pc' := 115) (n := 1) (by decide +kernel) rfl (by decide +kernel) rfl ?_
      refine ab_fin.s1 (i := .isub) (k := 1) (pc' := 116) (st' := [.int ((τ4.i (l1 + 6) 3) - (1 : Int32))]) (by decide +kernel) rfl rfl ?_
      refine ab_fin.s2 (i := .istore 11) (k := 2) (pc' := 118) (lv' := [(11, .int ((τ4.i (l1 + 6) 3) - (1 : Int32))), (9, .long v6), (0, .ref 0), (1, .ref l1), (2, .long l2), (4, .long l4), (6, .long l6), (8, .int l8)]) (st' := []) (by decide +kernel) rfl rfl ?_
      exact ab_fin.lv ⟨(List.forall_mem_cons.mpr ⟨(List.Mem.tail _ (List.Mem.tail _ (List.Mem.head _))), (List.forall_mem_cons.mpr ⟨(List.Mem.tail _ (List.Mem.tail _ (List.Mem.tail _ (List.Mem.head _)))), (List.forall_mem_cons.mpr ⟨(List.Mem.tail _ (List.Mem.tail _ (List.Mem.tail _ (List.Mem.tail _ (List.Mem.head _))))), (List.forall_mem_cons.mpr ⟨(List.Mem.tail _ (List.Mem.tail _ (List.Mem.tail _ (List.Mem.tail _ (List.Mem.tail _ (List.Mem.head _)))))), (List.forall_mem_cons.mpr ⟨(List.Mem.tail _ (List.Mem.tail _ (List.Mem.tail _ (List.Mem.tail _ (List.Mem.tail _ (List.Mem.tail _ (List.Mem.head _))))))), (List.forall_mem_cons.mpr ⟨(List.Mem.tail _ (List.Mem.head _)), (List.forall_mem_cons.mpr ⟨(List.Mem.head _), (fun _ h => absurd h List.not_mem_nil)⟩)⟩)⟩)⟩)⟩)⟩)⟩), (show ([11, 9, 0, 1, 2, 4, 6, 8] : List Nat).Nodup from by decide)⟩ w
    · replace w := w.2 (Decidable.of_not_not q)
      refine ab_fin.s2 (i := .aload_n 0) (k := 1) (pc' := 74) (lv' := [(0, .ref 0), (1, .ref l1), (2, .long l2), (4, .long l4), (6, .long l6), (8, .int l8), (9, .int l9)]) (st' := [.ref 0]) (by decide +kernel) rfl rfl ?_
      refine ab_fin.s2 (i := .aload_n 1) (k := 1) (pc' := 75) (lv' := [(0, .ref 0), (1, .ref l1), (2, .long l2), (4, .long l4), (6, .long l6), (8, .int l8), (9, .int l9)]) (st' := [.ref l1, .ref 0]) (by decide +kernel) rfl rfl ?_
      refine ab_fin.s1i (i := .iconst 0) (k := 1) (pc' := 76) (n := 0) (by decide +kernel) rfl (by decide +kernel) rfl ?_
      refine ab_fin.s1i (i := .iconst 0) (k := 1) (pc' := 77) (n := 0) (by decide +kernel) rfl (by decide +kernel) rfl ?_
      refine ab_fin.s2 (i := .lload_n 2) (k := 1) (pc' := 78) (lv' := [(0, .ref 0), (1, .ref l1), (2, .long l2), (4, .long l4), (6, .long l6), (8, .int l8), (9, .int l9)]) (st' := [.long l2, .int 0, .int 0, .ref l1, .ref 0]) (by decide +kernel) rfl rfl ?_
      refine ab_fin.s2 (i := .lload 4) (k := 2) (pc' := 80) (lv' := [(0, .ref 0), (1, .ref l1), (2, .long l2), (4, .long l4), (6, .long l6), (8, .int l8), (9, .int l9)]) (st' := [.long l4, .long l2, .int 0, .int 0, .ref l1, .ref 0]) (by decide +kernel) rfl rfl ?_
      refine ab_fin.s2 (i := .lload 6) (k := 2) (pc' := 82) (lv' := [(0, .ref 0), (1, .ref l1), (2, .long l2), (4, .long l4), (6, .long l6), (8, .int l8), (9, .int l9)]) (st' := [.long l6, .long l4, .long l2, .int 0, .int 0, .ref l1, .ref 0]) (by decide +kernel) rfl rfl ?_
      refine ab_fin.q_yL (i := .invokevirtual 836) (k := 3) (y := 6090) (As := [.ref 0, .ref l1, .int 0, .int 0, .long l2, .long l4, .long l6]) (rest := []) (M' := (mX23_enter, [(144, 155, 168, 0), (168, 170, 168, 0)])) (lv2 := [(0, .ref 0), (1, .ref l1), (2, .int 0), (3, .int 0), (4, .long l2), (6, .long l4), (8, .long l6)]) (pc' := 85) (X := K) (by decide +kernel) (ab_cv rfl rfl (conc_get (σ := σ) (F.s s0_0)) ⟨(Nat.le_of_ble_eq_true rfl), (Nat.le_of_ble_eq_true rfl)⟩ rfl) rfl (Nat.le_of_ble_eq_true rfl) rfl rfl (hY_no fun E => rfl) w (fun v9 τ7 F8 w => ?_)
      refine ab_fin.s2 (i := .lstore 9) (k := 2) (pc' := 87) (lv' := [(9, .long v9), (0, .ref 0), (1, .ref l1), (2, .long l2), (4, .long l4), (6, .long l6), (8, .int l8)]) (st' := []) (by decide +kernel) rfl rfl ?_
      refine ab_fin.s3 (i := .goto 21) (k := 3) (t := 108) (st' := []) (by decide +kernel) (ab_gto (by decide +kernel)) ?_
      refine ab_fin.s2 (i := .aload_n 1) (k := 1) (pc' := 109) (lv' := [(9, .long v9), (0, .ref 0), (1, .ref l1), (2, .long l2), (4, .long l4), (6, .long l6), (8, .int l8)]) (st' := [.ref l1]) (by decide +kernel) rfl rfl ?_
      refine ab_fin.q_rA (b := (l1 + 6)) (ix := 723) (ci := 15) (k := 2) (pc' := 112) (by decide +kernel) rfl (c_rA (F8.s p_l1) rfl (rO_15_2 F8 p_l1)) rfl ?_
      refine ab_fin.s1i (i := .iconst 3) (k := 1) (pc' := 113) (n := 3) (by decide +kernel) rfl (by decide +kernel) rfl ?_
      refine ab_fin.q_eI (x := (τ7.i (l1 + 6) 3)) (pc' := 114) (by decide +kernel) (c_eI' (F8.s (kF_15_6 p_l1)) (show ib (3 : Int32) 4 by decide +kernel) (by decide +kernel)) rfl ?_
      refine ab_fin.s1i (i := .iconst 1) (k := 1) (pc' := 115) (n := 1) (by decide +kernel) rfl (by decide +kernel) rfl ?_
      refine ab_fin.s1 (i := .isub) (k := 1) (pc' := 116) (st' := [.int ((τ7.i (l1 + 6) 3) - (1 : Int32))]) (by decide +kernel) rfl rfl ?_
      refine ab_fin.s2 (i := .istore 11) (k := 2) (pc' := 118) (lv' := [(11, .int ((τ7.i (l1 + 6) 3) - (1 : Int32))), (9, .long v9), (0, .ref 0), (1, .ref l1), (2, .long l2), (4, .long l4), (6, .long l6), (8, .int l8)]) (st' := []) (by decide +kernel) rfl rfl ?_
      exact ab_fin.lv ⟨(List.forall_mem_cons.mpr ⟨(List.Mem.tail _ (List.Mem.tail _ (List.Mem.head _))), (List.forall_mem_cons.mpr ⟨(List.Mem.tail _ (List.Mem.tail _ (List.Mem.tail _ (List.Mem.head _)))), (List.forall_mem_cons.mpr ⟨(List.Mem.tail _ (List.Mem.tail _ (List.Mem.tail _ (List.Mem.tail _ (List.Mem.head _))))), (List.forall_mem_cons.mpr ⟨(List.Mem.tail _ (List.Mem.tail _ (List.Mem.tail _ (List.Mem.tail _ (List.Mem.tail _ (List.Mem.head _)))))), (List.forall_mem_cons.mpr ⟨(List.Mem.tail _ (List.Mem.tail _ (List.Mem.tail _ (List.Mem.tail _ (List.Mem.tail _ (List.Mem.tail _ (List.Mem.head _))))))), (List.forall_mem_cons.mpr ⟨(List.Mem.tail _ (List.Mem.head _)), (List.forall_mem_cons.mpr ⟨(List.Mem.head _), (fun _ h => absurd h List.not_mem_nil)⟩)⟩)⟩)⟩)⟩)⟩)⟩), (show ([11, 9, 0, 1, 2, 4, 6, 8] : List Nat).Nodup from by decide)⟩ w
  · replace w := w.2 q
    refine ab_fin.s2 (i := .aload_n 0) (k := 1) (pc' := 49) (lv' := [(0, .ref 0), (1, .ref l1), (2, .long l2), (4, .long l4), (6, .long l6), (8, .int l8), (9, .int l9)]) (st' := [.ref 0]) (by decide +kernel) rfl rfl ?_
    refine ab_fin.s2 (i := .aload_n 1) (k := 1) (pc' := 50) (lv' := [(0, .ref 0), (1, .ref l1), (2, .long l2), (4, .long l4), (6, .long l6), (8, .int l8), (9, .int l9)]) (st' := [.ref l1, .ref 0]) (by decide +kernel) rfl rfl ?_
    refine ab_fin.s1i (i := .iconst 2) (k := 1) (pc' := 51) (n := 2) (by decide +kernel) rfl (by decide +kernel) rfl ?_
    refine ab_fin.s2 (i := .iload 9) (k := 2) (pc' := 53) (lv' := [(0, .ref 0), (1, .ref l1), (2, .long l2), (4, .long l4), (6, .long l6), (8, .int l8), (9, .int l9)]) (st' := [.int l9, .int 2, .ref l1, .ref 0]) (by decide +kernel) rfl rfl ?_
    refine ab_fin.s2 (i := .lload_n 2) (k := 1) (pc' := 54) (lv' := [(0, .ref 0), (1, .ref l1), (2, .long l2), (4, .long l4), (6, .long l6), (8, .int l8), (9, .int l9)]) (st' := [.long l2, .int l9, .int 2, .ref l1, .ref 0]) (by decide +kernel) rfl rfl ?_
    refine ab_fin.s2 (i := .lload 4) (k := 2) (pc' := 56) (lv' := [(0, .ref 0), (1, .ref l1), (2, .long l2), (4, .long l4), (6, .long l6), (8, .int l8), (9, .int l9)]) (st' := [.long l4, .long l2, .int l9, .int 2, .ref l1, .ref 0]) (by decide +kernel) rfl rfl ?_
    refine ab_fin.s2 (i := .lload 6) (k := 2) (pc' := 58) (lv' := [(0, .ref 0), (1, .ref l1), (2, .long l2), (4, .long l4), (6, .long l6), (8, .int l8), (9, .int l9)]) (st' := [.long l6, .long l4, .long l2, .int l9, .int 2, .ref l1, .ref 0]) (by decide +kernel) rfl rfl ?_
    refine ab_fin.q_yL (i := .invokevirtual 836) (k := 3) (y := 6090) (As := [.ref 0, .ref l1, .int 2, .int l9, .long l2, .long l4, .long l6]) (rest := []) (M' := (mX23_enter, [(144, 155, 168, 0), (168, 170, 168, 0)])) (lv2 := [(0, .ref 0), (1, .ref l1), (2, .int 2), (3, .int l9), (4, .long l2), (6, .long l4), (8, .long l6)]) (pc' := 61) (X := K) (by decide +kernel) (ab_cv rfl rfl (conc_get (σ := σ) (F.s s0_0)) ⟨(Nat.le_of_ble_eq_true rfl), (Nat.le_of_ble_eq_true rfl)⟩ rfl) rfl (Nat.le_of_ble_eq_true rfl) rfl rfl (hY_no fun E => rfl) w (fun v12 τ10 F11 w => ?_)
    refine ab_fin.s9h (i := .pop2) (k := 1) (pc' := 62) (st' := []) rfl (by decide +kernel) rfl ?_
    refine ab_fin.q_inc (n := 9) (c := 1) (pc' := 65) (lv' := [(9, .int (l9 + 1)), (0, .ref 0), (1, .ref l1), (2, .long l2), (4, .long l4), (6, .long l6), (8, .int l8)]) (by decide +kernel) (by decide) rfl rfl rfl rfl ?_
    refine ab_fin.s3 (i := .goto (-28)) (k := 3) (t := 37) (st' := []) (by decide +kernel) (ab_gto (by decide +kernel)) ?_
    exact ab_fin.lv ⟨(List.forall_mem_cons.mpr ⟨(List.Mem.tail _ (List.Mem.head _)), (List.forall_mem_cons.mpr ⟨(List.Mem.tail _ (List.Mem.tail _ (List.Mem.head _))), (List.forall_mem_cons.mpr ⟨(List.Mem.tail _ (List.Mem.tail _ (List.Mem.tail _ (List.Mem.head _)))), (List.forall_mem_cons.mpr ⟨(List.Mem.tail _ (List.Mem.tail _ (List.Mem.tail _ (List.Mem.tail _ (List.Mem.head _))))), (List.forall_mem_cons.mpr ⟨(List.Mem.tail _ (List.Mem.tail _ (List.Mem.tail _ (List.Mem.tail _ (List.Mem.tail _ (List.Mem.head _)))))), (List.forall_mem_cons.mpr ⟨(List.Mem.tail _ (List.Mem.tail _ (List.Mem.tail _ (List.Mem.tail _ (List.Mem.tail _ (List.Mem.tail _ (List.Mem.head _))))))), (List.forall_mem_cons.mpr ⟨(List.Mem.head _), (fun _ h => absurd h List.not_mem_nil)⟩)⟩)⟩)⟩)⟩)⟩)⟩), (show ([9, 0, 1, 2, 4, 6, 8] : List Nat).Nodup from by decide)⟩ w
theorem S_X23_inside_118 {Z : zT} {d : Nat} {σ : Sg} {l1 : Nat} {l2 : Int64} {l4 : Int64} {l6 : Int64} {l9 : Int64} {l11 : Int32} {K : kS} (F : FX ΦR σ.sh σ.r) (p_l1 : sh0R[l1]? = some (Sh.obj 15)) (w : (l11 < 0 → K (.inl (some (.long l9))) σ) ∧ (¬ l11 < 0 → B_X23_enter_0 Z d σ l1 3 l11 l2 l4 l6 (yL K fun v3 τ1 => B_X23_inside_118 Z (d + 1) τ1 l1 l2 l4 l6 l9 (l11 + (-1)) K))) : B_X23_inside_118 Z (d + 1) σ l1 l2 l4 l6 l9 l11 K := by
  unfold B_X23_inside_118
  refine ab_fin.s2 (i := .iload 11) (k := 2) (pc' := 120) (lv' := [(0, .ref 0), (1, .ref l1), (2, .long l2), (4, .long l4), (6, .long l6), (9, .long l9), (11, .int l11)]) (st' := [.int l11]) (by decide +kernel) rfl rfl ?_
  refine ab_fin.br (c := l11 < 0) (i := .ifCond .lt 23) (off := 23) (t := 143) (pc' := 123) (r := []) (by decide +kernel) rfl (by decide +kernel) rfl (fun q => ?_) (fun q => ?_)
  · replace w := w.1 q
    refine ab_fin.s2 (i := .lload 9) (k := 2) (pc' := 145) (lv' := [(0, .ref 0), (1, .ref l1), (2, .long l2), (4, .long l4), (6, .long l6), (9, .long l9), (11, .int l11)]) (st' := [.long l9]) (by decide +kernel) rfl rfl ?_
    exact ab_fin.q_ret (i := .lreturn) (k := 1) (v := some (.long l9)) (by decide +kernel) rfl F w
  · replace w := w.2 q
    refine ab_fin.s2 (i := .aload_n 0) (k := 1) (pc' := 124) (lv' := [(0, .ref 0), (1, .ref l1), (2, .long l2), (4, .long l4), (6, .long l6), (9, .long l9), (11, .int l11)]) (st' := [.ref 0]) (by decide +kernel) rfl rfl ?_
    refine ab_fin.s2 (i := .aload_n 1) (k := 1) (pc' := 125) (lv' := [(0, .ref 0), (1, .ref l1), (2, .long l2), (4, .long l4), (6, .long l6), (9, .long l9), (11, .int l11)]) (st' := [.ref l1, .ref 0]) (by decide +kernel) rfl rfl ?_
    refine ab_fin.s1i (i := .iconst 3) (k := 1) (pc' := 126) (n := 3) (by decide +kernel) rfl (by decide +kernel) rfl ?_
    refine ab_fin.s2 (i := .iload 11) (k := 2) (pc' := 128) (lv' := [(0, .ref 0), (1, .ref l1), (2, .long l2), (4, .long l4), (6, .long l6), (9, .long l9), (11, .int l11)]) (st' := [.int l11, .int 3, .ref l1, .ref 0]) (by decide +kernel) rfl rfl ?_
    refine ab_fin.s2 (i := .lload_n 2) (k := 1) (pc' := 129) (lv' := [(0, .ref 0), (1, .ref l1), (2, .long l2), (4, .long l4), (6, .long l6), (9, .long l9), (11, .int l11)]) (st' := [.long l2, .int l11, .int 3, .ref l1, .ref 0]) (by decide +kernel) rfl rfl ?_
    refine ab_fin.s2 (i := .lload 4) (k := 2) (pc' := 131) (lv' := [(0, .ref 0), (1, .ref l1), (2, .long l2), (4, .long l4), (6, .long l6), (9, .long l9), (11, .int l11)]) (st' := [.long l4, .long l2, .int l11, .int 3, .ref l1, .ref 0]) (by decide +kernel) rfl rfl ?_
    refine ab_fin.s2 (i := .lload 6) (k := 2) (pc' := 133) (lv' := [(0, .ref 0), (1, .ref l1), (2, .long l2), (4, .long l4), (6, .long l6), (9, .long l9), (11, .int l11)]) (st' := [.long l6, .long l4, .long l2, .int l11, .int 3, .ref l1, .ref 0]) (by decide +kernel) rfl rfl ?_
    refine ab_fin.q_yL (i := .invokevirtual 836) (k := 3) (y := 6090) (As := [.ref 0, .ref l1, .int 3, .int l11, .long l2, .long l4, .long l6]) (rest := []) (M' := (mX23_enter, [(144, 155, 168, 0), (168, 170, 168, 0)])) (lv2 := [(0, .ref 0), (1, .ref l1), (2, .int 3), (3, .int l11), (4, .long l2), (6, .long l4), (8, .long l6)]) (pc' := 136) (X := K) (by decide +kernel) (ab_cv rfl rfl (conc_get (σ := σ) (F.s s0_0)) ⟨(Nat.le_of_ble_eq_true rfl), (Nat.le_of_ble_eq_true rfl)⟩ rfl) rfl (Nat.le_of_ble_eq_true rfl) rfl rfl (hY_no fun E => rfl) w (fun v3 τ1 F2 w => ?_)
    refine ab_fin.s9h (i := .pop2) (k := 1) (pc' := 137) (st' := []) rfl (by decide +kernel) rfl ?_
    refine ab_fin.q_inc (n := 11) (c := (-1)) (pc' := 140) (lv' := [(11, .int (l11 + (-1))), (0, .ref 0), (1, .ref l1), (2, .long l2), (4, .long l4), (6, .long l6), (9, .long l9)]) (by decide +kernel) (by decide) rfl rfl rfl rfl ?_
    refine ab_fin.s3 (i := .goto (-22)) (k := 3) (t := 118) (st' := []) (by decide +kernel) (ab_gto (by decide +kernel)) ?_
    exact ab_fin.lv ⟨(List.forall_mem_cons.mpr ⟨(List.Mem.tail _ (List.Mem.head _)), (List.forall_mem_cons.mpr ⟨(List.Mem.tail _ (List.Mem.tail _ (List.Mem.head _))), (List.forall_mem_cons.mpr ⟨(List.Mem.tail _ (List.Mem.tail _ (List.Mem.tail _ (List.Mem.head _)))), (List.forall_mem_cons.mpr ⟨(List.Mem.tail _ (List.Mem.tail _ (List.Mem.tail _ (List.Mem.tail _ (List.Mem.head _))))), (List.forall_mem_cons.mpr ⟨(List.Mem.tail _ (List.Mem.tail _ (List.Mem.tail _ (List.Mem.tail _ (List.Mem.tail _ (List.Mem.head _)))))), (List.forall_mem_cons.mpr ⟨(List.Mem.tail _ (List.Mem.tail _ (List.Mem.tail _ (List.Mem.tail _ (List.Mem.tail _ (List.Mem.tail _ (List.Mem.head _))))))), (List.forall_mem_cons.mpr ⟨(List.Mem.head _), (fun _ h => absurd h List.not_mem_nil)⟩)⟩)⟩)⟩)⟩)⟩)⟩), (show ([11, 0, 1, 2, 4, 6, 9] : List Nat).Nodup from by decide)⟩ w
theorem S_X23_joined__0 {Z : zT} {d : Nat} {σ : Sg} {l1 : Nat} {l2 : Int32} {l3 : Int64} {l5 : Int64} {l7 : Int64} {K : kS} (F : FX ΦR σ.sh σ.r) (w : (¬ l2 = 2 → B_X23_joined__15 Z (d + 1) σ l1 l2 l3 l5 l7 0 0 K) ∧ (l2 = 2 → B_X23_joined__15 Z (d + 1) σ l1 l2 l3 l5 l7 1 0 K)) : B_X23_joined__0 Z (d + 1) σ l1 l2 l3 l5 l7 K := by
  unfold B_X23_joined__0
  refine ab_fin.s2 (i := .iload_n 2) (k := 1) (pc' := 1) (lv' := [(0, .ref 0), (1, .ref l1), (2, .int l2), (3, .long l3), (5, .long l5), (7, .long l7)]) (st' := [.int l2]) (by decide +kernel) rfl rfl ?_
  refine ab_fin.s1i (i := .iconst 2) (k := 1) (pc' := 2) (n := 2) (by decide +kernel) rfl (by decide +kernel) rfl ?_
  refine ab_fin.br (c := ¬ l2 = 2) (i := .if_icmp .ne 7) (off := 7) (t := 9) (pc' := 5) (r := []) (by decide +kernel) rfl (by decide +kernel) rfl (fun q => ?_) (fun q => ?_)
  · replace w := w.1 q
    refine ab_fin.s1i (i := .iconst 0) (k := 1) (pc' := 10) (n := 0) (by decide +kernel) rfl (by decide +kernel) rfl ?_
    refine ab_fin.s2 (i := .istore 9) (k := 2) (pc' := 12) (lv' := [(9, .int 0), (0, .ref 0), (1, .ref l1), (2, .int l2), (3, .long l3), (5, .long l5), (7, .long l7)]) (st' := []) (by decide +kernel) rfl rfl ?_
    refine ab_fin.s1i (i := .iconst 0) (k := 1) (pc' := 13) (n := 0) (by decide +kernel) rfl (by decide +kernel) rfl ?_
    refine ab_fin.s2 (i := .istore 10) (k := 2) (pc' := 15) (lv' := [(10, .int 0), (9, .int 0), (0, .ref 0), (1, .ref l1), (2, .int l2), (3, .long l3), (5, .long l5), (7, .long l7)]) (st' := []) (by decide +kernel) rfl rfl ?_
    exact ab_fin.lv ⟨(List.forall_mem_cons.mpr ⟨(List.Mem.tail _ (List.Mem.tail _ (List.Mem.head _))), (List.forall_mem_cons.mpr ⟨(List.Mem.tail _ (List.Mem.tail _ (List.Mem.tail _ (List.Mem.head _)))), (List.forall_mem_cons.mpr ⟨(List.Mem.tail _ (List.Mem.tail _ (List.Mem.tail _ (List.Mem.tail _ (List.Mem.head _))))), (List.forall_mem_cons.mpr ⟨(List.Mem.tail _ (List.Mem.tail _ (List.Mem.tail _ (List.Mem.tail _ (List.Mem.tail _ (List.Mem.head _)))))), (List.forall_mem_cons.mpr ⟨(List.Mem.tail _ (List.Mem.tail _ (List.Mem.tail _ (List.Mem.tail _ (List.Mem.tail _ (List.Mem.tail _ (List.Mem.head _))))))), (List.forall_mem_cons.mpr ⟨(List.Mem.tail _ (List.Mem.tail _ (List.Mem.tail _ (List.Mem.tail _ (List.Mem.tail _ (List.Mem.tail _ (List.Mem.tail _ (List.Mem.head _)))))))), (List.forall_mem_cons.mpr ⟨(List.Mem.tail _ (List.Mem.head _)), (List.forall_mem_cons.mpr ⟨(List.Mem.head _), (fun _ h => absurd h List.not_mem_nil)⟩)⟩)⟩)⟩)⟩)⟩)⟩)⟩), (show ([10, 9, 0, 1, 2, 3, 5, 7] : List Nat).Nodup from by decide)⟩ w
  · replace w := w.2 (Decidable.of_not_not q)
    refine ab_fin.s1i (i := .iconst 1) (k := 1) (pc' := 6) (n := 1) (by decide +kernel) rfl (by decide +kernel) rfl ?_
    refine ab_fin.s3 (i := .goto 4) (k := 3) (t := 10) (st' := [.int 1]) (by decide +kernel) (ab_gto (by decide +kernel)) ?_
    refine ab_fin.s2 (i := .istore 9) (k := 2) (pc' := 12) (lv' := [(9, .int 1), (0, .ref 0), (1, .ref l1), (2, .int l2), (3, .long l3), (5, .long l5), (7, .long l7)]) (st' := []) (by decide +kernel) rfl rfl ?_
    refine ab_fin.s1i (i := .iconst 0) (k := 1) (pc' := 13) (n := 0) (by decide +kernel) rfl (by decide +kernel) rfl ?_
    refine ab_fin.s2 (i := .istore 10) (k := 2) (pc' := 15) (lv' := [(10, .int 0), (9, .int 1), (0, .ref 0), (1, .ref l1), (2, .int l2), (3, .long l3), (5, .long l5), (7, .long l7)]) (st' := []) (by decide +kernel) rfl rfl ?_
    exact ab_fin.lv ⟨(List.forall_mem_cons.mpr ⟨(List.Mem.tail _ (List.Mem.tail _ (List.Mem.head _))), (List.forall_mem_cons.mpr ⟨(List.Mem.tail _ (List.Mem.tail _ (List.Mem.tail _ (List.Mem.head _)))), (List.forall_mem_cons.mpr ⟨(List.Mem.tail _ (List.Mem.tail _ (List.Mem.tail _ (List.Mem.tail _ (List.Mem.head _))))), (List.forall_mem_cons.mpr ⟨(List.Mem.tail _ (List.Mem.tail _ (List.Mem.tail _ (List.Mem.tail _ (List.Mem.tail _ (List.Mem.head _)))))), (List.forall_mem_cons.mpr ⟨(List.Mem.tail _ (List.Mem.tail _ (List.Mem.tail _ (List.Mem.tail _ (List.Mem.tail _ (List.Mem.tail _ (List.Mem.head _))))))), (List.forall_mem_cons.mpr ⟨(List.Mem.tail _ (List.Mem.tail _ (List.Mem.tail _ (List.Mem.tail _ (List.Mem.tail _ (List.Mem.tail _ (List.Mem.tail _ (List.Mem.head _)))))))), (List.forall_mem_cons.mpr ⟨(List.Mem.tail _ (List.Mem.head _)), (List.forall_mem_cons.mpr ⟨(List.Mem.head _), (fun _ h => absurd h List.not_mem_nil)⟩)⟩)⟩)⟩)⟩)⟩)⟩)⟩), (show ([10, 9, 0, 1, 2, 3, 5, 7] : List Nat).Nodup from by decide)⟩ w
theorem S_X23_joined__15 {Z : zT} {d : Nat} {σ : Sg} {l1 : Nat} {l2 : Int32} {l3 : Int64} {l5 : Int64} {l7 : Int64} {l9 : Int32} {l10 : Int32} {K : kS} (F : FX ΦR σ.sh σ.r) (w : sh0R[l1]? = some (Sh.obj 15) ∧ (((σ.i (l1 + 6) 0) ≤ l10 → K (.inl (some (.int l9))) σ) ∧ (¬ (σ.i (l1 + 6) 0) ≤ l10 → B_X23_enter_0 Z d σ l1 0 l10 l3 l5 l7 (yL K fun v4 τ2 => (¬ l2 = 1 → (¬ l2 = 4 → (¬ l2 = 2 → B_X23_joined__96 Z (d + 1) τ2 l1 l2 l3 l5 l7 l9 l10 ((Int64.toInt32 v4)) K) ∧ (l2 = 2 → (¬ ((Int64.toInt32 v4)) = 0 → B_X23_joined__96 Z (d + 1) τ2 l1 l2 l3 l5 l7 l9 l10 ((Int64.toInt32 v4)) K) ∧ (((Int64.toInt32 v4)) = 0 → K (.inl (some (.int 0))) τ2))) ∧ (l2 = 4 → (¬ l10 = 0 → B_X23_joined__15 Z (d + 1) τ2 l1 l2 l3 l5 l7 (if ((Int64.toInt32 v4)) < l9 then ((Int64.toInt32 v4)) else l9) (l10 + 1) K) ∧ (l10 = 0 → B_X23_joined__15 Z (d + 1) τ2 l1 l2 l3 l5 l7 ((Int64.toInt32 v4)) (l10 + 1) K))) ∧ (l2 = 1 → B_X23_joined__15 Z (d + 1) τ2 l1 l2 l3 l5 l7 (l9 + ((Int64.toInt32 v4))) (l10 + 1) K))))) : B_X23_joined__15 Z (d + 1) σ l1 l2 l3 l5 l7 l9 l10 K := by
  unfold B_X23_joined__15
  refine ab_fin.s2 (i := .iload 10) (k := 2) (pc' := 17) (lv' := [(0, .ref 0), (1, .ref l1), (2, .int l2), (3, .long l3), (5, .long l5), (7, .long l7), (9, .int l9), (10, .int l10)]) (st' := [.int l10]) (by decide +kernel) rfl rfl ?_
  refine ab_fin.s2 (i := .aload_n 1) (k := 1) (pc' := 18) (lv' := [(0, .ref 0), (1, .ref l1), (2, .int l2), (3, .long l3), (5, .long l5), (7, .long l7), (9, .int l9), (10, .int l10)]) (st' := [.ref l1, .int l10]) (by decide +kernel) rfl rfl ?_
  obtain ⟨e1, w⟩ := w
  refine ab_fin.q_rA (b := (l1 + 6)) (ix := 723) (ci := 15) (k := 2) (pc' := 21) (by decide +kernel) rfl (c_rA (F.s e1) rfl (rO_15_2 F e1)) rfl ?_
  refine ab_fin.s1i (i := .iconst 0) (k := 1) (pc' := 22) (n := 0) (by decide +kernel) rfl (by decide +kernel) rfl ?_
  refine ab_fin.q_eI (x := (σ.i (l1 + 6) 0)) (pc' := 23) (by decide +kernel) (c_eI' (F.s (kF_15_6 e1)) (show ib (0 : Int32) 4 by decide +kernel) (by decide +kernel)) rfl ?_
  refine ab_fin.br (c := (σ.i (l1 + 6) 0) ≤ l10) (i := .if_icmp .ge 91) (off := 91) (t := 114) (pc' := 26) (r := []) (by decide +kernel) rfl (by decide +kernel) rfl (fun q => ?_) (fun q => ?_)
  · replace w := w.1 q
    refine ab_fin.s2 (i := .iload 9) (k := 2) (pc' := 116) (lv' := [(0, .ref 0), (1, .ref l1), (2, .int l2), (3, .long l3), (5, .long l5), (7, .long l7), (9, .int l9), (10, .int l10)]) (st' := [.int l9]) (by decide +kernel) rfl rfl ?_
    exact ab_fin.q_ret (i := .ireturn) (k := 1) (v := some (.int l9)) (by decide +kernel) rfl F w
  · replace w := w.2 q
    refine ab_fin.s2 (i := .aload_n 0) (k := 1) (pc' := 27) (lv' := [(0, .ref 0), (1, .ref l1), (2, .int l2), (3, .long l3), (5, .long l5), (7, .long l7), (9, .int l9), (10, .int l10)]) (st' := [.ref 0]) (by decide +kernel) rfl rfl ?_
    refine ab_fin.s2 (i := .aload_n 1) (k := 1) (pc' := 28) (lv' := [(0, .ref 0), (1, .ref l1), (2, .int l2), (3, .long l3), (5, .long l5), (7, .long l7), (9, .int l9), (10, .int l10)]) (st' := [.ref l1, .ref 0]) (by decide +kernel) rfl rfl ?_
    refine ab_fin.s1i (i := .iconst 0) (k := 1) (pc' := 29) (n := 0) (by decide +kernel) rfl (by decide +kernel) rfl ?_
    refine ab_fin.s2 (i := .iload 10) (k := 2) (pc' := 31) (lv' := [(0, .ref 0), (1, .ref l1), (2, .int l2), (3, .long l3), (5, .long l5), (7, .long l7), (9, .int l9), (10, .int l10)]) (st' := [.int l10, .int 0, .ref l1, .ref 0]) (by decide +kernel) rfl rfl ?_
    refine ab_fin.s2 (i := .lload_n 3) (k := 1) (pc' := 32) (lv' := [(0, .ref 0), (1, .ref l1), (2, .int l2), (3, .long l3), (5, .long l5), (7, .long l7), (9, .int l9), (10, .int l10)]) (st' := [.long l3, .int l10, .int 0, .ref l1, .ref 0]) (by decide +kernel) rfl rfl ?_
    refine ab_fin.s2 (i := .lload 5) (k := 2) (pc' := 34) (lv' := [(0, .ref 0), (1, .ref l1), (2, .int l2), (3, .long l3), (5, .long l5), (7, .long l7), (9, .int l9), (10, .int l10)]) (st' := [.long l5, .long l3, .int l10, .int 0, .ref l1, .ref 0]) (by decide +kernel) rfl rfl ?_
    refine ab_fin.s2 (i := .lload 7) (k := 2) (pc' := 36) (lv' := [(0, .ref 0), (1, .ref l1), (2, .int l2), (3, .long l3), (5, .long l5), (7, .long l7), (9, .int l9), (10, .int l10)]) (st' := [.long l7, .long l5, .long l3, .int l10, .int 0, .ref l1, .ref 0]) (by decide +kernel) rfl rfl ?_
    refine ab_fin.q_yL (i := .invokevirtual 836) (k := 3) (y := 6090) (As := [.ref 0, .ref l1, .int 0, .int l10, .long l3, .long l5, .long l7]) (rest := []) (M' := (mX23_enter, [(144, 155, 168, 0), (168, 170, 168, 0)])) (lv2 := [(0, .ref 0), (1, .ref l1), (2, .int 0), (3, .int l10), (4, .long l3), (6, .long l5), (8, .long l7)]) (pc' := 39) (X := K) (by decide +kernel) (ab_cv rfl rfl (conc_get (σ := σ) (F.s s0_0)) ⟨(Nat.le_of_ble_eq_true rfl), (Nat.le_of_ble_eq_true rfl)⟩ rfl) rfl (Nat.le_of_ble_eq_true rfl) rfl rfl (hY_no fun E => rfl) w (fun v4 τ2 F3 w => ?_)
    refine ab_fin.s1 (i := .l2i) (k := 1) (pc' := 40) (st' := [.int ((Int64.toInt32 v4))]) (by decide +kernel) rfl rfl ?_
    refine ab_fin.s2 (i := .istore 11) (k := 2) (pc' := 42) (lv' := [(11, .int ((Int64.toInt32 v4))), (0, .ref 0), (1, .ref l1), (2, .int l2), (3, .long l3), (5, .long l5), (7, .long l7), (9, .int l9), (10, .int l10)]) (st' := []) (by decide +kernel) rfl rfl ?_
    refine ab_fin.s2 (i := .iload_n 2) (k := 1) (pc' := 43) (lv' := [(11, .int ((Int64.toInt32 v4))), (0, .ref 0), (1, .ref l1), (2, .int l2), (3, .long l3), (5, .long l5), (7, .long l7), (9, .int l9), (10, .int l10)]) (st' := [.int l2]) (by decide +kernel) rfl rfl ?_
    refine ab_fin.s1i (i := .iconst 1) (k := 1) (pc' := 44) (n := 1) (by decide +kernel) rfl (by decide +kernel) rfl ?_
    refine ab_fin.br (c := ¬ l2 = 1) (i := .if_icmp .ne 13) (off := 13) (t := 57) (pc' := 47) (r := []) (by decide +kernel) rfl (by decide +kernel) rfl (fun q => ?_) (fun q => ?_)
    · replace w := w.1 q
      refine ab_fin.s2 (i := .iload_n 2) (k := 1) (pc' := 58) (lv' := [(11, .int ((Int64.toInt32 v4))), (0, .ref 0), (1, .ref l1), (2, .int l2), (3, .long l3), (5, .long l5), (7, .long l7), (9, .int l9), (10, .int l10)]) (st' := [.int l2]) (by decide +kernel) rfl rfl ?_
      refine ab_fin.s1i (i := .iconst 4) (k := 1) (pc' := 59) (n := 4) (by decide +kernel) rfl (by decide +kernel) rfl ?_
      refine ab_fin.br (c := ¬ l2 = 4) (i := .if_icmp .ne 25) (off := 25) (t := 84) (pc' := 62) (r := []) (by decide +kernel) rfl (by decide +kernel) rfl (fun q => ?_) (fun q => ?_)
      · replace w := w.1 q
        refine ab_fin.s2 (i := .iload_n 2) (k := 1) (pc' := 85) (lv' := [(11, .int ((Int64.toInt32 v4))), (0, .ref 0), (1, .ref l1), (2, .int l2), (3, .long l3), (5, .long l5), (7, .long l7), (9, .int l9), (10, .int l10)]) (st' := [.int l2]) (by decide +kernel) rfl rfl ?_
        refine ab_fin.s1i (i := .iconst 2) (k := 1) (pc' := 86) (n := 2) (by decide +kernel) rfl (by decide +kernel) rfl ?_
        refine ab_fin.br (c := ¬ l2 = 2) (i := .if_icmp .ne 10) (off := 10) (t := 96) (pc' := 89) (r := []) (by decide +kernel) rfl (by decide +kernel) rfl (fun q => ?_) (fun q => ?_)
        · replace w := w.1 q
          exact ab_fin.lv ⟨(List.forall_mem_cons.mpr ⟨(List.Mem.tail _ (List.Mem.head _)), (List.forall_mem_cons.mpr ⟨(List.Mem.tail _ (List.Mem.tail _ (List.Mem.head _))), (List.forall_mem_cons.mpr ⟨(List.Mem.tail _ (List.Mem.tail _ (List.Mem.tail _ (List.Mem.head _)))), (List.forall_mem_cons.mpr ⟨(List.Mem.tail _ (List.Mem.tail _ (List.Mem.tail _ (List.Mem.tail _ (List.Mem.head _))))), (List.forall_mem_cons.mpr ⟨(List.Mem.tail _ (List.Mem.tail _ (List.Mem.tail _ (List.Mem.tail _ (List.Mem.tail _ (List.Mem.head _)))))), (List.forall_mem_cons.mpr ⟨(List.Mem.tail _ (List.Mem.tail _ (List.Mem.tail _ (List.Mem.tail _ (List.Mem.tail _ (List.Mem.tail _ (List.Mem.head _))))))), (List.forall_mem_cons.mpr ⟨(List.Mem.tail _ (List.Mem.tail _ (List.Mem.tail _ (List.Mem.tail _ (List.Mem.tail _ (List.Mem.tail _ (List.Mem.tail _ (List.Mem.head _)))))))), (List.forall_mem_cons.mpr ⟨(List.Mem.tail _ (List.Mem.tail _ (List.Mem.tail _ (List.Mem.tail _ (List.Mem.tail _ (List.Mem.tail _ (List.Mem.tail _ (List.Mem.tail _ (List.Mem.head _))))))))), (List.forall_mem_cons.mpr ⟨(List.Mem.head _), (fun _ h => absurd h List.not_mem_nil)⟩)⟩)⟩)⟩)⟩)⟩)⟩)⟩)⟩), (show ([11, 0, 1, 2, 3, 5, 7, 9, 10] : List Nat).Nodup from by decide)⟩ w
        · replace w := w.2 (Decidable.of_not_not q)
          refine ab_fin.s2 (i := .iload 11) (k := 2) (pc' := 91) (lv' := [(11, .int ((Int64.toInt32 v4))), (0, .ref 0), (1, .ref l1), (2, .int l2), (3, .long l3), (5, .long l5), (7, .long l7), (9, .int l9), (10, .int l10)]) (st' := [.int ((Int64.toInt32 v4))]) (by decide +kernel) rfl rfl ?_
          refine ab_fin.br (c := ¬ ((Int64.toInt32 v4)) = 0) (i := .ifCond .ne 5) (off := 5) (t := 96) (pc' := 94) (r := []) (by decide +kernel) rfl (by decide +kernel) rfl (fun q => ?_) (fun q => ?_)
          · replace w := w.1 q
            exact ab_fin.lv ⟨(List.forall_mem_cons.mpr ⟨(List.Mem.tail _ (List.Mem.head _)), (List.forall_mem_cons.mpr ⟨(List.Mem.tail _ (List.Mem.tail _ (List.Mem.head _))), (List.forall_mem_cons.mpr ⟨(List.Mem.tail _ (List.Mem.tail _ (List.Mem.tail _ (List.Mem.head _)))), (List.forall_mem_cons.mpr ⟨(List.Mem.tail _ (List.Mem.tail _ (List.Mem.tail _ (List.Mem.tail _ (List.Mem.head _))))), (List.forall_mem_cons.mpr ⟨(List.Mem.tail _ (List.Mem.tail _ (List.Mem.tail _ (List.Mem.tail _ (List.Mem.tail _ (List.Mem.head _)))))), (List.forall_mem_cons.mpr ⟨(List.Mem.tail _ (List.Mem.tail _ (List.Mem.tail _ (List.Mem.tail _ (List.Mem.tail _ (List.Mem.tail _ (List.Mem.head _))))))), (List.forall_mem_cons.mpr ⟨(List.Mem.tail _ (List.Mem.tail _ (List.Mem.tail _ (List.Mem.tail _ (List.Mem.tail _ (List.Mem.tail _ (List.Mem.tail _ (List.Mem.head _)))))))), (List.forall_mem_cons.mpr ⟨(List.Mem.tail _ (List.Mem.tail _ (List.Mem.tail _ (List.Mem.tail _ (List.Mem.tail _ (List.Mem.tail _ (List.Mem.tail _ (List.Mem.tail _ (List.Mem.head _))))))))), (List.forall_mem_cons.mpr ⟨(List.Mem.head _), (fun _ h => absurd h List.not_mem_nil)⟩)⟩)⟩)⟩)⟩)⟩)⟩)⟩)⟩), (show ([11, 0, 1, 2, 3, 5, 7, 9, 10] : List Nat).Nodup from by decide)⟩ w
          · replace w := w.2 (Decidable.of_not_not q)
            refine ab_fin.s1i (i := .iconst 0) (k := 1) (pc' := 95) (n := 0) (by decide +kernel) rfl (by decide +kernel) rfl ?_
            exact ab_fin.q_ret (i := .ireturn) (k := 1) (v := some (.int 0)) (by decide +kernel) rfl F3 w
      · replace w := w.2 (Decidable.of_not_not q)
        refine ab_fin.s2 (i := .iload 10) (k := 2) (pc' := 64) (lv' := [(11, .int ((Int64.toInt32 v4))), (0, .ref 0), (1, .ref l1), (2, .int l2), (3, .long l3), (5, .long l5), (7, .long l7), (9, .int l9), (10, .int l10)]) (st' := [.int l10]) (by decide +kernel) rfl rfl ?_
        refine ab_fin.br (c := ¬ l10 = 0) (i := .ifCond .ne 8) (off := 8) (t := 72) (pc' := 67) (r := []) (by decide +kernel) rfl (by decide +kernel) rfl (fun q => ?_) (fun q => ?_)
        · replace w := w.1 q
          refine ab_fin.s2 (i := .iload 9) (k := 2) (pc' := 74) (lv' := [(11, .int ((Int64.toInt32 v4))), (0, .ref 0), (1, .ref l1), (2, .int l2), (3, .long l3), (5, .long l5), (7, .long l7), (9, .int l9), (10, .int l10)]) (st' := [.int l9]) (by decide +kernel) rfl rfl ?_
          refine ab_fin.s2 (i := .iload 11) (k := 2) (pc' := 76) (lv' := [(11, .int ((Int64.toInt32 v4))), (0, .ref 0), (1, .ref l1), (2, .int l2), (3, .long l3), (5, .long l5), (7, .long l7), (9, .int l9), (10, .int l10)]) (st' := [.int ((Int64.toInt32 v4)), .int l9]) (by decide +kernel) rfl rfl ?_
          refine ab_fin.cpy (i := .invokestatic 877) (k := 3) (pc' := 79) (h1 := conc τ2) (st' := [.int (if ((Int64.toInt32 v4)) < l9 then ((Int64.toInt32 v4)) else l9)]) (by decide +kernel) rfl rfl ?_
          refine ab_fin.s2 (i := .istore 9) (k := 2) (pc' := 81) (lv' := [(9, .int (if ((Int64.toInt32 v4)) < l9 then ((Int64.toInt32 v4)) else l9)), (11, .int ((Int64.toInt32 v4))), (0, .ref 0), (1, .ref l1), (2, .int l2), (3, .long l3), (5, .long l5), (7, .long l7), (10, .int l10)]) (st' := []) (by decide +kernel) rfl rfl ?_
          refine ab_fin.s3 (i := .goto 27) (k := 3) (t := 108) (st' := []) (by decide +kernel) (ab_gto (by decide +kernel)) ?_
          refine ab_fin.q_inc (n := 10) (c := 1) (pc' := 111) (lv' := [(10, .int (l10 + 1)), (9, .int (if ((Int64.toInt32 v4)) < l9 then ((Int64.toInt32 v4)) else l9)), (11, .int ((Int64.toInt32 v4))), (0, .ref 0), (1, .ref l1), (2, .int l2), (3, .long l3), (5, .long l5), (7, .long l7)]) (by decide +kernel) (by decide) rfl rfl rfl rfl ?_
          refine ab_fin.s3 (i := .goto (-96)) (k := 3) (t := 15) (st' := []) (by decide +kernel) (ab_gto (by decide +kernel)) ?_
          exact ab_fin.lv ⟨(List.forall_mem_cons.mpr ⟨(List.Mem.tail _ (List.Mem.tail _ (List.Mem.tail _ (List.Mem.head _)))), (List.forall_mem_cons.mpr ⟨(List.Mem.tail _ (List.Mem.tail _ (List.Mem.tail _ (List.Mem.tail _ (List.Mem.head _))))), (List.forall_mem_cons.mpr ⟨(List.Mem.tail _ (List.Mem.tail _ (List.Mem.tail _ (List.Mem.tail _ (List.Mem.tail _ (List.Mem.head _)))))), (List.forall_mem_cons.mpr ⟨(List.Mem.tail _ (List.Mem.tail _ (List.Mem.tail _ (List.Mem.tail _ (List.Mem.tail _ (List.Mem.tail _ (List.Mem.head _))))))), (List.forall_mem_cons.mpr ⟨(List.Mem.tail _ (List.Mem.tail _ (List.Mem.tail _ (List.Mem.tail _ (List.Mem.tail _ (List.Mem.tail _ (List.Mem.tail _ (List.Mem.head _)))))))), (List.forall_mem_cons.mpr ⟨(List.Mem.tail _ (List.Mem.tail _ (List.Mem.tail _ (List.Mem.tail _ (List.Mem.tail _ (List.Mem.tail _ (List.Mem.tail _ (List.Mem.tail _ (List.Mem.head _))))))))), (List.forall_mem_cons.mpr ⟨(List.Mem.tail _ (List.Mem.head _)), (List.forall_mem_cons.mpr ⟨(List.Mem.head _), (fun _ h => absurd h List.not_mem_nil)⟩)⟩)⟩)⟩)⟩)⟩)⟩)⟩), (show ([10, 9, 11, 0, 1, 2, 3, 5, 7] : List Nat).Nodup from by decide)⟩ w
        · replace w := w.2 (Decidable.of_not_not q)
          refine ab_fin.s2 (i := .iload 11) (k := 2) (pc' := 69) (lv' := [(11, .int ((Int64.toInt32 v4))), (0, .ref 0), (1, .ref l1), (2, .int l2), (3, .long l3), (5, .long l5), (7, .long l7), (9, .int l9), (10, .int l10)]) (st' := [.int ((Int64.toInt32 v4))]) (by decide +kernel) rfl rfl ?_
          refine ab_fin.s3 (i := .goto 10) (k := 3) (t := 79) (st' := [.int ((Int64.toInt32 v4))]) (by decide +kernel) (ab_gto (by decide +kernel)) ?_
          refine ab_fin.s2 (i := .istore 9) (k := 2) (pc' := 81) (lv' := [(9, .int ((Int64.toInt32 v4))), (11, .int ((Int64.toInt32 v4))), (0, .ref 0), (1, .ref l1), (2, .int l2), (3, .long l3), (5, .long l5), (7, .long l7), (10, .int l10)]) (st' := []) (by decide +kernel) rfl rfl ?_
          refine ab_fin.s3 (i := .goto 27) (k := 3) (t := 108) (st' := []) (by decide +kernel) (ab_gto (by decide +kernel)) ?_
          refine ab_fin.q_inc (n := 10) (c := 1) (pc' := 111) (lv' := [(10, .int (l10 + 1)), (9, .int ((Int64.toInt32 v4))), (11, .int ((Int64.toInt32 v4))), (0, .ref 0), (1, .ref l1), (2, .int l2), (3, .long l3), (5, .long l5), (7, .long l7)]) (by decide +kernel) (by decide) rfl rfl rfl rfl ?_
          refine ab_fin.s3 (i := .goto (-96)) (k := 3) (t := 15) (st' := []) (by decide +kernel) (ab_gto (by decide +kernel)) ?_
          exact ab_fin.lv ⟨(List.forall_mem_cons.mpr ⟨(List.Mem.tail _ (List.Mem.tail _ (List.Mem.tail _ (List.Mem.head _)))), (List.forall_mem_cons.mpr ⟨(List.Mem.tail _ (List.Mem.tail _ (List.Mem.tail _ (List.Mem.tail _ (List.Mem.head _))))), (List.forall_mem_cons.mpr ⟨(List.Mem.tail _ (List.Mem.tail _ (List.Mem.tail _ (List.Mem.tail _ (List.Mem.tail _ (List.Mem.head _)))))), (List.forall_mem_cons.mpr ⟨(List.Mem.tail _ (List.Mem.tail _ (List.Mem.tail _ (List.Mem.tail _ (List.Mem.tail _ (List.Mem.tail _ (List.Mem.head _))))))), (List.forall_mem_cons.mpr ⟨(List.Mem.tail _ (List.Mem.tail _ (List.Mem.tail _ (List.Mem.tail _ (List.Mem.tail _ (List.Mem.tail _ (List.Mem.tail _ (List.Mem.head _)))))))), (List.forall_mem_cons.mpr ⟨(List.Mem.tail _ (List.Mem.tail _ (List.Mem.tail _ (List.Mem.tail _ (List.Mem.tail _ (List.Mem.tail _ (List.Mem.tail _ (List.Mem.tail _ (List.Mem.head _))))))))), (List.forall_mem_cons.mpr ⟨(List.Mem.tail _ (List.Mem.head _)), (List.forall_mem_cons.mpr ⟨(List.Mem.head _), (fun _ h => absurd h List.not_mem_nil)⟩)⟩)⟩)⟩)⟩)⟩)⟩)⟩), (show ([10, 9, 11, 0, 1, 2, 3, 5, 7] : List Nat).Nodup from by decide)⟩ w
    · replace w := w.2 (Decidable.of_not_not q)
      refine ab_fin.s2 (i := .iload 9) (k := 2) (pc' := 49) (lv' := [(11, .int ((Int64.toInt32 v4))), (0, .ref 0), (1, .ref l1), (2, .int l2), (3, .long l3), (5, .long l5), (7, .long l7), (9, .int l9), (10, .int l10)]) (st' := [.int l9]) (by decide +kernel) rfl rfl ?_
      refine ab_fin.s2 (i := .iload 11) (k := 2) (pc' := 51) (lv' := [(11, .int ((Int64.toInt32 v4))), (0, .ref 0), (1, .ref l1), (2, .int l2), (3, .long l3), (5, .long l5), (7, .long l7), (9, .int l9), (10, .int l10)]) (st' := [.int ((Int64.toInt32 v4)), .int l9]) (by decide +kernel) rfl rfl ?_
      refine ab_fin.s1 (i := .iadd) (k := 1) (pc' := 52) (st' := [.int (l9 + ((Int64.toInt32 v4)))]) (by decide +kernel) rfl rfl ?_
      refine ab_fin.s2 (i := .istore 9) (k := 2) (pc' := 54) (lv' := [(9, .int (l9 + ((Int64.toInt32 v4)))), (11, .int ((Int64.toInt32 v4))), (0, .ref 0), (1, .ref l1), (2, .int l2), (3, .long l3), (5, .long l5), (7, .long l7), (10, .int l10)]) (st' := []) (by decide +kernel) rfl rfl ?_
      refine ab_fin.s3 (i := .goto 54) (k := 3) (t := 108) (st' := []) (by decide +kernel) (ab_gto (by decide +kernel)) ?_
      refine ab_fin.q_inc (n := 10) (c := 1) (pc' := 111) (lv' := [(10, .int (l10 + 1)), (9, .int (l9 + ((Int64.toInt32 v4)))), (11, .int ((Int64.toInt32 v4))), (0, .ref 0), (1, .ref l1), (2, .int l2), (3, .long l3), (5, .long l5), (7, .long l7)]) (by decide +kernel) (by decide) rfl rfl rfl rfl ?_
      refine ab_fin.s3 (i := .goto (-96)) (k := 3) (t := 15) (st' := []) (by decide +kernel) (ab_gto (by decide +kernel)) ?_
      exact ab_fin.lv ⟨(List.forall_mem_cons.mpr ⟨(List.Mem.tail _ (List.Mem.tail _ (List.Mem.tail _ (List.Mem.head _)))), (List.forall_mem_cons.mpr ⟨(List.Mem.tail _ (List.Mem.tail _ (List.Mem.tail _ (List.Mem.tail _ (List.Mem.head _))))), (List.forall_mem_cons.mpr ⟨(List.Mem.tail _ (List.Mem.tail _ (List.Mem.tail _ (List.Mem.tail _ (List.Mem.tail _ (List.Mem.head _)))))), (List.forall_mem_cons.mpr ⟨(List.Mem.tail _ (List.Mem.tail _ (List.Mem.tail _ (List.Mem.tail _ (List.Mem.tail _ (List.Mem.tail _ (List.Mem.head _))))))), (List.forall_mem_cons.mpr ⟨(List.Mem.tail _ (List.Mem.tail _ (List.Mem.tail _ (List.Mem.tail _ (List.Mem.tail _ (List.Mem.tail _ (List.Mem.tail _ (List.Mem.head _)))))))), (List.forall_mem_cons.mpr ⟨(List.Mem.tail _ (List.Mem.tail _ (List.Mem.tail _ (List.Mem.tail _ (List.Mem.tail _ (List.Mem.tail _ (List.Mem.tail _ (List.Mem.tail _ (List.Mem.head _))))))))), (List.forall_mem_cons.mpr ⟨(List.Mem.tail _ (List.Mem.head _)), (List.forall_mem_cons.mpr ⟨(List.Mem.head _), (fun _ h => absurd h List.not_mem_nil)⟩)⟩)⟩)⟩)⟩)⟩)⟩)⟩), (show ([10, 9, 11, 0, 1, 2, 3, 5, 7] : List Nat).Nodup from by decide)⟩ w
theorem S_X23_joined__96 {Z : zT} {d : Nat} {σ : Sg} {l1 : Nat} {l2 : Int32} {l3 : Int64} {l5 : Int64} {l7 : Int64} {l9 : Int32} {l10 : Int32} {l11 : Int32} {K : kS} (F : FX ΦR σ.sh σ.r) (p_l1 : sh0R[l1]? = some (Sh.obj 15)) (w : (¬ l2 = 3 → B_X23_joined__15 Z (d + 1) σ l1 l2 l3 l5 l7 l9 (l10 + 1) K) ∧ (l2 = 3 → (l11 = 0 → B_X23_joined__15 Z (d + 1) σ l1 l2 l3 l5 l7 l9 (l10 + 1) K) ∧ (¬ l11 = 0 → K (.inl (some (.int 1))) σ))) : B_X23_joined__96 Z (d + 1) σ l1 l2 l3 l5 l7 l9 l10 l11 K := by
  unfold B_X23_joined__96
  refine ab_fin.s2 (i := .iload_n 2) (k := 1) (pc' := 97) (lv' := [(0, .ref 0), (1, .ref l1), (2, .int l2), (3, .long l3), (5, .long l5), (7, .long l7), (9, .int l9), (10, .int l10), (11, .int l11)]) (st' := [.int l2]) (by decide +kernel) rfl rfl ?_
  refine ab_fin.s1i (i := .iconst 3) (k := 1) (pc' := 98) (n := 3) (by decide +kernel) rfl (by decide +kernel) rfl ?_
  refine ab_fin.br (c := ¬ l2 = 3) (i := .if_icmp .ne 10) (off := 10) (t := 108) (pc' := 101) (r := []) (by decide +kernel) rfl (by decide +kernel) rfl (fun q => ?_) (fun q => ?_)
  · replace w := w.1 q
    refine ab_fin.q_inc (n := 10) (c := 1) (pc' := 111) (lv' := [(10, .int (l10 + 1)), (0, .ref 0), (1, .ref l1), (2, .int l2), (3, .long l3), (5, .long l5), (7, .long l7), (9, .int l9), (11, .int l11)]) (by decide +kernel) (by decide) rfl rfl rfl rfl ?_
    refine ab_fin.s3 (i := .goto (-96)) (k := 3) (t := 15) (st' := []) (by decide +kernel) (ab_gto (by decide +kernel)) ?_
    exact ab_fin.lv ⟨(List.forall_mem_cons.mpr ⟨(List.Mem.tail _ (List.Mem.head _)), (List.forall_mem_cons.mpr ⟨(List.Mem.tail _ (List.Mem.tail _ (List.Mem.head _))), (List.forall_mem_cons.mpr ⟨(List.Mem.tail _ (List.Mem.tail _ (List.Mem.tail _ (List.Mem.head _)))), (List.forall_mem_cons.mpr ⟨(List.Mem.tail _ (List.Mem.tail _ (List.Mem.tail _ (List.Mem.tail _ (List.Mem.head _))))), (List.forall_mem_cons.mpr ⟨(List.Mem.tail _ (List.Mem.tail _ (List.Mem.tail _ (List.Mem.tail _ (List.Mem.tail _ (List.Mem.head _)))))), (List.forall_mem_cons.mpr ⟨(List.Mem.tail _ (List.Mem.tail _ (List.Mem.tail _ (List.Mem.tail _ (List.Mem.tail _ (List.Mem.tail _ (List.Mem.head _))))))), (List.forall_mem_cons.mpr ⟨(List.Mem.tail _ (List.Mem.tail _ (List.Mem.tail _ (List.Mem.tail _ (List.Mem.tail _ (List.Mem.tail _ (List.Mem.tail _ (List.Mem.head _)))))))), (List.forall_mem_cons.mpr ⟨(List.Mem.head _), (fun _ h => absurd h List.not_mem_nil)⟩)⟩)⟩)⟩)⟩)⟩)⟩)⟩), (show ([10, 0, 1, 2, 3, 5, 7, 9, 11] : List Nat).Nodup from by decide)⟩ w
  · replace w := w.2 (Decidable.of_not_not q)
    refine ab_fin.s2 (i := .iload 11) (k := 2) (pc' := 103) (lv' := [(0, .ref 0), (1, .ref l1), (2, .int l2), (3, .long l3), (5, .long l5), (7, .long l7), (9, .int l9), (10, .int l10), (11, .int l11)]) (st' := [.int l11]) (by decide +kernel) rfl rfl ?_
    refine ab_fin.br (c := l11 = 0) (i := .ifCond .eq 5) (off := 5) (t := 108) (pc' := 106) (r := []) (by decide +kernel) rfl (by decide +kernel) rfl (fun q => ?_) (fun q => ?_)
    · replace w := w.1 q
      refine ab_fin.q_inc (n := 10) (c := 1) (pc' := 111) (lv' := [(10, .int (l10 + 1)), (0, .ref 0), (1, .ref l1), (2, .int l2), (3, .long l3), (5, .long l5), (7, .long l7), (9, .int l9), (11, .int l11)]) (by decide +kernel) (by decide) rfl rfl rfl rfl ?_
      refine ab_fin.s3 (i := .goto (-96)) (k := 3) (t := 15) (st' := []) (by decide +kernel) (ab_gto (by decide +kernel)) ?_
      exact ab_fin.lv ⟨(List.forall_mem_cons.mpr ⟨(List.Mem.tail _ (List.Mem.head _)), (List.forall_mem_cons.mpr ⟨(List.Mem.tail _ (List.Mem.tail _ (List.Mem.head _))), (List.forall_mem_cons.mpr ⟨(List.Mem.tail _ (List.Mem.tail _ (List.Mem.tail _ (List.Mem.head _)))), (List.forall_mem_cons.mpr ⟨(List.Mem.tail _ (List.Mem.tail _ (List.Mem.tail _ (List.Mem.tail _ (List.Mem.head _))))), (List.forall_mem_cons.mpr ⟨(List.Mem.tail _ (List.Mem.tail _ (List.Mem.tail _ (List.Mem.tail _ (List.Mem.tail _ (List.Mem.head _)))))), (List.forall_mem_cons.mpr ⟨(List.Mem.tail _ (List.Mem.tail _ (List.Mem.tail _ (List.Mem.tail _ (List.Mem.tail _ (List.Mem.tail _ (List.Mem.head _))))))), (List.forall_mem_cons.mpr ⟨(List.Mem.tail _ (List.Mem.tail _ (List.Mem.tail _ (List.Mem.tail _ (List.Mem.tail _ (List.Mem.tail _ (List.Mem.tail _ (List.Mem.head _)))))))), (List.forall_mem_cons.mpr ⟨(List.Mem.head _), (fun _ h => absurd h List.not_mem_nil)⟩)⟩)⟩)⟩)⟩)⟩)⟩)⟩), (show ([10, 0, 1, 2, 3, 5, 7, 9, 11] : List Nat).Nodup from by decide)⟩ w
    · replace w := w.2 q
      refine ab_fin.s1i (i := .iconst 1) (k := 1) (pc' := 107) (n := 1) (by decide +kernel) rfl (by decide +kernel) rfl ?_
      exact ab_fin.q_ret (i := .ireturn) (k := 1) (v := some (.int 1)) (by decide +kernel) rfl F w
theorem S_X23_runAll_0 {Z : zT} {d : Nat} {σ : Sg}  {K : kS} (F : FX ΦR σ.sh σ.r) (w : B_X23_value_0 Z d ((((((((σ.wi 0 96 (1 : Int32)).wi 0 80 (0 : Int32)).wi 0 84 (0 : Int32)).wi 0 85 (0 : Int32)).wi 0 86 (0 : Int32)).wi 0 87 (0 : Int32)).wi 0 70 (0 : Int32)).wl 0 68 (0 : Int64)) (-1) 0 (yL K fun v3 τ1 => B_X23_eval_0 Z d (τ1.wl 0 97 v3) (τ1.r 0 10) (yL (bS ΦR (hb_Gz Z.1 (some Z.2)) hb_GT d (mX23_runAll, [(49, 66, 69, 790), (49, 66, 86, 888)]) 55 [(0, .ref 0)] K) fun v6 τ4 => K (.inl (some (.int (0 : Int32)))) ((τ4.wl 0 97 v6).wi 0 79 (0 : Int32))))) : B_X23_runAll_0 Z (d + 1) σ  K := by
  unfold B_X23_runAll_0
  refine ab_fin.s2 (i := .aload_n 0) (k := 1) (pc' := 1) (lv' := [(0, .ref 0)]) (st' := [.ref 0]) (by decide +kernel) rfl rfl ?_
  refine ab_fin.s1i (i := .iconst 1) (k := 1) (pc' := 2) (n := 1) (by decide +kernel) rfl (by decide +kernel) rfl ?_
  refine ab_fin.q_pF (ix := 879) (ci := 24) (k := 96) (h1 := conc (σ.wi 0 96 (1 : Int32))) (pc' := 5) (by decide +kernel) rfl (c_pI (v := 1) (F.s s0_0) rfl) rfl rfl rfl ?_
  refine ab_fin.s2 (i := .aload_n 0) (k := 1) (pc' := 6) (lv' := [(0, .ref 0)]) (st' := [.ref 0]) (by decide +kernel) rfl rfl ?_
  refine ab_fin.s1i (i := .iconst 0) (k := 1) (pc' := 7) (n := 0) (by decide +kernel) rfl (by decide +kernel) rfl ?_
  refine ab_fin.q_pF (ix := 762) (ci := 24) (k := 80) (h1 := conc ((σ.wi 0 96 (1 : Int32)).wi 0 80 (0 : Int32))) (pc' := 10) (by decide +kernel) rfl (c_pI (v := 0) (F.s s0_0) rfl) rfl rfl rfl ?_
  refine ab_fin.s2 (i := .aload_n 0) (k := 1) (pc' := 11) (lv' := [(0, .ref 0)]) (st' := [.ref 0]) (by decide +kernel) rfl rfl ?_
  refine ab_fin.s1i (i := .iconst 0) (k := 1) (pc' := 12) (n := 0) (by decide +kernel) rfl (by decide +kernel) rfl ?_
  refine ab_fin.q_pF (ix := 822) (ci := 24) (k := 84) (h1 := conc (((σ.wi 0 96 (1 : Int32)).wi 0 80 (0 : Int32)).wi 0 84 (0 : Int32))) (pc' := 15) (by decide +kernel) rfl (c_pI (v := 0) (F.s s0_0) rfl) rfl rfl rfl ?_
  refine ab_fin.s2 (i := .aload_n 0) (k := 1) (pc' := 16) (lv' := [(0, .ref 0)]) (st' := [.ref 0]) (by decide +kernel) rfl rfl ?_
  refine ab_fin.s1i (i := .iconst 0) (k := 1) (pc' := 17) (n := 0) (by decide +kernel) rfl (by decide +kernel) rfl ?_
  refine ab_fin.q_pF (ix := 792) (ci := 24) (k := 85) (h1 := conc ((((σ.wi 0 96 (1 : Int32)).wi 0 80 (0 : Int32)).wi 0 84 (0 : Int32)).wi 0 85 (0 : Int32))) (pc' := 20) (by decide +kernel) rfl (c_pI (v := 0) (F.s s0_0) rfl) rfl rfl rfl ?_
  refine ab_fin.s2 (i := .aload_n 0) (k := 1) (pc' := 21) (lv' := [(0, .ref 0)]) (st' := [.ref 0]) (by decide +kernel) rfl rfl ?_
  refine ab_fin.s1i (i := .iconst 0) (k := 1) (pc' := 22) (n := 0) (by decide +kernel) rfl (by decide +kernel) rfl ?_
  refine ab_fin.q_pF (ix := 859) (ci := 24) (k := 86) (h1 := conc (((((σ.wi 0 96 (1 : Int32)).wi 0 80 (0 : Int32)).wi 0 84 (0 : Int32)).wi 0 85 (0 : Int32)).wi 0 86 (0 : Int32))) (pc' := 25) (by decide +kernel) rfl (c_pI (v := 0) (F.s s0_0) rfl) rfl rfl rfl ?_
  refine ab_fin.s2 (i := .aload_n 0) (k := 1) (pc' := 26) (lv' := [(0, .ref 0)]) (st' := [.ref 0]) (by decide +kernel) rfl rfl ?_
  refine ab_fin.s1i (i := .iconst 0) (k := 1) (pc' := 27) (n := 0) (by decide +kernel) rfl (by decide +kernel) rfl ?_
  refine ab_fin.q_pF (ix := 782) (ci := 24) (k := 87) (h1 := conc ((((((σ.wi 0 96 (1 : Int32)).wi 0 80 (0 : Int32)).wi 0 84 (0 : Int32)).wi 0 85 (0 : Int32)).wi 0 86 (0 : Int32)).wi 0 87 (0 : Int32))) (pc' := 30) (by decide +kernel) rfl (c_pI (v := 0) (F.s s0_0) rfl) rfl rfl rfl ?_
  refine ab_fin.s2 (i := .aload_n 0) (k := 1) (pc' := 31) (lv' := [(0, .ref 0)]) (st' := [.ref 0]) (by decide +kernel) rfl rfl ?_
  refine ab_fin.s1i (i := .iconst 0) (k := 1) (pc' := 32) (n := 0) (by decide +kernel) rfl (by decide +kernel) rfl ?_
  refine ab_fin.q_pF (ix := 787) (ci := 24) (k := 70) (h1 := conc (((((((σ.wi 0 96 (1 : Int32)).wi 0 80 (0 : Int32)).wi 0 84 (0 : Int32)).wi 0 85 (0 : Int32)).wi 0 86 (0 : Int32)).wi 0 87 (0 : Int32)).wi 0 70 (0 : Int32))) (pc' := 35) (by decide +kernel) rfl (c_pI (v := 0) (F.s s0_0) rfl) rfl rfl rfl ?_
  refine ab_fin.s2 (i := .aload_n 0) (k := 1) (pc' := 36) (lv' := [(0, .ref 0)]) (st' := [.ref 0]) (by decide +kernel) rfl rfl ?_
  refine ab_fin.s1l (i := .lconst 0) (k := 1) (pc' := 37) (n := 0) (by decide +kernel) rfl (by decide +kernel) rfl ?_
  refine ab_fin.q_pF (ix := 694) (ci := 24) (k := 68) (h1 := conc ((((((((σ.wi 0 96 (1 : Int32)).wi 0 80 (0 : Int32)).wi 0 84 (0 : Int32)).wi 0 85 (0 : Int32)).wi 0 86 (0 : Int32)).wi 0 87 (0 : Int32)).wi 0 70 (0 : Int32)).wl 0 68 (0 : Int64))) (pc' := 40) (by decide +kernel) rfl (c_pL (v := 0) (F.s s0_0) rfl) rfl rfl rfl ?_
  refine ab_fin.s2 (i := .aload_n 0) (k := 1) (pc' := 41) (lv' := [(0, .ref 0)]) (st' := [.ref 0]) (by decide +kernel) rfl rfl ?_
  refine ab_fin.s1i (i := .iconst (-1)) (k := 1) (pc' := 42) (n := (-1)) (by decide +kernel) rfl (by decide +kernel) rfl ?_
  refine ab_fin.s1i (i := .iconst 0) (k := 1) (pc' := 43) (n := 0) (by decide +kernel) rfl (by decide +kernel) rfl ?_
  refine ab_fin.q_yL (i := .invokestatic 745) (k := 3) (y := 5973) (As := [.int (-1), .int 0]) (rest := [.ref 0]) (M' := (mX23_value, [])) (lv2 := [(0, .int (-1)), (1, .int 0)]) (pc' := 46) (X := K) (by decide +kernel) (ab_cs rfl rfl ⟨(Nat.le_of_ble_eq_true rfl), (Nat.le_of_ble_eq_true rfl)⟩ rfl) rfl (Nat.le_of_ble_eq_true rfl) rfl rfl (hY_no fun E => rfl) w (fun v3 τ1 F2 w => ?_)
  refine ab_fin.q_pF (ix := 882) (ci := 24) (k := 97) (h1 := conc (τ1.wl 0 97 v3)) (pc' := 49) (by decide +kernel) rfl (c_pL (v := v3) (F2.s s0_0) rfl) rfl rfl rfl ?_
  refine ab_fin.s2 (i := .aload_n 0) (k := 1) (pc' := 50) (lv' := [(0, .ref 0)]) (st' := [.ref 0]) (by decide +kernel) rfl rfl ?_
  refine ab_fin.s2 (i := .aload_n 0) (k := 1) (pc' := 51) (lv' := [(0, .ref 0)]) (st' := [.ref 0, .ref 0]) (by decide +kernel) rfl rfl ?_
  refine ab_fin.s2 (i := .aload_n 0) (k := 1) (pc' := 52) (lv' := [(0, .ref 0)]) (st' := [.ref 0, .ref 0, .ref 0]) (by decide +kernel) rfl rfl ?_
  refine ab_fin.q_rV (v := rv (τ1.r 0 10)) (ix := 885) (ci := 24) (k := 10) (pc' := 55) (by decide +kernel) rfl (c_rV (F2.s s0_0) rfl) rfl ?_
  refine ab_fin.q_yL (i := .invokevirtual 775) (k := 3) (y := 6088) (As := [.ref 0, rv (τ1.r 0 10)]) (rest := [.ref 0]) (M' := (mX23_eval, [(193, 203, 211, 0), (211, 213, 211, 0), (242, 250, 251, 790)])) (lv2 := [(0, .ref 0), (1, rv (τ1.r 0 10))]) (pc' := 58) (X := (bS ΦR (hb_Gz Z.1 (some Z.2)) hb_GT d (mX23_runAll, [(49, 66, 69, 790), (49, 66, 86, 888)]) 55 [(0, .ref 0)] K)) (by decide +kernel) (ab_cv rfl rfl (conc_get (σ := (τ1.wl 0 97 v3)) (F2.s s0_0)) ⟨(Nat.le_of_ble_eq_true rfl), (Nat.le_of_ble_eq_true rfl)⟩ rfl) rfl (by rw [lg_cnt]; simp only [List.map_cons, List.map_nil, cI, cL, cR1, cN1, cX1, cA (oR_rv _)]; exact Nat.le_of_ble_eq_true rfl) (by rw [lvA (v := .ref 0) rfl, lvA (oR_rv _), lvN]) rfl hY_b w (fun v6 τ4 F5 w => ?_)
  refine ab_fin.q_pF (ix := 882) (ci := 24) (k := 97) (h1 := conc (τ4.wl 0 97 v6)) (pc' := 61) (by decide +kernel) rfl (c_pL (v := v6) (F5.s s0_0) rfl) rfl rfl rfl ?_
  refine ab_fin.s2 (i := .aload_n 0) (k := 1) (pc' := 62) (lv' := [(0, .ref 0)]) (st' := [.ref 0]) (by decide +kernel) rfl rfl ?_
  refine ab_fin.s1i (i := .iconst 0) (k := 1) (pc' := 63) (n := 0) (by decide +kernel) rfl (by decide +kernel) rfl ?_
  refine ab_fin.q_pF (ix := 755) (ci := 24) (k := 79) (h1 := conc ((τ4.wl 0 97 v6).wi 0 79 (0 : Int32))) (pc' := 66) (by decide +kernel) rfl (c_pI (v := 0) (F5.s s0_0) rfl) rfl rfl rfl ?_
  refine ab_fin.s3 (i := .goto 30) (k := 3) (t := 96) (st' := []) (by decide +kernel) (ab_gto (by decide +kernel)) ?_
  refine ab_fin.s2 (i := .aload_n 0) (k := 1) (pc' := 97) (lv' := [(0, .ref 0)]) (st' := [.ref 0]) (by decide +kernel) rfl rfl ?_
  refine ab_fin.q_rI (x := (0 : Int32)) (ix := 755) (ci := 24) (k := 79) (pc' := 100) (by decide +kernel) rfl (c_rI (F5.s s0_0) rfl) rfl ?_
  exact ab_fin.q_ret (i := .ireturn) (k := 1) (v := some (.int (0 : Int32))) (by decide +kernel) rfl F5 w
theorem S_X23_judge_0 {Z : zT} {d : Nat} {σ : Sg} {l1 : Int32} {K : kS} (F : FX ΦR σ.sh σ.r) (w : ib l1 24 ∧ (B_X23_judge_17 Z (d + 1) (σ.wi 0 98 (0 : Int32)) l1 (2409 + 3 * l1.toNatClampNeg) 0 0 K)) : B_X23_judge_0 Z (d + 1) σ l1 K := by
  unfold B_X23_judge_0
  refine ab_fin.s2 (i := .aload_n 0) (k := 1) (pc' := 1) (lv' := [(0, .ref 0), (1, .int l1)]) (st' := [.ref 0]) (by decide +kernel) rfl rfl ?_
  refine ab_fin.q_rA (b := 2) (ix := 34) (ci := 24) (k := 1) (pc' := 4) (by decide +kernel) rfl (c_rA (F.s s0_0) rfl (rM_1 F)) rfl ?_
  refine ab_fin.s2 (i := .iload_n 1) (k := 1) (pc' := 5) (lv' := [(0, .ref 0), (1, .int l1)]) (st' := [.int l1, .ref 2]) (by decide +kernel) rfl rfl ?_
  obtain ⟨e1, w⟩ := w
  refine ab_fin.q_eA (b := (2409 + 3 * l1.toNatClampNeg)) (pc' := 6) (by decide +kernel) (c_eA' (F.s s0_2) (by decide) rfl e1 rfl (rE_5 F s0_2)) rfl ?_
  refine ab_fin.s2 (i := .astore_n 2) (k := 1) (pc' := 7) (lv' := [(2, .ref (2409 + 3 * l1.toNatClampNeg)), (0, .ref 0), (1, .int l1)]) (st' := []) (by decide +kernel) rfl rfl ?_
  refine ab_fin.s1i (i := .iconst 0) (k := 1) (pc' := 8) (n := 0) (by decide +kernel) rfl (by decide +kernel) rfl ?_
  refine ab_fin.s2 (i := .istore_n 3) (k := 1) (pc' := 9) (lv' := [(3, .int 0), (2, .ref (2409 + 3 * l1.toNatClampNeg)), (0, .ref 0), (1, .int l1)]) (st' := []) (by decide +kernel) rfl rfl ?_
  refine ab_fin.s2 (i := .aload_n 0) (k := 1) (pc' := 10) (lv' := [(3, .int 0), (2, .ref (2409 + 3 * l1.toNatClampNeg)), (0, .ref 0), (1, .int l1)]) (st' := [.ref 0]) (by decide +kernel) rfl rfl ?_
  refine ab_fin.s1i (i := .iconst 0) (k := 1) (pc' := 11) (n := 0) (by decide +kernel) rfl (by decide +kernel) rfl ?_
  refine ab_fin.q_pF (ix := 890) (ci := 24) (k := 98) (h1 := conc (σ.wi 0 98 (0 : Int32))) (pc' := 14) (by decide +kernel) rfl (c_pI (v := 0) (F.s s0_0) rfl) rfl rfl rfl ?_
  refine ab_fin.s1i (i := .iconst 0) (k := 1) (pc' := 15) (n := 0) (by decide +kernel) rfl (by decide +kernel) rfl ?_
  refine ab_fin.s2 (i := .istore 4) (k := 2) (pc' := 17) (lv' := [(4, .int 0), (3, .int 0), (2, .ref (2409 + 3 * l1.toNatClampNeg)), (0, .ref 0), (1, .int l1)]) (st' := []) (by decide +kernel) rfl rfl ?_
  exact ab_fin.lv ⟨(List.forall_mem_cons.mpr ⟨(List.Mem.tail _ (List.Mem.tail _ (List.Mem.tail _ (List.Mem.head _)))), (List.forall_mem_cons.mpr ⟨(List.Mem.tail _ (List.Mem.tail _ (List.Mem.tail _ (List.Mem.tail _ (List.Mem.head _))))), (List.forall_mem_cons.mpr ⟨(List.Mem.tail _ (List.Mem.tail _ (List.Mem.head _))), (List.forall_mem_cons.mpr ⟨(List.Mem.tail _ (List.Mem.head _)), (List.forall_mem_cons.mpr ⟨(List.Mem.head _), (fun _ h => absurd h List.not_mem_nil)⟩)⟩)⟩)⟩)⟩), (show ([4, 3, 2, 0, 1] : List Nat).Nodup from by decide)⟩ w
theorem S_X23_judge_17 {Z : zT} {d : Nat} {σ : Sg} {l1 : Int32} {l2 : Nat} {l3 : Int32} {l4 : Int32} {K : kS} (F : FX ΦR σ.sh σ.r) (p_l2 : sh0R[l2]? = some (Sh.obj 14)) (w : (3 ≤ l4 → B_X23_cells_0 Z d (σ.wi 0 106 (-1 : Int32)) l1 0 (yI K fun v3 τ1 => B_X23_judge_56 Z (d + 1) τ1 l1 l2 l3 v3 0 0 K)) ∧ (¬ 3 ≤ l4 → ib l4 3 ∧ (B_X23_judge_17 Z (d + 1) (σ.wi 2184 l4.toNatClampNeg (-1 : Int32)) l1 l2 l3 (l4 + 1) K))) : B_X23_judge_17 Z (d + 1) σ l1 l2 l3 l4 K := by
  unfold B_X23_judge_17
  refine ab_fin.s2 (i := .iload 4) (k := 2) (pc' := 19) (lv' := [(0, .ref 0), (1, .int l1), (2, .ref l2), (3, .int l3), (4, .int l4)]) (st' := [.int l4]) (by decide +kernel) rfl rfl ?_
  refine ab_fin.s1i (i := .iconst 3) (k := 1) (pc' := 20) (n := 3) (by decide +kernel) rfl (by decide +kernel) rfl ?_
  refine ab_fin.br (c := 3 ≤ l4) (i := .if_icmp .ge 17) (off := 17) (t := 37) (pc' := 23) (r := []) (by decide +kernel) rfl (by decide +kernel) rfl (fun q => ?_) (fun q => ?_)
  · replace w := w.1 q
    refine ab_fin.s2 (i := .aload_n 0) (k := 1) (pc' := 38) (lv' := [(0, .ref 0), (1, .int l1), (2, .ref l2), (3, .int l3), (4, .int l4)]) (st' := [.ref 0]) (by decide +kernel) rfl rfl ?_
    refine ab_fin.s1i (i := .iconst (-1)) (k := 1) (pc' := 39) (n := (-1)) (by decide +kernel) rfl (by decide +kernel) rfl ?_
    refine ab_fin.q_pF (ix := 896) (ci := 24) (k := 106) (h1 := conc (σ.wi 0 106 (-1 : Int32))) (pc' := 42) (by decide +kernel) rfl (c_pI (v := (-1)) (F.s s0_0) rfl) rfl rfl rfl ?_
    refine ab_fin.s2 (i := .aload_n 0) (k := 1) (pc' := 43) (lv' := [(0, .ref 0), (1, .int l1), (2, .ref l2), (3, .int l3), (4, .int l4)]) (st' := [.ref 0]) (by decide +kernel) rfl rfl ?_
    refine ab_fin.s2 (i := .iload_n 1) (k := 1) (pc' := 44) (lv' := [(0, .ref 0), (1, .int l1), (2, .ref l2), (3, .int l3), (4, .int l4)]) (st' := [.int l1, .ref 0]) (by decide +kernel) rfl rfl ?_
    refine ab_fin.s1i (i := .iconst 0) (k := 1) (pc' := 45) (n := 0) (by decide +kernel) rfl (by decide +kernel) rfl ?_
    refine ab_fin.q_yI (i := .invokevirtual 899) (k := 3) (y := 5958) (As := [.ref 0, .int l1, .int 0]) (rest := []) (M' := (mX23_cells, [])) (lv2 := [(0, .ref 0), (1, .int l1), (2, .int 0)]) (pc' := 48) (X := K) (by decide +kernel) (ab_cv rfl rfl (conc_get (σ := (σ.wi 0 106 (-1 : Int32))) (F.s s0_0)) ⟨(Nat.le_of_ble_eq_true rfl), (Nat.le_of_ble_eq_true rfl)⟩ rfl) rfl (Nat.le_of_ble_eq_true rfl) rfl rfl (hY_no fun E => rfl) w (fun v3 τ1 F2 w => ?_)
    refine ab_fin.s2 (i := .istore 4) (k := 2) (pc' := 50) (lv' := [(4, .int v3), (0, .ref 0), (1, .int l1), (2, .ref l2), (3, .int l3)]) (st' := []) (by decide +kernel) rfl rfl ?_
    refine ab_fin.s1i (i := .iconst 0) (k := 1) (pc' := 51) (n := 0) (by decide +kernel) rfl (by decide +kernel) rfl ?_
    refine ab_fin.s2 (i := .istore 5) (k := 2) (pc' := 53) (lv' := [(5, .int 0), (4, .int v3), (0, .ref 0), (1, .int l1), (2, .ref l2), (3, .int l3)]) (st' := []) (by decide +kernel) rfl rfl ?_
    refine ab_fin.s1i (i := .iconst 0) (k := 1) (pc' := 54) (n := 0) (by decide +kernel) rfl (by decide +kernel) rfl ?_
    refine ab_fin.s2 (i := .istore 6) (k := 2) (pc' := 56) (lv' := [(6, .int 0), (5, .int 0), (4, .int v3), (0, .ref 0), (1, .int l1), (2, .ref l2), (3, .int l3)]) (st' := []) (by decide +kernel) rfl rfl ?_
    exact ab_fin.lv ⟨(List.forall_mem_cons.mpr ⟨(List.Mem.tail _ (List.Mem.tail _ (List.Mem.tail _ (List.Mem.head _)))), (List.forall_mem_cons.mpr ⟨(List.Mem.tail _ (List.Mem.tail _ (List.Mem.tail _ (List.Mem.tail _ (List.Mem.head _))))), (List.forall_mem_cons.mpr ⟨(List.Mem.tail _ (List.Mem.tail _ (List.Mem.tail _ (List.Mem.tail _ (List.Mem.tail _ (List.Mem.head _)))))), (List.forall_mem_cons.mpr ⟨(List.Mem.tail _ (List.Mem.tail _ (List.Mem.tail _ (List.Mem.tail _ (List.Mem.tail _ (List.Mem.tail _ (List.Mem.head _))))))), (List.forall_mem_cons.mpr ⟨(List.Mem.tail _ (List.Mem.tail _ (List.Mem.head _))), (List.forall_mem_cons.mpr ⟨(List.Mem.tail _ (List.Mem.head _)), (List.forall_mem_cons.mpr ⟨(List.Mem.head _), (fun _ h => absurd h List.not_mem_nil)⟩)⟩)⟩)⟩)⟩)⟩)⟩), (show ([6, 5, 4, 0, 1, 2, 3] : List Nat).Nodup from by decide)⟩ w
  · replace w := w.2 q
    refine ab_fin.s2 (i := .aload_n 0) (k := 1) (pc' := 24) (lv' := [(0, .ref 0), (1, .int l1), (2, .ref l2), (3, .int l3), (4, .int l4)]) (st' := [.ref 0]) (by decide +kernel) rfl rfl ?_
    refine ab_fin.q_rA (b := 2184) (ix := 893) (ci := 24) (k := 99) (pc' := 27) (by decide +kernel) rfl (c_rA (F.s s0_0) rfl (rM_99 F)) rfl ?_
    refine ab_fin.s2 (i := .iload 4) (k := 2) (pc' := 29) (lv' := [(0, .ref 0), (1, .int l1), (2, .ref l2), (3, .int l3), (4, .int l4)]) (st' := [.int l4, .ref 2184]) (by decide +kernel) rfl rfl ?_
    refine ab_fin.s1i (i := .iconst (-1)) (k := 1) (pc' := 30) (n := (-1)) (by decide +kernel) rfl (by decide +kernel) rfl ?_
    obtain ⟨e4, w⟩ := w
    refine ab_fin.q_sI (h1 := conc (σ.wi 2184 l4.toNatClampNeg (-1 : Int32))) (pc' := 31) (by decide +kernel) (c_sI' (F.s s0_2184) e4 rfl) rfl ?_
    refine ab_fin.q_inc (n := 4) (c := 1) (pc' := 34) (lv' := [(4, .int (l4 + 1)), (0, .ref 0), (1, .int l1), (2, .ref l2), (3, .int l3)]) (by decide +kernel) (by decide) rfl rfl rfl rfl ?_
    refine ab_fin.s3 (i := .goto (-17)) (k := 3) (t := 17) (st' := []) (by decide +kernel) (ab_gto (by decide +kernel)) ?_
    exact ab_fin.lv ⟨(List.forall_mem_cons.mpr ⟨(List.Mem.tail _ (List.Mem.head _)), (List.forall_mem_cons.mpr ⟨(List.Mem.tail _ (List.Mem.tail _ (List.Mem.head _))), (List.forall_mem_cons.mpr ⟨(List.Mem.tail _ (List.Mem.tail _ (List.Mem.tail _ (List.Mem.head _)))), (List.forall_mem_cons.mpr ⟨(List.Mem.tail _ (List.Mem.tail _ (List.Mem.tail _ (List.Mem.tail _ (List.Mem.head _))))), (List.forall_mem_cons.mpr ⟨(List.Mem.head _), (fun _ h => absurd h List.not_mem_nil)⟩)⟩)⟩)⟩)⟩), (show ([4, 0, 1, 2, 3] : List Nat).Nodup from by decide)⟩ w
theorem S_X23_judge_56 {Z : zT} {d : Nat} {σ : Sg} {l1 : Int32} {l2 : Nat} {l3 : Int32} {l4 : Int32} {l5 : Int32} {l6 : Int32} {K : kS} (F : FX ΦR σ.sh σ.r) (p_l2 : sh0R[l2]? = some (Sh.obj 14)) (w : (l4 ≤ l6 → (l3 = 0 → K (.inl none) σ) ∧ (¬ l3 = 0 → K (.inl none) (σ.wi 0 98 (-1 : Int32)))) ∧ (¬ l4 ≤ l6 → B_X23_judge_75 Z (d + 1) σ l1 l2 l3 l4 l5 l6 l6 ((σ.i l2 1) - (1 : Int32)) K)) : B_X23_judge_56 Z (d + 1) σ l1 l2 l3 l4 l5 l6 K := by
  unfold B_X23_judge_56
  refine ab_fin.s2 (i := .iload 6) (k := 2) (pc' := 58) (lv' := [(0, .ref 0), (1, .int l1), (2, .ref l2), (3, .int l3), (4, .int l4), (5, .int l5), (6, .int l6)]) (st' := [.int l6]) (by decide +kernel) rfl rfl ?_
  refine ab_fin.s2 (i := .iload 4) (k := 2) (pc' := 60) (lv' := [(0, .ref 0), (1, .int l1), (2, .ref l2), (3, .int l3), (4, .int l4), (5, .int l5), (6, .int l6)]) (st' := [.int l4, .int l6]) (by decide +kernel) rfl rfl ?_
  refine ab_fin.br (c := l4 ≤ l6) (i := .if_icmp .ge 170) (off := 170) (t := 230) (pc' := 63) (r := []) (by decide +kernel) rfl (by decide +kernel) rfl (fun q => ?_) (fun q => ?_)
  · replace w := w.1 q
    refine ab_fin.s2 (i := .iload_n 3) (k := 1) (pc' := 231) (lv' := [(0, .ref 0), (1, .int l1), (2, .ref l2), (3, .int l3), (4, .int l4), (5, .int l5), (6, .int l6)]) (st' := [.int l3]) (by decide +kernel) rfl rfl ?_
    refine ab_fin.br (c := l3 = 0) (i := .ifCond .eq 8) (off := 8) (t := 239) (pc' := 234) (r := []) (by decide +kernel) rfl (by decide +kernel) rfl (fun q => ?_) (fun q => ?_)
    · replace w := w.1 q
      exact ab_fin.q_ret (i := .return_) (k := 1) (v := none) (by decide +kernel) rfl F w
    · replace w := w.2 q
      refine ab_fin.s2 (i := .aload_n 0) (k := 1) (pc' := 235) (lv' := [(0, .ref 0), (1, .int l1), (2, .ref l2), (3, .int l3), (4, .int l4), (5, .int l5), (6, .int l6)]) (st' := [.ref 0]) (by decide +kernel) rfl rfl ?_
      refine ab_fin.s1i (i := .iconst (-1)) (k := 1) (pc' := 236) (n := (-1)) (by decide +kernel) rfl (by decide +kernel) rfl ?_
      refine ab_fin.q_pF (ix := 890) (ci := 24) (k := 98) (h1 := conc (σ.wi 0 98 (-1 : Int32))) (pc' := 239) (by decide +kernel) rfl (c_pI (v := (-1)) (F.s s0_0) rfl) rfl rfl rfl ?_
      exact ab_fin.q_ret (i := .return_) (k := 1) (v := none) (by decide +kernel) rfl F w
  · replace w := w.2 q
    refine ab_fin.s2 (i := .iload 6) (k := 2) (pc' := 65) (lv' := [(0, .ref 0), (1, .int l1), (2, .ref l2), (3, .int l3), (4, .int l4), (5, .int l5), (6, .int l6)]) (st' := [.int l6]) (by decide +kernel) rfl rfl ?_
    refine ab_fin.s2 (i := .istore 7) (k := 2) (pc' := 67) (lv' := [(7, .int l6), (0, .ref 0), (1, .int l1), (2, .ref l2), (3, .int l3), (4, .int l4), (5, .int l5), (6, .int l6)]) (st' := []) (by decide +kernel) rfl rfl ?_
    refine ab_fin.s2 (i := .aload_n 2) (k := 1) (pc' := 68) (lv' := [(7, .int l6), (0, .ref 0), (1, .int l1), (2, .ref l2), (3, .int l3), (4, .int l4), (5, .int l5), (6, .int l6)]) (st' := [.ref l2]) (by decide +kernel) rfl rfl ?_
    refine ab_fin.q_rI (x := (σ.i l2 1)) (ix := 303) (ci := 14) (k := 1) (pc' := 71) (by decide +kernel) rfl (c_rI (F.s p_l2) rfl) rfl ?_
    refine ab_fin.s1i (i := .iconst 1) (k := 1) (pc' := 72) (n := 1) (by decide +kernel) rfl (by decide +kernel) rfl ?_
    refine ab_fin.s1 (i := .isub) (k := 1) (pc' := 73) (st' := [.int ((σ.i l2 1) - (1 : Int32))]) (by decide +kernel) rfl rfl ?_
    refine ab_fin.s2 (i := .istore 8) (k := 2) (pc' := 75) (lv' := [(8, .int ((σ.i l2 1) - (1 : Int32))), (7, .int l6), (0, .ref 0), (1, .int l1), (2, .ref l2), (3, .int l3), (4, .int l4), (5, .int l5), (6, .int l6)]) (st' := []) (by decide +kernel) rfl rfl ?_
    exact ab_fin.lv ⟨(List.forall_mem_cons.mpr ⟨(List.Mem.tail _ (List.Mem.tail _ (List.Mem.head _))), (List.forall_mem_cons.mpr ⟨(List.Mem.tail _ (List.Mem.tail _ (List.Mem.tail _ (List.Mem.head _)))), (List.forall_mem_cons.mpr ⟨(List.Mem.tail _ (List.Mem.tail _ (List.Mem.tail _ (List.Mem.tail _ (List.Mem.head _))))), (List.forall_mem_cons.mpr ⟨(List.Mem.tail _ (List.Mem.tail _ (List.Mem.tail _ (List.Mem.tail _ (List.Mem.tail _ (List.Mem.head _)))))), (List.forall_mem_cons.mpr ⟨(List.Mem.tail _ (List.Mem.tail _ (List.Mem.tail _ (List.Mem.tail _ (List.Mem.tail _ (List.Mem.tail _ (List.Mem.head _))))))), (List.forall_mem_cons.mpr ⟨(List.Mem.tail _ (List.Mem.tail _ (List.Mem.tail _ (List.Mem.tail _ (List.Mem.tail _ (List.Mem.tail _ (List.Mem.tail _ (List.Mem.head _)))))))), (List.forall_mem_cons.mpr ⟨(List.Mem.tail _ (List.Mem.tail _ (List.Mem.tail _ (List.Mem.tail _ (List.Mem.tail _ (List.Mem.tail _ (List.Mem.tail _ (List.Mem.tail _ (List.Mem.head _))))))))), (List.forall_mem_cons.mpr ⟨(List.Mem.tail _ (List.Mem.head _)), (List.forall_mem_cons.mpr ⟨(List.Mem.head _), (fun _ h => absurd h List.not_mem_nil)⟩)⟩)⟩)⟩)⟩)⟩)⟩)⟩)⟩), (show ([8, 7, 0, 1, 2, 3, 4, 5, 6] : List Nat).Nodup from by decide)⟩ w
theorem S_X23_judge_75 {Z : zT} {d : Nat} {σ : Sg} {l1 : Int32} {l2 : Nat} {l3 : Int32} {l4 : Int32} {l5 : Int32} {l6 : Int32} {l7 : Int32} {l8 : Int32} {K : kS} (F : FX ΦR σ.sh σ.r) (p_l2 : sh0R[l2]? = some (Sh.obj 14)) (w : (l8 < 0 → B_X23_collect_0 Z d σ l1 (yN K fun τ1 => ((τ1.i 0 108) ≤ 0 → B_X23_judge_129 Z (d + 1) τ1 l1 l2 l3 l4 l5 l6 K) ∧ (¬ (τ1.i 0 108) ≤ 0 → B_X23_judge_129 Z (d + 1) τ1 l1 l2 l3 l4 (l5 + 1) l6 K))) ∧ (¬ l8 < 0 → ¬ (σ.i 0 41) = 0 ∧ (ib (irm l7 (σ.i 0 41)) 24 ∧ (ib l8 3 ∧ (¬ (σ.i 0 41) = 0 ∧ (B_X23_judge_75 Z (d + 1) (σ.wi 2185 l8.toNatClampNeg (σ.i 1932 ((irm l7 (σ.i 0 41)).toNatClampNeg))) l1 l2 l3 l4 l5 l6 (l7 / (σ.i 0 41)) (l8 + (-1)) K)))))) : B_X23_judge_75 Z (d + 1) σ l1 l2 l3 l4 l5 l6 l7 l8 K := by
  unfold B_X23_judge_75
  refine ab_fin.s2 (i := .iload 8) (k := 2) (pc' := 77) (lv' := [(0, .ref 0), (1, .int l1), (2, .ref l2), (3, .int l3), (4, .int l4), (5, .int l5), (6, .int l6), (7, .int l7), (8, .int l8)]) (st' := [.int l8]) (by decide +kernel) rfl rfl ?_
  refine ab_fin.br (c := l8 < 0) (i := .ifCond .lt 37) (off := 37) (t := 114) (pc' := 80) (r := []) (by decide +kernel) rfl (by decide +kernel) rfl (fun q => ?_) (fun q => ?_)
  · replace w := w.1 q
    refine ab_fin.s2 (i := .aload_n 0) (k := 1) (pc' := 115) (lv' := [(0, .ref 0), (1, .int l1), (2, .ref l2), (3, .int l3), (4, .int l4), (5, .int l5), (6, .int l6), (7, .int l7), (8, .int l8)]) (st' := [.ref 0]) (by decide +kernel) rfl rfl ?_
    refine ab_fin.s2 (i := .iload_n 1) (k := 1) (pc' := 116) (lv' := [(0, .ref 0), (1, .int l1), (2, .ref l2), (3, .int l3), (4, .int l4), (5, .int l5), (6, .int l6), (7, .int l7), (8, .int l8)]) (st' := [.int l1, .ref 0]) (by decide +kernel) rfl rfl ?_
    refine ab_fin.q_yN (i := .invokevirtual 906) (k := 3) (y := 5984) (As := [.ref 0, .int l1]) (rest := []) (M' := (mX23_collect, [])) (lv2 := [(0, .ref 0), (1, .int l1)]) (pc' := 119) (X := K) (by decide +kernel) (ab_cv rfl rfl (conc_get (σ := σ) (F.s s0_0)) ⟨(Nat.le_of_ble_eq_true rfl), (Nat.le_of_ble_eq_true rfl)⟩ rfl) rfl (Nat.le_of_ble_eq_true rfl) rfl rfl (hY_no fun E => rfl) w (fun τ1 F2 w => ?_)
    refine ab_fin.s2 (i := .aload_n 0) (k := 1) (pc' := 120) (lv' := [(0, .ref 0), (1, .int l1), (2, .ref l2), (3, .int l3), (4, .int l4), (5, .int l5), (6, .int l6), (7, .int l7), (8, .int l8)]) (st' := [.ref 0]) (by decide +kernel) rfl rfl ?_
    refine ab_fin.q_rI (x := (τ1.i 0 108)) (ix := 909) (ci := 24) (k := 108) (pc' := 123) (by decide +kernel) rfl (c_rI (F2.s s0_0) rfl) rfl ?_
    refine ab_fin.br (c := (τ1.i 0 108) ≤ 0) (i := .ifCond .le 6) (off := 6) (t := 129) (pc' := 126) (r := []) (by decide +kernel) rfl (by decide +kernel) rfl (fun q => ?_) (fun q => ?_)
    · replace w := w.1 q
      exact ab_fin.lv ⟨(List.forall_mem_cons.mpr ⟨(List.Mem.head _), (List.forall_mem_cons.mpr ⟨(List.Mem.tail _ (List.Mem.head _)), (List.forall_mem_cons.mpr ⟨(List.Mem.tail _ (List.Mem.tail _ (List.Mem.head _))), (List.forall_mem_cons.mpr ⟨(List.Mem.tail _ (List.Mem.tail _ (List.Mem.tail _ (List.Mem.head _)))), (List.forall_mem_cons.mpr ⟨(List.Mem.tail _ (List.Mem.tail _ (List.Mem.tail _ (List.Mem.tail _ (List.Mem.head _))))), (List.forall_mem_cons.mpr ⟨(List.Mem.tail _ (List.Mem.tail _ (List.Mem.tail _ (List.Mem.tail _ (List.Mem.tail _ (List.Mem.head _)))))), (List.forall_mem_cons.mpr ⟨(List.Mem.tail _ (List.Mem.tail _ (List.Mem.tail _ (List.Mem.tail _ (List.Mem.tail _ (List.Mem.tail _ (List.Mem.head _))))))), (fun _ h => absurd h List.not_mem_nil)⟩)⟩)⟩)⟩)⟩)⟩)⟩), (show ([0, 1, 2, 3, 4, 5, 6, 7, 8] : List Nat).Nodup from by decide)⟩ w
    · replace w := w.2 q
      refine ab_fin.q_inc (n := 5) (c := 1) (pc' := 129) (lv' := [(5, .int (l5 + 1)), (0, .ref 0), (1, .int l1), (2, .ref l2), (3, .int l3), (4, .int l4), (6, .int l6), (7, .int l7), (8, .int l8)]) (by decide +kernel) (by decide) rfl rfl rfl rfl ?_
      exact ab_fin.lv ⟨(List.forall_mem_cons.mpr ⟨(List.Mem.tail _ (List.Mem.head _)), (List.forall_mem_cons.mpr ⟨(List.Mem.tail _ (List.Mem.tail _ (List.Mem.head _))), (List.forall_mem_cons.mpr ⟨(List.Mem.tail _ (List.Mem.tail _ (List.Mem.tail _ (List.Mem.head _)))), (List.forall_mem_cons.mpr ⟨(List.Mem.tail _ (List.Mem.tail _ (List.Mem.tail _ (List.Mem.tail _ (List.Mem.head _))))), (List.forall_mem_cons.mpr ⟨(List.Mem.tail _ (List.Mem.tail _ (List.Mem.tail _ (List.Mem.tail _ (List.Mem.tail _ (List.Mem.head _)))))), (List.forall_mem_cons.mpr ⟨(List.Mem.head _), (List.forall_mem_cons.mpr ⟨(List.Mem.tail _ (List.Mem.tail _ (List.Mem.tail _ (List.Mem.tail _ (List.Mem.tail _ (List.Mem.tail _ (List.Mem.head _))))))), (fun _ h => absurd h List.not_mem_nil)⟩)⟩)⟩)⟩)⟩)⟩)⟩), (show ([5, 0, 1, 2, 3, 4, 6, 7, 8] : List Nat).Nodup from by decide)⟩ w
  · replace w := w.2 q
    refine ab_fin.s2 (i := .aload_n 0) (k := 1) (pc' := 81) (lv' := [(0, .ref 0), (1, .int l1), (2, .ref l2), (3, .int l3), (4, .int l4), (5, .int l5), (6, .int l6), (7, .int l7), (8, .int l8)]) (st' := [.ref 0]) (by decide +kernel) rfl rfl ?_
    refine ab_fin.q_rA (b := 2185) (ix := 903) (ci := 24) (k := 100) (pc' := 84) (by decide +kernel) rfl (c_rA (F.s s0_0) rfl (rM_100 F)) rfl ?_
    refine ab_fin.s2 (i := .iload 8) (k := 2) (pc' := 86) (lv' := [(0, .ref 0), (1, .int l1), (2, .ref l2), (3, .int l3), (4, .int l4), (5, .int l5), (6, .int l6), (7, .int l7), (8, .int l8)]) (st' := [.int l8, .ref 2185]) (by decide +kernel) rfl rfl ?_
    refine ab_fin.s2 (i := .aload_n 0) (k := 1) (pc' := 87) (lv' := [(0, .ref 0), (1, .int l1), (2, .ref l2), (3, .int l3), (4, .int l4), (5, .int l5), (6, .int l6), (7, .int l7), (8, .int l8)]) (st' := [.ref 0, .int l8, .ref 2185]) (by decide +kernel) rfl rfl ?_
    refine ab_fin.q_rA (b := 1932) (ix := 497) (ci := 24) (k := 40) (pc' := 90) (by decide +kernel) rfl (c_rA (F.s s0_0) rfl (rM_40 F)) rfl ?_
    refine ab_fin.s2 (i := .iload 7) (k := 2) (pc' := 92) (lv' := [(0, .ref 0), (1, .int l1), (2, .ref l2), (3, .int l3), (4, .int l4), (5, .int l5), (6, .int l6), (7, .int l7), (8, .int l8)]) (st' := [.int l7, .ref 1932, .int l8, .ref 2185]) (by decide +kernel) rfl rfl ?_
    refine ab_fin.s2 (i := .aload_n 0) (k := 1) (pc' := 93) (lv' := [(0, .ref 0), (1, .int l1), (2, .ref l2), (3, .int l3), (4, .int l4), (5, .int l5), (6, .int l6), (7, .int l7), (8, .int l8)]) (st' := [.ref 0, .int l7, .ref 1932, .int l8, .ref 2185]) (by decide +kernel) rfl rfl ?_
    refine ab_fin.q_rI (x := (σ.i 0 41)) (ix := 487) (ci := 24) (k := 41) (pc' := 96) (by decide +kernel) rfl (c_rI (F.s s0_0) rfl) rfl ?_
    obtain ⟨c3, w⟩ := w
    refine ab_fin.q_rem (pc' := 97) (by decide +kernel) c3 rfl ?_
    obtain ⟨e4, w⟩ := w
    refine ab_fin.q_eI (x := (σ.i 1932 ((irm l7 (σ.i 0 41)).toNatClampNeg))) (pc' := 98) (by decide +kernel) (c_eI' (F.s s0_1932) e4 rfl) rfl ?_
    obtain ⟨e5, w⟩ := w
    refine ab_fin.q_sI (h1 := conc (σ.wi 2185 l8.toNatClampNeg (σ.i 1932 ((irm l7 (σ.i 0 41)).toNatClampNeg)))) (pc' := 99) (by decide +kernel) (c_sI' (F.s s0_2185) e5 rfl) rfl ?_
    refine ab_fin.s2 (i := .iload 7) (k := 2) (pc' := 101) (lv' := [(0, .ref 0), (1, .int l1), (2, .ref l2), (3, .int l3), (4, .int l4), (5, .int l5), (6, .int l6), (7, .int l7), (8, .int l8)]) (st' := [.int l7]) (by decide +kernel) rfl rfl ?_
    refine ab_fin.s2 (i := .aload_n 0) (k := 1) (pc' := 102) (lv' := [(0, .ref 0), (1, .int l1), (2, .ref l2), (3, .int l3), (4, .int l4), (5, .int l5), (6, .int l6), (7, .int l7), (8, .int l8)]) (st' := [.ref 0, .int l7]) (by decide +kernel) rfl rfl ?_
    refine ab_fin.q_rI (x := (σ.i 0 41)) (ix := 487) (ci := 24) (k := 41) (pc' := 105) (by decide +kernel) rfl (c_rI (F.s s0_0) rfl) rfl ?_
    obtain ⟨c6, w⟩ := w
    refine ab_fin.q_div (pc' := 106) (by decide +kernel) c6 rfl ?_
    refine ab_fin.s2 (i := .istore 7) (k := 2) (pc' := 108) (lv' := [(7, .int (l7 / (σ.i 0 41))), (0, .ref 0), (1, .int l1), (2, .ref l2), (3, .int l3), (4, .int l4), (5, .int l5), (6, .int l6), (8, .int l8)]) (st' := []) (by decide +kernel) rfl rfl ?_
    refine ab_fin.q_inc (n := 8) (c := (-1)) (pc' := 111) (lv' := [(8, .int (l8 + (-1))), (7, .int (l7 / (σ.i 0 41))), (0, .ref 0), (1, .int l1), (2, .ref l2), (3, .int l3), (4, .int l4), (5, .int l5), (6, .int l6)]) (by decide +kernel) (by decide) rfl rfl rfl rfl ?_
    refine ab_fin.s3 (i := .goto (-36)) (k := 3) (t := 75) (st' := []) (by decide +kernel) (ab_gto (by decide +kernel)) ?_
    exact ab_fin.lv ⟨(List.forall_mem_cons.mpr ⟨(List.Mem.tail _ (List.Mem.tail _ (List.Mem.head _))), (List.forall_mem_cons.mpr ⟨(List.Mem.tail _ (List.Mem.tail _ (List.Mem.tail _ (List.Mem.head _)))), (List.forall_mem_cons.mpr ⟨(List.Mem.tail _ (List.Mem.tail _ (List.Mem.tail _ (List.Mem.tail _ (List.Mem.head _))))), (List.forall_mem_cons.mpr ⟨(List.Mem.tail _ (List.Mem.tail _ (List.Mem.tail _ (List.Mem.tail _ (List.Mem.tail _ (List.Mem.head _)))))), (List.forall_mem_cons.mpr ⟨(List.Mem.tail _ (List.Mem.tail _ (List.Mem.tail _ (List.Mem.tail _ (List.Mem.tail _ (List.Mem.tail _ (List.Mem.head _))))))), (List.forall_mem_cons.mpr ⟨(List.Mem.tail _ (List.Mem.tail _ (List.Mem.tail _ (List.Mem.tail _ (List.Mem.tail _ (List.Mem.tail _ (List.Mem.tail _ (List.Mem.head _)))))))), (List.forall_mem_cons.mpr ⟨(List.Mem.tail _ (List.Mem.tail _ (List.Mem.tail _ (List.Mem.tail _ (List.Mem.tail _ (List.Mem.tail _ (List.Mem.tail _ (List.Mem.tail _ (List.Mem.head _))))))))), (List.forall_mem_cons.mpr ⟨(List.Mem.tail _ (List.Mem.head _)), (List.forall_mem_cons.mpr ⟨(List.Mem.head _), (fun _ h => absurd h List.not_mem_nil)⟩)⟩)⟩)⟩)⟩)⟩)⟩)⟩)⟩), (show ([8, 7, 0, 1, 2, 3, 4, 5, 6] : List Nat).Nodup from by decide)⟩ w
theorem S_X23_judge_129 {Z : zT} {d : Nat} {σ : Sg} {l1 : Int32} {l2 : Nat} {l3 : Int32} {l4 : Int32} {l5 : Int32} {l6 : Int32} {K : kS} (F : FX ΦR σ.sh σ.r) (p_l2 : sh0R[l2]? = some (Sh.obj 14)) (w : (8 < (σ.i 0 108) → B_X23_judge_56 Z (d + 1) σ l1 l2 1 l4 l5 (l6 + 1) K) ∧ (¬ 8 < (σ.i 0 108) → ((σ.i 0 108) ≤ 0 → B_X23_judge_158 Z (d + 1) σ l1 l2 l3 l4 l5 l6 K) ∧ (¬ (σ.i 0 108) ≤ 0 → (l5 ≤ 200 → B_X23_judge_158 Z (d + 1) σ l1 l2 l3 l4 l5 l6 K) ∧ (¬ l5 ≤ 200 → B_X23_judge_56 Z (d + 1) σ l1 l2 1 l4 l5 (l6 + 1) K)))) : B_X23_judge_129 Z (d + 1) σ l1 l2 l3 l4 l5 l6 K := by
  unfold B_X23_judge_129
  refine ab_fin.s2 (i := .aload_n 0) (k := 1) (pc' := 130) (lv' := [(0, .ref 0), (1, .int l1), (2, .ref l2), (3, .int l3), (4, .int l4), (5, .int l5), (6, .int l6)]) (st' := [.ref 0]) (by decide +kernel) rfl rfl ?_
  refine ab_fin.q_rI (x := (σ.i 0 108)) (ix := 909) (ci := 24) (k := 108) (pc' := 133) (by decide +kernel) rfl (c_rI (F.s s0_0) rfl) rfl ?_
  refine ab_fin.s1i (i := .bipush 8) (k := 2) (pc' := 135) (n := 8) (by decide +kernel) rfl (by decide +kernel) rfl ?_
  refine ab_fin.br (c := 8 < (σ.i 0 108)) (i := .if_icmp .gt 18) (off := 18) (t := 153) (pc' := 138) (r := []) (by decide +kernel) rfl (by decide +kernel) rfl (fun q => ?_) (fun q => ?_)
  · replace w := w.1 q
    refine ab_fin.s1i (i := .iconst 1) (k := 1) (pc' := 154) (n := 1) (by decide +kernel) rfl (by decide +kernel) rfl ?_
    refine ab_fin.s2 (i := .istore_n 3) (k := 1) (pc' := 155) (lv' := [(3, .int 1), (0, .ref 0), (1, .int l1), (2, .ref l2), (4, .int l4), (5, .int l5), (6, .int l6)]) (st' := []) (by decide +kernel) rfl rfl ?_
    refine ab_fin.s3 (i := .goto 69) (k := 3) (t := 224) (st' := []) (by decide +kernel) (ab_gto (by decide +kernel)) ?_
    refine ab_fin.q_inc (n := 6) (c := 1) (pc' := 227) (lv' := [(6, .int (l6 + 1)), (3, .int 1), (0, .ref 0), (1, .int l1), (2, .ref l2), (4, .int l4), (5, .int l5)]) (by decide +kernel) (by decide) rfl rfl rfl rfl ?_
    refine ab_fin.s3 (i := .goto (-171)) (k := 3) (t := 56) (st' := []) (by decide +kernel) (ab_gto (by decide +kernel)) ?_
    exact ab_fin.lv ⟨(List.forall_mem_cons.mpr ⟨(List.Mem.tail _ (List.Mem.tail _ (List.Mem.head _))), (List.forall_mem_cons.mpr ⟨(List.Mem.tail _ (List.Mem.tail _ (List.Mem.tail _ (List.Mem.head _)))), (List.forall_mem_cons.mpr ⟨(List.Mem.tail _ (List.Mem.tail _ (List.Mem.tail _ (List.Mem.tail _ (List.Mem.head _))))), (List.forall_mem_cons.mpr ⟨(List.Mem.tail _ (List.Mem.head _)), (List.forall_mem_cons.mpr ⟨(List.Mem.tail _ (List.Mem.tail _ (List.Mem.tail _ (List.Mem.tail _ (List.Mem.tail _ (List.Mem.head _)))))), (List.forall_mem_cons.mpr ⟨(List.Mem.tail _ (List.Mem.tail _ (List.Mem.tail _ (List.Mem.tail _ (List.Mem.tail _ (List.Mem.tail _ (List.Mem.head _))))))), (List.forall_mem_cons.mpr ⟨(List.Mem.head _), (fun _ h => absurd h List.not_mem_nil)⟩)⟩)⟩)⟩)⟩)⟩)⟩), (show ([6, 3, 0, 1, 2, 4, 5] : List Nat).Nodup from by decide)⟩ w
  · replace w := w.2 q
    refine ab_fin.s2 (i := .aload_n 0) (k := 1) (pc' := 139) (lv' := [(0, .ref 0), (1, .int l1), (2, .ref l2), (3, .int l3), (4, .int l4), (5, .int l5), (6, .int l6)]) (st' := [.ref 0]) (by decide +kernel) rfl rfl ?_
    refine ab_fin.q_rI (x := (σ.i 0 108)) (ix := 909) (ci := 24) (k := 108) (pc' := 142) (by decide +kernel) rfl (c_rI (F.s s0_0) rfl) rfl ?_
    refine ab_fin.br (c := (σ.i 0 108) ≤ 0) (i := .ifCond .le 16) (off := 16) (t := 158) (pc' := 145) (r := []) (by decide +kernel) rfl (by decide +kernel) rfl (fun q => ?_) (fun q => ?_)
    · replace w := w.1 q
      exact ab_fin.lv ⟨(List.forall_mem_cons.mpr ⟨(List.Mem.head _), (List.forall_mem_cons.mpr ⟨(List.Mem.tail _ (List.Mem.head _)), (List.forall_mem_cons.mpr ⟨(List.Mem.tail _ (List.Mem.tail _ (List.Mem.head _))), (List.forall_mem_cons.mpr ⟨(List.Mem.tail _ (List.Mem.tail _ (List.Mem.tail _ (List.Mem.head _)))), (List.forall_mem_cons.mpr ⟨(List.Mem.tail _ (List.Mem.tail _ (List.Mem.tail _ (List.Mem.tail _ (List.Mem.head _))))), (List.forall_mem_cons.mpr ⟨(List.Mem.tail _ (List.Mem.tail _ (List.Mem.tail _ (List.Mem.tail _ (List.Mem.tail _ (List.Mem.head _)))))), (List.forall_mem_cons.mpr ⟨(List.Mem.tail _ (List.Mem.tail _ (List.Mem.tail _ (List.Mem.tail _ (List.Mem.tail _ (List.Mem.tail _ (List.Mem.head _))))))), (fun _ h => absurd h List.not_mem_nil)⟩)⟩)⟩)⟩)⟩)⟩)⟩), (show ([0, 1, 2, 3, 4, 5, 6] : List Nat).Nodup from by decide)⟩ w
    · replace w := w.2 q
      refine ab_fin.s2 (i := .iload 5) (k := 2) (pc' := 147) (lv' := [(0, .ref 0), (1, .int l1), (2, .ref l2), (3, .int l3), (4, .int l4), (5, .int l5), (6, .int l6)]) (st' := [.int l5]) (by decide +kernel) rfl rfl ?_
      refine ab_fin.s1i (i := .sipush 200) (k := 3) (pc' := 150) (n := 200) (by decide +kernel) rfl (by decide +kernel) rfl ?_
      refine ab_fin.br (c := l5 ≤ 200) (i := .if_icmp .le 8) (off := 8) (t := 158) (pc' := 153) (r := []) (by decide +kernel) rfl (by decide +kernel) rfl (fun q => ?_) (fun q => ?_)
      · replace w := w.1 q
        exact ab_fin.lv ⟨(List.forall_mem_cons.mpr ⟨(List.Mem.head _), (List.forall_mem_cons.mpr ⟨(List.Mem.tail _ (List.Mem.head _)), (List.forall_mem_cons.mpr ⟨(List.Mem.tail _ (List.Mem.tail _ (List.Mem.head _))), (List.forall_mem_cons.mpr ⟨(List.Mem.tail _ (List.Mem.tail _ (List.Mem.tail _ (List.Mem.head _)))), (List.forall_mem_cons.mpr ⟨(List.Mem.tail _ (List.Mem.tail _ (List.Mem.tail _ (List.Mem.tail _ (List.Mem.head _))))), (List.forall_mem_cons.mpr ⟨(List.Mem.tail _ (List.Mem.tail _ (List.Mem.tail _ (List.Mem.tail _ (List.Mem.tail _ (List.Mem.head _)))))), (List.forall_mem_cons.mpr ⟨(List.Mem.tail _ (List.Mem.tail _ (List.Mem.tail _ (List.Mem.tail _ (List.Mem.tail _ (List.Mem.tail _ (List.Mem.head _))))))), (fun _ h => absurd h List.not_mem_nil)⟩)⟩)⟩)⟩)⟩)⟩)⟩), (show ([0, 1, 2, 3, 4, 5, 6] : List Nat).Nodup from by decide)⟩ w
      · replace w := w.2 q
        refine ab_fin.s1i (i := .iconst 1) (k := 1) (pc' := 154) (n := 1) (by decide +kernel) rfl (by decide +kernel) rfl ?_
        refine ab_fin.s2 (i := .istore_n 3) (k := 1) (pc' := 155) (lv' := [(3, .int 1), (0, .ref 0), (1, .int l1), (2, .ref l2), (4, .int l4), (5, .int l5), (6, .int l6)]) (st' := []) (by decide +kernel) rfl rfl ?_
        refine ab_fin.s3 (i := .goto 69) (k := 3) (t := 224) (st' := []) (by decide +kernel) (ab_gto (by decide +kernel)) ?_
        refine ab_fin.q_inc (n := 6) (c := 1) (pc' := 227) (lv' := [(6, .int (l6 + 1)), (3, .int 1), (0, .ref 0), (1, .int l1), (2, .ref l2), (4, .int l4), (5, .int l5)]) (by decide +kernel) (by decide) rfl rfl rfl rfl ?_
        refine ab_fin.s3 (i := .goto (-171)) (k := 3) (t := 56) (st' := []) (by decide +kernel) (ab_gto (by decide +kernel)) ?_
        exact ab_fin.lv ⟨(List.forall_mem_cons.mpr ⟨(List.Mem.tail _ (List.Mem.tail _ (List.Mem.head _))), (List.forall_mem_cons.mpr ⟨(List.Mem.tail _ (List.Mem.tail _ (List.Mem.tail _ (List.Mem.head _)))), (List.forall_mem_cons.mpr ⟨(List.Mem.tail _ (List.Mem.tail _ (List.Mem.tail _ (List.Mem.tail _ (List.Mem.head _))))), (List.forall_mem_cons.mpr ⟨(List.Mem.tail _ (List.Mem.head _)), (List.forall_mem_cons.mpr ⟨(List.Mem.tail _ (List.Mem.tail _ (List.Mem.tail _ (List.Mem.tail _ (List.Mem.tail _ (List.Mem.head _)))))), (List.forall_mem_cons.mpr ⟨(List.Mem.tail _ (List.Mem.tail _ (List.Mem.tail _ (List.Mem.tail _ (List.Mem.tail _ (List.Mem.tail _ (List.Mem.head _))))))), (List.forall_mem_cons.mpr ⟨(List.Mem.head _), (fun _ h => absurd h List.not_mem_nil)⟩)⟩)⟩)⟩)⟩)⟩)⟩), (show ([6, 3, 0, 1, 2, 4, 5] : List Nat).Nodup from by decide)⟩ w
theorem S_X23_judge_158 {Z : zT} {d : Nat} {σ : Sg} {l1 : Int32} {l2 : Nat} {l3 : Int32} {l4 : Int32} {l5 : Int32} {l6 : Int32} {K : kS} (F : FX ΦR σ.sh σ.r) (p_l2 : sh0R[l2]? = some (Sh.obj 14)) (w : B_X23_bad_0 Z d σ l2 (yI K fun v3 τ1 => (¬ v3 = 0 → (l3 = 0 → B_X23_judge_190 Z (d + 1) (τ1.wi 0 98 v3) l2 l3 0 K) ∧ (¬ l3 = 0 → B_X23_judge_190 Z (d + 1) (τ1.wi 0 98 (-1 : Int32)) l2 l3 0 K)) ∧ (v3 = 0 → B_X23_judge_56 Z (d + 1) τ1 l1 l2 l3 l4 l5 (l6 + 1) K))) : B_X23_judge_158 Z (d + 1) σ l1 l2 l3 l4 l5 l6 K := by
  unfold B_X23_judge_158
  refine ab_fin.s2 (i := .aload_n 0) (k := 1) (pc' := 159) (lv' := [(0, .ref 0), (1, .int l1), (2, .ref l2), (3, .int l3), (4, .int l4), (5, .int l5), (6, .int l6)]) (st' := [.ref 0]) (by decide +kernel) rfl rfl ?_
  refine ab_fin.s2 (i := .aload_n 2) (k := 1) (pc' := 160) (lv' := [(0, .ref 0), (1, .int l1), (2, .ref l2), (3, .int l3), (4, .int l4), (5, .int l5), (6, .int l6)]) (st' := [.ref l2, .ref 0]) (by decide +kernel) rfl rfl ?_
  refine ab_fin.q_yI (i := .invokevirtual 912) (k := 3) (y := 5985) (As := [.ref 0, .ref l2]) (rest := []) (M' := (mX23_bad, [])) (lv2 := [(0, .ref 0), (1, .ref l2)]) (pc' := 163) (X := K) (by decide +kernel) (ab_cv rfl rfl (conc_get (σ := σ) (F.s s0_0)) ⟨(Nat.le_of_ble_eq_true rfl), (Nat.le_of_ble_eq_true rfl)⟩ rfl) rfl (Nat.le_of_ble_eq_true rfl) rfl rfl (hY_no fun E => rfl) w (fun v3 τ1 F2 w => ?_)
  refine ab_fin.s2 (i := .istore 8) (k := 2) (pc' := 165) (lv' := [(8, .int v3), (0, .ref 0), (1, .int l1), (2, .ref l2), (3, .int l3), (4, .int l4), (5, .int l5), (6, .int l6)]) (st' := []) (by decide +kernel) rfl rfl ?_
  refine ab_fin.s2 (i := .iload 8) (k := 2) (pc' := 167) (lv' := [(8, .int v3), (0, .ref 0), (1, .int l1), (2, .ref l2), (3, .int l3), (4, .int l4), (5, .int l5), (6, .int l6)]) (st' := [.int v3]) (by decide +kernel) rfl rfl ?_
  refine ab_fin.br (c := ¬ v3 = 0) (i := .ifCond .ne 6) (off := 6) (t := 173) (pc' := 170) (r := []) (by decide +kernel) rfl (by decide +kernel) rfl (fun q => ?_) (fun q => ?_)
  · replace w := w.1 q
    refine ab_fin.s2 (i := .aload_n 0) (k := 1) (pc' := 174) (lv' := [(8, .int v3), (0, .ref 0), (1, .int l1), (2, .ref l2), (3, .int l3), (4, .int l4), (5, .int l5), (6, .int l6)]) (st' := [.ref 0]) (by decide +kernel) rfl rfl ?_
    refine ab_fin.s2 (i := .iload_n 3) (k := 1) (pc' := 175) (lv' := [(8, .int v3), (0, .ref 0), (1, .int l1), (2, .ref l2), (3, .int l3), (4, .int l4), (5, .int l5), (6, .int l6)]) (st' := [.int l3, .ref 0]) (by decide +kernel) rfl rfl ?_
    refine ab_fin.br (c := l3 = 0) (i := .ifCond .eq 7) (off := 7) (t := 182) (pc' := 178) (r := [.ref 0]) (by decide +kernel) rfl (by decide +kernel) rfl (fun q => ?_) (fun q => ?_)
    · replace w := w.1 q
      refine ab_fin.s2 (i := .iload 8) (k := 2) (pc' := 184) (lv' := [(8, .int v3), (0, .ref 0), (1, .int l1), (2, .ref l2), (3, .int l3), (4, .int l4), (5, .int l5), (6, .int l6)]) (st' := [.int v3, .ref 0]) (by decide +kernel) rfl rfl ?_
      refine ab_fin.q_pF (ix := 890) (ci := 24) (k := 98) (h1 := conc (τ1.wi 0 98 v3)) (pc' := 187) (by decide +kernel) rfl (c_pI (v := v3) (F2.s s0_0) rfl) rfl rfl rfl ?_
      refine ab_fin.s1i (i := .iconst 0) (k := 1) (pc' := 188) (n := 0) (by decide +kernel) rfl (by decide +kernel) rfl ?_
      refine ab_fin.s2 (i := .istore 9) (k := 2) (pc' := 190) (lv' := [(9, .int 0), (8, .int v3), (0, .ref 0), (1, .int l1), (2, .ref l2), (3, .int l3), (4, .int l4), (5, .int l5), (6, .int l6)]) (st' := []) (by decide +kernel) rfl rfl ?_
      exact ab_fin.lv ⟨(List.forall_mem_cons.mpr ⟨(List.Mem.tail _ (List.Mem.tail _ (List.Mem.head _))), (List.forall_mem_cons.mpr ⟨(List.Mem.tail _ (List.Mem.tail _ (List.Mem.tail _ (List.Mem.tail _ (List.Mem.head _))))), (List.forall_mem_cons.mpr ⟨(List.Mem.tail _ (List.Mem.tail _ (List.Mem.tail _ (List.Mem.tail _ (List.Mem.tail _ (List.Mem.head _)))))), (List.forall_mem_cons.mpr ⟨(List.Mem.head _), (fun _ h => absurd h List.not_mem_nil)⟩)⟩)⟩)⟩), (show ([9, 8, 0, 1, 2, 3, 4, 5, 6] : List Nat).Nodup from by decide)⟩ w
    · replace w := w.2 q
      refine ab_fin.s1i (i := .iconst (-1)) (k := 1) (pc' := 179) (n := (-1)) (by decide +kernel) rfl (by decide +kernel) rfl ?_
      refine ab_fin.s3 (i := .goto 5) (k := 3) (t := 184) (st' := [.int (-1), .ref 0]) (by decide +kernel) (ab_gto (by decide +kernel)) ?_
      refine ab_fin.q_pF (ix := 890) (ci := 24) (k := 98) (h1 := conc (τ1.wi 0 98 (-1 : Int32))) (pc' := 187) (by decide +kernel) rfl (c_pI (v := (-1)) (F2.s s0_0) rfl) rfl rfl rfl ?_
      refine ab_fin.s1i (i := .iconst 0) (k := 1) (pc' := 188) (n := 0) (by decide +kernel) rfl (by decide +kernel) rfl ?_
      refine ab_fin.s2 (i := .istore 9) (k := 2) (pc' := 190) (lv' := [(9, .int 0), (8, .int v3), (0, .ref 0), (1, .int l1), (2, .ref l2), (3, .int l3), (4, .int l4), (5, .int l5), (6, .int l6)]) (st' := []) (by decide +kernel) rfl rfl ?_
      exact ab_fin.lv ⟨(List.forall_mem_cons.mpr ⟨(List.Mem.tail _ (List.Mem.tail _ (List.Mem.head _))), (List.forall_mem_cons.mpr ⟨(List.Mem.tail _ (List.Mem.tail _ (List.Mem.tail _ (List.Mem.tail _ (List.Mem.head _))))), (List.forall_mem_cons.mpr ⟨(List.Mem.tail _ (List.Mem.tail _ (List.Mem.tail _ (List.Mem.tail _ (List.Mem.tail _ (List.Mem.head _)))))), (List.forall_mem_cons.mpr ⟨(List.Mem.head _), (fun _ h => absurd h List.not_mem_nil)⟩)⟩)⟩)⟩), (show ([9, 8, 0, 1, 2, 3, 4, 5, 6] : List Nat).Nodup from by decide)⟩ w
  · replace w := w.2 (Decidable.of_not_not q)
    refine ab_fin.s3 (i := .goto 54) (k := 3) (t := 224) (st' := []) (by decide +kernel) (ab_gto (by decide +kernel)) ?_
    refine ab_fin.q_inc (n := 6) (c := 1) (pc' := 227) (lv' := [(6, .int (l6 + 1)), (8, .int v3), (0, .ref 0), (1, .int l1), (2, .ref l2), (3, .int l3), (4, .int l4), (5, .int l5)]) (by decide +kernel) (by decide) rfl rfl rfl rfl ?_
    refine ab_fin.s3 (i := .goto (-171)) (k := 3) (t := 56) (st' := []) (by decide +kernel) (ab_gto (by decide +kernel)) ?_
    exact ab_fin.lv ⟨(List.forall_mem_cons.mpr ⟨(List.Mem.tail _ (List.Mem.tail _ (List.Mem.head _))), (List.forall_mem_cons.mpr ⟨(List.Mem.tail _ (List.Mem.tail _ (List.Mem.tail _ (List.Mem.head _)))), (List.forall_mem_cons.mpr ⟨(List.Mem.tail _ (List.Mem.tail _ (List.Mem.tail _ (List.Mem.tail _ (List.Mem.head _))))), (List.forall_mem_cons.mpr ⟨(List.Mem.tail _ (List.Mem.tail _ (List.Mem.tail _ (List.Mem.tail _ (List.Mem.tail _ (List.Mem.head _)))))), (List.forall_mem_cons.mpr ⟨(List.Mem.tail _ (List.Mem.tail _ (List.Mem.tail _ (List.Mem.tail _ (List.Mem.tail _ (List.Mem.tail _ (List.Mem.head _))))))), (List.forall_mem_cons.mpr ⟨(List.Mem.tail _ (List.Mem.tail _ (List.Mem.tail _ (List.Mem.tail _ (List.Mem.tail _ (List.Mem.tail _ (List.Mem.tail _ (List.Mem.head _)))))))), (List.forall_mem_cons.mpr ⟨(List.Mem.head _), (fun _ h => absurd h List.not_mem_nil)⟩)⟩)⟩)⟩)⟩)⟩)⟩), (show ([6, 8, 0, 1, 2, 3, 4, 5] : List Nat).Nodup from by decide)⟩ w
theorem S_X23_judge_190 {Z : zT} {d : Nat} {σ : Sg} {l2 : Nat} {l3 : Int32} {l9 : Int32} {K : kS} (F : FX ΦR σ.sh σ.r) (p_l2 : sh0R[l2]? = some (Sh.obj 14)) (w : ((σ.i l2 1) ≤ l9 → K (.inl none) σ) ∧ (¬ (σ.i l2 1) ≤ l9 → (¬ l3 = 0 → K (.inl none) σ) ∧ (l3 = 0 → ib l9 3 ∧ (ib l9 3 ∧ (B_X23_judge_190 Z (d + 1) (σ.wi 2184 l9.toNatClampNeg (σ.i 2185 l9.toNatClampNeg)) l2 l3 (l9 + 1) K))))) : B_X23_judge_190 Z (d + 1) σ l2 l3 l9 K := by
  unfold B_X23_judge_190
  refine ab_fin.s2 (i := .iload 9) (k := 2) (pc' := 192) (lv' := [(0, .ref 0), (2, .ref l2), (3, .int l3), (9, .int l9)]) (st' := [.int l9]) (by decide +kernel) rfl rfl ?_
  refine ab_fin.s2 (i := .aload_n 2) (k := 1) (pc' := 193) (lv' := [(0, .ref 0), (2, .ref l2), (3, .int l3), (9, .int l9)]) (st' := [.ref l2, .int l9]) (by decide +kernel) rfl rfl ?_
  refine ab_fin.q_rI (x := (σ.i l2 1)) (ix := 303) (ci := 14) (k := 1) (pc' := 196) (by decide +kernel) rfl (c_rI (F.s p_l2) rfl) rfl ?_
  refine ab_fin.br (c := (σ.i l2 1) ≤ l9) (i := .if_icmp .ge 27) (off := 27) (t := 223) (pc' := 199) (r := []) (by decide +kernel) rfl (by decide +kernel) rfl (fun q => ?_) (fun q => ?_)
  · replace w := w.1 q
    exact ab_fin.q_ret (i := .return_) (k := 1) (v := none) (by decide +kernel) rfl F w
  · replace w := w.2 q
    refine ab_fin.s2 (i := .iload_n 3) (k := 1) (pc' := 200) (lv' := [(0, .ref 0), (2, .ref l2), (3, .int l3), (9, .int l9)]) (st' := [.int l3]) (by decide +kernel) rfl rfl ?_
    refine ab_fin.br (c := ¬ l3 = 0) (i := .ifCond .ne 23) (off := 23) (t := 223) (pc' := 203) (r := []) (by decide +kernel) rfl (by decide +kernel) rfl (fun q => ?_) (fun q => ?_)
    · replace w := w.1 q
      exact ab_fin.q_ret (i := .return_) (k := 1) (v := none) (by decide +kernel) rfl F w
    · replace w := w.2 (Decidable.of_not_not q)
      refine ab_fin.s2 (i := .aload_n 0) (k := 1) (pc' := 204) (lv' := [(0, .ref 0), (2, .ref l2), (3, .int l3), (9, .int l9)]) (st' := [.ref 0]) (by decide +kernel) rfl rfl ?_
      refine ab_fin.q_rA (b := 2184) (ix := 893) (ci := 24) (k := 99) (pc' := 207) (by decide +kernel) rfl (c_rA (F.s s0_0) rfl (rM_99 F)) rfl ?_
      refine ab_fin.s2 (i := .iload 9) (k := 2) (pc' := 209) (lv' := [(0, .ref 0), (2, .ref l2), (3, .int l3), (9, .int l9)]) (st' := [.int l9, .ref 2184]) (by decide +kernel) rfl rfl ?_
      refine ab_fin.s2 (i := .aload_n 0) (k := 1) (pc' := 210) (lv' := [(0, .ref 0), (2, .ref l2), (3, .int l3), (9, .int l9)]) (st' := [.ref 0, .int l9, .ref 2184]) (by decide +kernel) rfl rfl ?_
      refine ab_fin.q_rA (b := 2185) (ix := 903) (ci := 24) (k := 100) (pc' := 213) (by decide +kernel) rfl (c_rA (F.s s0_0) rfl (rM_100 F)) rfl ?_
      refine ab_fin.s2 (i := .iload 9) (k := 2) (pc' := 215) (lv' := [(0, .ref 0), (2, .ref l2), (3, .int l3), (9, .int l9)]) (st' := [.int l9, .ref 2185, .int l9, .ref 2184]) (by decide +kernel) rfl rfl ?_
      obtain ⟨e1, w⟩ := w
      refine ab_fin.q_eI (x := (σ.i 2185 l9.toNatClampNeg)) (pc' := 216) (by decide +kernel) (c_eI' (F.s s0_2185) e1 rfl) rfl ?_
      obtain ⟨e2, w⟩ := w
      refine ab_fin.q_sI (h1 := conc (σ.wi 2184 l9.toNatClampNeg (σ.i 2185 l9.toNatClampNeg))) (pc' := 217) (by decide +kernel) (c_sI' (F.s s0_2184) e2 rfl) rfl ?_
      refine ab_fin.q_inc (n := 9) (c := 1) (pc' := 220) (lv' := [(9, .int (l9 + 1)), (0, .ref 0), (2, .ref l2), (3, .int l3)]) (by decide +kernel) (by decide) rfl rfl rfl rfl ?_
      refine ab_fin.s3 (i := .goto (-30)) (k := 3) (t := 190) (st' := []) (by decide +kernel) (ab_gto (by decide +kernel)) ?_
      exact ab_fin.lv ⟨(List.forall_mem_cons.mpr ⟨(List.Mem.tail _ (List.Mem.head _)), (List.forall_mem_cons.mpr ⟨(List.Mem.tail _ (List.Mem.tail _ (List.Mem.head _))), (List.forall_mem_cons.mpr ⟨(List.Mem.tail _ (List.Mem.tail _ (List.Mem.tail _ (List.Mem.head _)))), (List.forall_mem_cons.mpr ⟨(List.Mem.head _), (fun _ h => absurd h List.not_mem_nil)⟩)⟩)⟩)⟩), (show ([9, 0, 2, 3] : List Nat).Nodup from by decide)⟩ w
theorem S_X23_collect_0 {Z : zT} {d : Nat} {σ : Sg} {l1 : Int32} {K : kS} (F : FX ΦR σ.sh σ.r) (w : B_X23_collect_17 Z (d + 1) (((σ.wi 0 102 (0 : Int32)).wi 0 107 (0 : Int32)).wi 0 108 (0 : Int32)) l1 1 K) : B_X23_collect_0 Z (d + 1) σ l1 K := by
  unfold B_X23_collect_0
  refine ab_fin.s2 (i := .aload_n 0) (k := 1) (pc' := 1) (lv' := [(0, .ref 0), (1, .int l1)]) (st' := [.ref 0]) (by decide +kernel) rfl rfl ?_
  refine ab_fin.s1i (i := .iconst 0) (k := 1) (pc' := 2) (n := 0) (by decide +kernel) rfl (by decide +kernel) rfl ?_
  refine ab_fin.q_pF (ix := 916) (ci := 24) (k := 102) (h1 := conc (σ.wi 0 102 (0 : Int32))) (pc' := 5) (by decide +kernel) rfl (c_pI (v := 0) (F.s s0_0) rfl) rfl rfl rfl ?_
  refine ab_fin.s2 (i := .aload_n 0) (k := 1) (pc' := 6) (lv' := [(0, .ref 0), (1, .int l1)]) (st' := [.ref 0]) (by decide +kernel) rfl rfl ?_
  refine ab_fin.s1i (i := .iconst 0) (k := 1) (pc' := 7) (n := 0) (by decide +kernel) rfl (by decide +kernel) rfl ?_
  refine ab_fin.q_pF (ix := 919) (ci := 24) (k := 107) (h1 := conc ((σ.wi 0 102 (0 : Int32)).wi 0 107 (0 : Int32))) (pc' := 10) (by decide +kernel) rfl (c_pI (v := 0) (F.s s0_0) rfl) rfl rfl rfl ?_
  refine ab_fin.s2 (i := .aload_n 0) (k := 1) (pc' := 11) (lv' := [(0, .ref 0), (1, .int l1)]) (st' := [.ref 0]) (by decide +kernel) rfl rfl ?_
  refine ab_fin.s1i (i := .iconst 0) (k := 1) (pc' := 12) (n := 0) (by decide +kernel) rfl (by decide +kernel) rfl ?_
  refine ab_fin.q_pF (ix := 909) (ci := 24) (k := 108) (h1 := conc (((σ.wi 0 102 (0 : Int32)).wi 0 107 (0 : Int32)).wi 0 108 (0 : Int32))) (pc' := 15) (by decide +kernel) rfl (c_pI (v := 0) (F.s s0_0) rfl) rfl rfl rfl ?_
  refine ab_fin.s1i (i := .iconst 1) (k := 1) (pc' := 16) (n := 1) (by decide +kernel) rfl (by decide +kernel) rfl ?_
  refine ab_fin.s2 (i := .istore_n 2) (k := 1) (pc' := 17) (lv' := [(2, .int 1), (0, .ref 0), (1, .int l1)]) (st' := []) (by decide +kernel) rfl rfl ?_
  exact ab_fin.lv ⟨(List.forall_mem_cons.mpr ⟨(List.Mem.tail _ (List.Mem.head _)), (List.forall_mem_cons.mpr ⟨(List.Mem.tail _ (List.Mem.tail _ (List.Mem.head _))), (List.forall_mem_cons.mpr ⟨(List.Mem.head _), (fun _ h => absurd h List.not_mem_nil)⟩)⟩)⟩), (show ([2, 0, 1] : List Nat).Nodup from by decide)⟩ w
theorem S_X23_collect_17 {Z : zT} {d : Nat} {σ : Sg} {l1 : Int32} {l2 : Int32} {K : kS} (F : FX ΦR σ.sh σ.r) (w : ((σ.i 0 6) < l2 → K (.inl none) σ) ∧ (¬ (σ.i 0 6) < l2 → ib l2 121 ∧ (ib l1 24 ∧ (B_X23_has_0 Z d σ (1905 + 1 + l1.toNatClampNeg) l2 (yI K fun v5 τ3 => (v5 = 0 → B_X23_collect_17 Z (d + 1) τ3 l1 (l2 + 1) K) ∧ (¬ v5 = 0 → (¬ (τ3.i (2497 + 4 * l2.toNatClampNeg) 1) = 0 → B_X23_collect_17 Z (d + 1) τ3 l1 (l2 + 1) K) ∧ ((τ3.i (2497 + 4 * l2.toNatClampNeg) 1) = 0 → (0 ≤ (τ3.i (2497 + 4 * l2.toNatClampNeg) 2) → B_X23_collect_17 Z (d + 1) τ3 l1 (l2 + 1) K) ∧ (¬ 0 ≤ (τ3.i (2497 + 4 * l2.toNatClampNeg) 2) → B_X23_fits_0 Z d τ3 l2 2185 (yI K fun v8 τ6 => (¬ v8 = 0 → ib (τ6.i 0 102) 120 ∧ (ib l1 24 ∧ (B_X18_asks_0 Z d ((τ6.wi 2186 ((τ6.i 0 102).toNatClampNeg) l2).wi 0 102 ((τ6.i 0 102) + (1 : Int32))) (2497 + 4 * l2.toNatClampNeg) (((τ6.wi 2186 ((τ6.i 0 102).toNatClampNeg) l2).wi 0 102 ((τ6.i 0 102) + (1 : Int32))).i (2409 + 3 * l1.toNatClampNeg) 1) (yI K fun v13 τ11 => (¬ v13 = 0 → ib (τ11.i 0 107) 120 ∧ (B_X23_collect_17 Z (d + 1) (((τ11.wi 2189 ((τ11.i 0 107).toNatClampNeg) l2).wi 0 107 ((τ11.i 0 107) + (1 : Int32))).wi 0 108 ((τ11.i 0 108) + (((τ11.wi 2189 ((τ11.i 0 107).toNatClampNeg) l2).wi 0 107 ((τ11.i 0 107) + (1 : Int32))).i (2497 + 4 * l2.toNatClampNeg) 4))) l1 (l2 + 1) K)) ∧ (v13 = 0 → B_X23_collect_17 Z (d + 1) τ11 l1 (l2 + 1) K))))) ∧ (v8 = 0 → B_X23_collect_17 Z (d + 1) τ6 l1 (l2 + 1) K)))))))))) : B_X23_collect_17 Z (d + 1) σ l1 l2 K := by
  unfold B_X23_collect_17
  refine ab_fin.s2 (i := .iload_n 2) (k := 1) (pc' := 18) (lv' := [(0, .ref 0), (1, .int l1), (2, .int l2)]) (st' := [.int l2]) (by decide +kernel) rfl rfl ?_
  refine ab_fin.s2 (i := .aload_n 0) (k := 1) (pc' := 19) (lv' := [(0, .ref 0), (1, .int l1), (2, .int l2)]) (st' := [.ref 0, .int l2]) (by decide +kernel) rfl rfl ?_
  refine ab_fin.q_rI (x := (σ.i 0 6)) (ix := 312) (ci := 24) (k := 6) (pc' := 22) (by decide +kernel) rfl (c_rI (F.s s0_0) rfl) rfl ?_
  refine ab_fin.br (c := (σ.i 0 6) < l2) (i := .if_icmp .gt 130) (off := 130) (t := 152) (pc' := 25) (r := []) (by decide +kernel) rfl (by decide +kernel) rfl (fun q => ?_) (fun q => ?_)
  · replace w := w.1 q
    exact ab_fin.q_ret (i := .return_) (k := 1) (v := none) (by decide +kernel) rfl F w
  · replace w := w.2 q
    refine ab_fin.s2 (i := .aload_n 0) (k := 1) (pc' := 26) (lv' := [(0, .ref 0), (1, .int l1), (2, .int l2)]) (st' := [.ref 0]) (by decide +kernel) rfl rfl ?_
    refine ab_fin.q_rA (b := 3) (ix := 315) (ci := 24) (k := 2) (pc' := 29) (by decide +kernel) rfl (c_rA (F.s s0_0) rfl (rM_2 F)) rfl ?_
    refine ab_fin.s2 (i := .iload_n 2) (k := 1) (pc' := 30) (lv' := [(0, .ref 0), (1, .int l1), (2, .int l2)]) (st' := [.int l2, .ref 3]) (by decide +kernel) rfl rfl ?_
    obtain ⟨e1, w⟩ := w
    refine ab_fin.q_eA (b := (2497 + 4 * l2.toNatClampNeg)) (pc' := 31) (by decide +kernel) (c_eA' (F.s s0_3) (by decide) rfl e1 rfl (rE_6 F s0_3 (by decide))) rfl ?_
    refine ab_fin.s2 (i := .astore_n 3) (k := 1) (pc' := 32) (lv' := [(3, .ref (2497 + 4 * l2.toNatClampNeg)), (0, .ref 0), (1, .int l1), (2, .int l2)]) (st' := []) (by decide +kernel) rfl rfl ?_
    refine ab_fin.s2 (i := .aload_n 0) (k := 1) (pc' := 33) (lv' := [(3, .ref (2497 + 4 * l2.toNatClampNeg)), (0, .ref 0), (1, .int l1), (2, .int l2)]) (st' := [.ref 0]) (by decide +kernel) rfl rfl ?_
    refine ab_fin.q_rA (b := 1905) (ix := 500) (ci := 24) (k := 37) (pc' := 36) (by decide +kernel) rfl (c_rA (F.s s0_0) rfl (rM_37 F)) rfl ?_
    refine ab_fin.s2 (i := .iload_n 1) (k := 1) (pc' := 37) (lv' := [(3, .ref (2497 + 4 * l2.toNatClampNeg)), (0, .ref 0), (1, .int l1), (2, .int l2)]) (st' := [.int l1, .ref 1905]) (by decide +kernel) rfl rfl ?_
    obtain ⟨e2, w⟩ := w
    refine ab_fin.q_eA (b := (1905 + 1 + l1.toNatClampNeg)) (pc' := 38) (by decide +kernel) (c_eA' (F.s s0_1905) (by decide) rfl e2 rfl (rE_11 F s0_1905)) rfl ?_
    refine ab_fin.s2 (i := .iload_n 2) (k := 1) (pc' := 39) (lv' := [(3, .ref (2497 + 4 * l2.toNatClampNeg)), (0, .ref 0), (1, .int l1), (2, .int l2)]) (st' := [.int l2, .ref (1905 + 1 + l1.toNatClampNeg)]) (by decide +kernel) rfl rfl ?_
    refine ab_fin.q_yI (i := .invokestatic 844) (k := 3) (y := 5937) (As := [.ref (1905 + 1 + l1.toNatClampNeg), .int l2]) (rest := []) (M' := (mX23_has, [])) (lv2 := [(0, .ref (1905 + 1 + l1.toNatClampNeg)), (1, .int l2)]) (pc' := 42) (X := K) (by decide +kernel) (ab_cs rfl rfl ⟨(Nat.le_of_ble_eq_true rfl), (Nat.le_of_ble_eq_true rfl)⟩ rfl) rfl (Nat.le_of_ble_eq_true rfl) rfl rfl (hY_no fun E => rfl) w (fun v5 τ3 F4 w => ?_)
    refine ab_fin.br (c := v5 = 0) (i := .ifCond .eq 104) (off := 104) (t := 146) (pc' := 45) (r := []) (by decide +kernel) rfl (by decide +kernel) rfl (fun q => ?_) (fun q => ?_)
    · replace w := w.1 q
      refine ab_fin.q_inc (n := 2) (c := 1) (pc' := 149) (lv' := [(2, .int (l2 + 1)), (3, .ref (2497 + 4 * l2.toNatClampNeg)), (0, .ref 0), (1, .int l1)]) (by decide +kernel) (by decide) rfl rfl rfl rfl ?_
      refine ab_fin.s3 (i := .goto (-132)) (k := 3) (t := 17) (st' := []) (by decide +kernel) (ab_gto (by decide +kernel)) ?_
      exact ab_fin.lv ⟨(List.forall_mem_cons.mpr ⟨(List.Mem.tail _ (List.Mem.tail _ (List.Mem.head _))), (List.forall_mem_cons.mpr ⟨(List.Mem.tail _ (List.Mem.tail _ (List.Mem.tail _ (List.Mem.head _)))), (List.forall_mem_cons.mpr ⟨(List.Mem.head _), (fun _ h => absurd h List.not_mem_nil)⟩)⟩)⟩), (show ([2, 3, 0, 1] : List Nat).Nodup from by decide)⟩ w
    · replace w := w.2 q
      refine ab_fin.s2 (i := .aload_n 3) (k := 1) (pc' := 46) (lv' := [(3, .ref (2497 + 4 * l2.toNatClampNeg)), (0, .ref 0), (1, .int l1), (2, .int l2)]) (st' := [.ref (2497 + 4 * l2.toNatClampNeg)]) (by decide +kernel) rfl rfl ?_
      refine ab_fin.q_rI (x := (τ3.i (2497 + 4 * l2.toNatClampNeg) 1)) (ix := 346) (ci := 19) (k := 1) (pc' := 49) (by decide +kernel) rfl (c_rI (F4.s (kE_3 e1.2)) rfl) rfl ?_
      refine ab_fin.br (c := ¬ (τ3.i (2497 + 4 * l2.toNatClampNeg) 1) = 0) (i := .ifCond .ne 97) (off := 97) (t := 146) (pc' := 52) (r := []) (by decide +kernel) rfl (by decide +kernel) rfl (fun q => ?_) (fun q => ?_)
      · replace w := w.1 q
        refine ab_fin.q_inc (n := 2) (c := 1) (pc' := 149) (lv' := [(2, .int (l2 + 1)), (3, .ref (2497 + 4 * l2.toNatClampNeg)), (0, .ref 0), (1, .int l1)]) (by decide +kernel) (by decide) rfl rfl rfl rfl ?_
        refine ab_fin.s3 (i := .goto (-132)) (k := 3) (t := 17) (st' := []) (by decide +kernel) (ab_gto (by decide +kernel)) ?_
        exact ab_fin.lv ⟨(List.forall_mem_cons.mpr ⟨(List.Mem.tail _ (List.Mem.tail _ (List.Mem.head _))), (List.forall_mem_cons.mpr ⟨(List.Mem.tail _ (List.Mem.tail _ (List.Mem.tail _ (List.Mem.head _)))), (List.forall_mem_cons.mpr ⟨(List.Mem.head _), (fun _ h => absurd h List.not_mem_nil)⟩)⟩)⟩), (show ([2, 3, 0, 1] : List Nat).Nodup from by decide)⟩ w
      · replace w := w.2 (Decidable.of_not_not q)
        refine ab_fin.s2 (i := .aload_n 3) (k := 1) (pc' := 53) (lv' := [(3, .ref (2497 + 4 * l2.toNatClampNeg)), (0, .ref 0), (1, .int l1), (2, .int l2)]) (st' := [.ref (2497 + 4 * l2.toNatClampNeg)]) (by decide +kernel) rfl rfl ?_
        refine ab_fin.q_rI (x := (τ3.i (2497 + 4 * l2.toNatClampNeg) 2)) (ix := 333) (ci := 19) (k := 2) (pc' := 56) (by decide +kernel) rfl (c_rI (F4.s (kE_3 e1.2)) rfl) rfl ?_
        refine ab_fin.br (c := 0 ≤ (τ3.i (2497 + 4 * l2.toNatClampNeg) 2)) (i := .ifCond .ge 90) (off := 90) (t := 146) (pc' := 59) (r := []) (by decide +kernel) rfl (by decide +kernel) rfl (fun q => ?_) (fun q => ?_)
        · replace w := w.1 q
          refine ab_fin.q_inc (n := 2) (c := 1) (pc' := 149) (lv' := [(2, .int (l2 + 1)), (3, .ref (2497 + 4 * l2.toNatClampNeg)), (0, .ref 0), (1, .int l1)]) (by decide +kernel) (by decide) rfl rfl rfl rfl ?_
          refine ab_fin.s3 (i := .goto (-132)) (k := 3) (t := 17) (st' := []) (by decide +kernel) (ab_gto (by decide +kernel)) ?_
          exact ab_fin.lv ⟨(List.forall_mem_cons.mpr ⟨(List.Mem.tail _ (List.Mem.tail _ (List.Mem.head _))), (List.forall_mem_cons.mpr ⟨(List.Mem.tail _ (List.Mem.tail _ (List.Mem.tail _ (List.Mem.head _)))), (List.forall_mem_cons.mpr ⟨(List.Mem.head _), (fun _ h => absurd h List.not_mem_nil)⟩)⟩)⟩), (show ([2, 3, 0, 1] : List Nat).Nodup from by decide)⟩ w
        · replace w := w.2 q
          refine ab_fin.s2 (i := .aload_n 0) (k := 1) (pc' := 60) (lv' := [(3, .ref (2497 + 4 * l2.toNatClampNeg)), (0, .ref 0), (1, .int l1), (2, .int l2)]) (st' := [.ref 0]) (by decide +kernel) rfl rfl ?_
          refine ab_fin.s2 (i := .iload_n 2) (k := 1) (pc' := 61) (lv' := [(3, .ref (2497 + 4 * l2.toNatClampNeg)), (0, .ref 0), (1, .int l1), (2, .int l2)]) (st' := [.int l2, .ref 0]) (by decide +kernel) rfl rfl ?_
          refine ab_fin.s2 (i := .aload_n 0) (k := 1) (pc' := 62) (lv' := [(3, .ref (2497 + 4 * l2.toNatClampNeg)), (0, .ref 0), (1, .int l1), (2, .int l2)]) (st' := [.ref 0, .int l2, .ref 0]) (by decide +kernel) rfl rfl ?_
          refine ab_fin.q_rA (b := 2185) (ix := 903) (ci := 24) (k := 100) (pc' := 65) (by decide +kernel) rfl (c_rA (F4.s s0_0) rfl (rM_100 F4)) rfl ?_
          refine ab_fin.q_yI (i := .invokevirtual 847) (k := 3) (y := 5939) (As := [.ref 0, .int l2, .ref 2185]) (rest := []) (M' := (mX23_fits, [])) (lv2 := [(0, .ref 0), (1, .int l2), (2, .ref 2185)]) (pc' := 68) (X := K) (by decide +kernel) (ab_cv rfl rfl (conc_get (σ := τ3) (F4.s s0_0)) ⟨(Nat.le_of_ble_eq_true rfl), (Nat.le_of_ble_eq_true rfl)⟩ rfl) rfl (Nat.le_of_ble_eq_true rfl) rfl rfl (hY_no fun E => rfl) w (fun v8 τ6 F7 w => ?_)
          refine ab_fin.br (c := ¬ v8 = 0) (i := .ifCond .ne 6) (off := 6) (t := 74) (pc' := 71) (r := []) (by decide +kernel) rfl (by decide +kernel) rfl (fun q => ?_) (fun q => ?_)
          · replace w := w.1 q
            refine ab_fin.s2 (i := .aload_n 0) (k := 1) (pc' := 75) (lv' := [(3, .ref (2497 + 4 * l2.toNatClampNeg)), (0, .ref 0), (1, .int l1), (2, .int l2)]) (st' := [.ref 0]) (by decide +kernel) rfl rfl ?_
            refine ab_fin.q_rA (b := 2186) (ix := 922) (ci := 24) (k := 101) (pc' := 78) (by decide +kernel) rfl (c_rA (F7.s s0_0) rfl (rM_101 F7)) rfl ?_
            refine ab_fin.s2 (i := .aload_n 0) (k := 1) (pc' := 79) (lv' := [(3, .ref (2497 + 4 * l2.toNatClampNeg)), (0, .ref 0), (1, .int l1), (2, .int l2)]) (st' := [.ref 0, .ref 2186]) (by decide +kernel) rfl rfl ?_
            refine ab_fin.q_rI (x := (τ6.i 0 102)) (ix := 916) (ci := 24) (k := 102) (pc' := 82) (by decide +kernel) rfl (c_rI (F7.s s0_0) rfl) rfl ?_
            refine ab_fin.s2 (i := .iload_n 2) (k := 1) (pc' := 83) (lv' := [(3, .ref (2497 + 4 * l2.toNatClampNeg)), (0, .ref 0), (1, .int l1), (2, .int l2)]) (st' := [.int l2, .int (τ6.i 0 102), .ref 2186]) (by decide +kernel) rfl rfl ?_
            obtain ⟨e9, w⟩ := w
            refine ab_fin.q_sI (h1 := conc (τ6.wi 2186 ((τ6.i 0 102).toNatClampNeg) l2)) (pc' := 84) (by decide +kernel) (c_sI' (F7.s s0_2186) e9 rfl) rfl ?_
            refine ab_fin.s2 (i := .aload_n 0) (k := 1) (pc' := 85) (lv' := [(3, .ref (2497 + 4 * l2.toNatClampNeg)), (0, .ref 0), (1, .int l1), (2, .int l2)]) (st' := [.ref 0]) (by decide +kernel) rfl rfl ?_
            refine ab_fin.s1 (i := .dup) (k := 1) (pc' := 86) (st' := [.ref 0, .ref 0]) (by decide +kernel) rfl rfl ?_
            refine ab_fin.q_rI (x := (τ6.i 0 102)) (ix := 916) (ci := 24) (k := 102) (pc' := 89) (by decide +kernel) rfl (c_rI (F7.s s0_0) rfl) rfl ?_
            refine ab_fin.s1i (i := .iconst 1) (k := 1) (pc' := 90) (n := 1) (by decide +kernel) rfl (by decide +kernel) rfl ?_
            refine ab_fin.s1 (i := .iadd) (k := 1) (pc' := 91) (st' := [.int ((τ6.i 0 102) + (1 : Int32)), .ref 0]) (by decide +kernel) rfl rfl ?_
            refine ab_fin.q_pF (ix := 916) (ci := 24) (k := 102) (h1 := conc ((τ6.wi 2186 ((τ6.i 0 102).toNatClampNeg) l2).wi 0 102 ((τ6.i 0 102) + (1 : Int32)))) (pc' := 94) (by decide +kernel) rfl (c_pI (v := ((τ6.i 0 102) + (1 : Int32))) (F7.s s0_0) rfl) rfl rfl rfl ?_
            refine ab_fin.s2 (i := .aload_n 3) (k := 1) (pc' := 95) (lv' := [(3, .ref (2497 + 4 * l2.toNatClampNeg)), (0, .ref 0), (1, .int l1), (2, .int l2)]) (st' := [.ref (2497 + 4 * l2.toNatClampNeg)]) (by decide +kernel) rfl rfl ?_
            refine ab_fin.s2 (i := .aload_n 0) (k := 1) (pc' := 96) (lv' := [(3, .ref (2497 + 4 * l2.toNatClampNeg)), (0, .ref 0), (1, .int l1), (2, .int l2)]) (st' := [.ref 0, .ref (2497 + 4 * l2.toNatClampNeg)]) (by decide +kernel) rfl rfl ?_
            refine ab_fin.q_rA (b := 2) (ix := 34) (ci := 24) (k := 1) (pc' := 99) (by decide +kernel) rfl (c_rA (F7.s s0_0) rfl (rM_1 F7)) rfl ?_
            refine ab_fin.s2 (i := .iload_n 1) (k := 1) (pc' := 100) (lv' := [(3, .ref (2497 + 4 * l2.toNatClampNeg)), (0, .ref 0), (1, .int l1), (2, .int l2)]) (st' := [.int l1, .ref 2, .ref (2497 + 4 * l2.toNatClampNeg)]) (by decide +kernel) rfl rfl ?_
            obtain ⟨e10, w⟩ := w
            refine ab_fin.q_eA (b := (2409 + 3 * l1.toNatClampNeg)) (pc' := 101) (by decide +kernel) (c_eA' (F7.s s0_2) (by decide) rfl e10 rfl (rE_5 F7 s0_2)) rfl ?_
            refine ab_fin.q_rI (x := (((τ6.wi 2186 ((τ6.i 0 102).toNatClampNeg) l2).wi 0 102 ((τ6.i 0 102) + (1 : Int32))).i (2409 + 3 * l1.toNatClampNeg) 1)) (ix := 303) (ci := 14) (k := 1) (pc' := 104) (by decide +kernel) rfl (c_rI (F7.s (kE_2 e10.2)) rfl) rfl ?_
            refine ab_fin.q_yI (i := .invokevirtual 925) (k := 3) (y := 4609) (As := [.ref (2497 + 4 * l2.toNatClampNeg), .int (((τ6.wi 2186 ((τ6.i 0 102).toNatClampNeg) l2).wi 0 102 ((τ6.i 0 102) + (1 : Int32))).i (2409 + 3 * l1.toNatClampNeg) 1)]) (rest := []) (M' := (mX18_asks, [])) (lv2 := [(0, .ref (2497 + 4 * l2.toNatClampNeg)), (1, .int (((τ6.wi 2186 ((τ6.i 0 102).toNatClampNeg) l2).wi 0 102 ((τ6.i 0 102) + (1 : Int32))).i (2409 + 3 * l1.toNatClampNeg) 1))]) (pc' := 107) (X := K) (by decide +kernel) (ab_cv rfl rfl (conc_get (σ := ((τ6.wi 2186 ((τ6.i 0 102).toNatClampNeg) l2).wi 0 102 ((τ6.i 0 102) + (1 : Int32)))) (F7.s (kE_3 e1.2))) ⟨(Nat.le_of_ble_eq_true rfl), (Nat.le_of_ble_eq_true rfl)⟩ rfl) rfl (Nat.le_of_ble_eq_true rfl) rfl rfl (hY_no fun E => rfl) w (fun v13 τ11 F12 w => ?_)
            refine ab_fin.br (c := ¬ v13 = 0) (i := .ifCond .ne 6) (off := 6) (t := 113) (pc' := 110) (r := []) (by decide +kernel) rfl (by decide +kernel) rfl (fun q => ?_) (fun q => ?_)
            · replace w := w.1 q
              refine ab_fin.s2 (i := .aload_n 0) (k := 1) (pc' := 114) (lv' := [(3, .ref (2497 + 4 * l2.toNatClampNeg)), (0, .ref 0), (1, .int l1), (2, .int l2)]) (st' := [.ref 0]) (by decide +kernel) rfl rfl ?_
              refine ab_fin.q_rA (b := 2189) (ix := 928) (ci := 24) (k := 105) (pc' := 117) (by decide +kernel) rfl (c_rA (F12.s s0_0) rfl (rM_105 F12)) rfl ?_
              refine ab_fin.s2 (i := .aload_n 0) (k := 1) (pc' := 118) (lv' := [(3, .ref (2497 + 4 * l2.toNatClampNeg)), (0, .ref 0), (1, .int l1), (2, .int l2)]) (st' := [.ref 0, .ref 2189]) (by decide +kernel) rfl rfl ?_
              refine ab_fin.q_rI (x := (τ11.i 0 107)) (ix := 919) (ci := 24) (k := 107) (pc' := 121) (by decide +kernel) rfl (c_rI (F12.s s0_0) rfl) rfl ?_
              refine ab_fin.s2 (i := .iload_n 2) (k := 1) (pc' := 122) (lv' := [(3, .ref (2497 + 4 * l2.toNatClampNeg)), (0, .ref 0), (1, .int l1), (2, .int l2)]) (st' := [.int l2, .int (τ11.i 0 107), .ref 2189]) (by decide +kernel) rfl rfl ?_
              obtain ⟨e14, w⟩ := w
              refine ab_fin.q_sI (h1 := conc (τ11.wi 2189 ((τ11.i 0 107).toNatClampNeg) l2)) (pc' := 123) (by decide +kernel) (c_sI' (F12.s s0_2189) e14 rfl) rfl ?_
              refine ab_fin.s2 (i := .aload_n 0) (k := 1) (pc' := 124) (lv' := [(3, .ref (2497 + 4 * l2.toNatClampNeg)), (0, .ref 0), (1, .int l1), (2, .int l2)]) (st' := [.ref 0]) (by decide +kernel) rfl rfl ?_
              refine ab_fin.s1 (i := .dup) (k := 1) (pc' := 125) (st' := [.ref 0, .ref 0]) (by decide +kernel) rfl rfl ?_
              refine ab_fin.q_rI (x := (τ11.i 0 107)) (ix := 919) (ci := 24) (k := 107) (pc' := 128) (by decide +kernel) rfl (c_rI (F12.s s0_0) rfl) rfl ?_
              refine ab_fin.s1i (i := .iconst 1) (k := 1) (pc' := 129) (n := 1) (by decide +kernel) rfl (by decide +kernel) rfl ?_
              refine ab_fin.s1 (i := .iadd) (k := 1) (pc' := 130) (st' := [.int ((τ11.i 0 107) + (1 : Int32)), .ref 0]) (by decide +kernel) rfl rfl ?_
              refine ab_fin.q_pF (ix := 919) (ci := 24) (k := 107) (h1 := conc ((τ11.wi 2189 ((τ11.i 0 107).toNatClampNeg) l2).wi 0 107 ((τ11.i 0 107) + (1 : Int32)))) (pc' := 133) (by decide +kernel) rfl (c_pI (v := ((τ11.i 0 107) + (1 : Int32))) (F12.s s0_0) rfl) rfl rfl rfl ?_
              refine ab_fin.s2 (i := .aload_n 0) (k := 1) (pc' := 134) (lv' := [(3, .ref (2497 + 4 * l2.toNatClampNeg)), (0, .ref 0), (1, .int l1), (2, .int l2)]) (st' := [.ref 0]) (by decide +kernel) rfl rfl ?_
              refine ab_fin.s1 (i := .dup) (k := 1) (pc' := 135) (st' := [.ref 0, .ref 0]) (by decide +kernel) rfl rfl ?_
              refine ab_fin.q_rI (x := (τ11.i 0 108)) (ix := 909) (ci := 24) (k := 108) (pc' := 138) (by decide +kernel) rfl (c_rI (F12.s s0_0) rfl) rfl ?_
              refine ab_fin.s2 (i := .aload_n 3) (k := 1) (pc' := 139) (lv' := [(3, .ref (2497 + 4 * l2.toNatClampNeg)), (0, .ref 0), (1, .int l1), (2, .int l2)]) (st' := [.ref (2497 + 4 * l2.toNatClampNeg), .int (τ11.i 0 108), .ref 0]) (by decide +kernel) rfl rfl ?_
              refine ab_fin.q_rI (x := (((τ11.wi 2189 ((τ11.i 0 107).toNatClampNeg) l2).wi 0 107 ((τ11.i 0 107) + (1 : Int32))).i (2497 + 4 * l2.toNatClampNeg) 4)) (ix := 362) (ci := 19) (k := 4) (pc' := 142) (by decide +kernel) rfl (c_rI (F12.s (kE_3 e1.2)) rfl) rfl ?_
              refine ab_fin.s1 (i := .iadd) (k := 1) (pc' := 143) (st' := [.int ((τ11.i 0 108) + (((τ11.wi 2189 ((τ11.i 0 107).toNatClampNeg) l2).wi 0 107 ((τ11.i 0 107) + (1 : Int32))).i (2497 + 4 * l2.toNatClampNeg) 4)), .ref 0]) (by decide +kernel) rfl rfl ?_
              refine ab_fin.q_pF (ix := 909) (ci := 24) (k := 108) (h1 := conc (((τ11.wi 2189 ((τ11.i 0 107).toNatClampNeg) l2).wi 0 107 ((τ11.i 0 107) + (1 : Int32))).wi 0 108 ((τ11.i 0 108) + (((τ11.wi 2189 ((τ11.i 0 107).toNatClampNeg) l2).wi 0 107 ((τ11.i 0 107) + (1 : Int32))).i (2497 + 4 * l2.toNatClampNeg) 4)))) (pc' := 146) (by decide +kernel) rfl (c_pI (v := ((τ11.i 0 108) + (((τ11.wi 2189 ((τ11.i 0 107).toNatClampNeg) l2).wi 0 107 ((τ11.i 0 107) + (1 : Int32))).i (2497 + 4 * l2.toNatClampNeg) 4))) (F12.s s0_0) rfl) rfl rfl rfl ?_
              refine ab_fin.q_inc (n := 2) (c := 1) (pc' := 149) (lv' := [(2, .int (l2 + 1)), (3, .ref (2497 + 4 * l2.toNatClampNeg)), (0, .ref 0), (1, .int l1)]) (by decide +kernel) (by decide) rfl rfl rfl rfl ?_
              refine ab_fin.s3 (i := .goto (-132)) (k := 3) (t := 17) (st' := []) (by decide +kernel) (ab_gto (by decide +kernel)) ?_
              exact ab_fin.lv ⟨(List.forall_mem_cons.mpr ⟨(List.Mem.tail _ (List.Mem.tail _ (List.Mem.head _))), (List.forall_mem_cons.mpr ⟨(List.Mem.tail _ (List.Mem.tail _ (List.Mem.tail _ (List.Mem.head _)))), (List.forall_mem_cons.mpr ⟨(List.Mem.head _), (fun _ h => absurd h List.not_mem_nil)⟩)⟩)⟩), (show ([2, 3, 0, 1] : List Nat).Nodup from by decide)⟩ w
            · replace w := w.2 (Decidable.of_not_not q)
              refine ab_fin.s3 (i := .goto 36) (k := 3) (t := 146) (st' := []) (by decide +kernel) (ab_gto (by decide +kernel)) ?_
              refine ab_fin.q_inc (n := 2) (c := 1) (pc' := 149) (lv' := [(2, .int (l2 + 1)), (3, .ref (2497 + 4 * l2.toNatClampNeg)), (0, .ref 0), (1, .int l1)]) (by decide +kernel) (by decide) rfl rfl rfl rfl ?_
              refine ab_fin.s3 (i := .goto (-132)) (k := 3) (t := 17) (st' := []) (by decide +kernel) (ab_gto (by decide +kernel)) ?_
              exact ab_fin.lv ⟨(List.forall_mem_cons.mpr ⟨(List.Mem.tail _ (List.Mem.tail _ (List.Mem.head _))), (List.forall_mem_cons.mpr ⟨(List.Mem.tail _ (List.Mem.tail _ (List.Mem.tail _ (List.Mem.head _)))), (List.forall_mem_cons.mpr ⟨(List.Mem.head _), (fun _ h => absurd h List.not_mem_nil)⟩)⟩)⟩), (show ([2, 3, 0, 1] : List Nat).Nodup from by decide)⟩ w
          · replace w := w.2 (Decidable.of_not_not q)
            refine ab_fin.s3 (i := .goto 75) (k := 3) (t := 146) (st' := []) (by decide +kernel) (ab_gto (by decide +kernel)) ?_
            refine ab_fin.q_inc (n := 2) (c := 1) (pc' := 149) (lv' := [(2, .int (l2 + 1)), (3, .ref (2497 + 4 * l2.toNatClampNeg)), (0, .ref 0), (1, .int l1)]) (by decide +kernel) (by decide) rfl rfl rfl rfl ?_
            refine ab_fin.s3 (i := .goto (-132)) (k := 3) (t := 17) (st' := []) (by decide +kernel) (ab_gto (by decide +kernel)) ?_
            exact ab_fin.lv ⟨(List.forall_mem_cons.mpr ⟨(List.Mem.tail _ (List.Mem.tail _ (List.Mem.head _))), (List.forall_mem_cons.mpr ⟨(List.Mem.tail _ (List.Mem.tail _ (List.Mem.tail _ (List.Mem.head _)))), (List.forall_mem_cons.mpr ⟨(List.Mem.head _), (fun _ h => absurd h List.not_mem_nil)⟩)⟩)⟩), (show ([2, 3, 0, 1] : List Nat).Nodup from by decide)⟩ w
theorem S_X23_bad_0 {Z : zT} {d : Nat} {σ : Sg} {l1 : Nat} {K : kS} (F : FX ΦR σ.sh σ.r) (w : ((σ.i 0 102) ≤ (σ.i 0 107) → B_X23_bad_16 Z (d + 1) σ l1 0 K) ∧ (¬ (σ.i 0 102) ≤ (σ.i 0 107) → B_X23_bad_16 Z (d + 1) σ l1 1 K)) : B_X23_bad_0 Z (d + 1) σ l1 K := by
  unfold B_X23_bad_0
  refine ab_fin.s2 (i := .aload_n 0) (k := 1) (pc' := 1) (lv' := [(0, .ref 0), (1, .ref l1)]) (st' := [.ref 0]) (by decide +kernel) rfl rfl ?_
  refine ab_fin.q_rI (x := (σ.i 0 107)) (ix := 919) (ci := 24) (k := 107) (pc' := 4) (by decide +kernel) rfl (c_rI (F.s s0_0) rfl) rfl ?_
  refine ab_fin.s2 (i := .aload_n 0) (k := 1) (pc' := 5) (lv' := [(0, .ref 0), (1, .ref l1)]) (st' := [.ref 0, .int (σ.i 0 107)]) (by decide +kernel) rfl rfl ?_
  refine ab_fin.q_rI (x := (σ.i 0 102)) (ix := 916) (ci := 24) (k := 102) (pc' := 8) (by decide +kernel) rfl (c_rI (F.s s0_0) rfl) rfl ?_
  refine ab_fin.br (c := (σ.i 0 102) ≤ (σ.i 0 107)) (i := .if_icmp .ge 7) (off := 7) (t := 15) (pc' := 11) (r := []) (by decide +kernel) rfl (by decide +kernel) rfl (fun q => ?_) (fun q => ?_)
  · replace w := w.1 q
    refine ab_fin.s1i (i := .iconst 0) (k := 1) (pc' := 16) (n := 0) (by decide +kernel) rfl (by decide +kernel) rfl ?_
    exact ab_fin.lv ⟨(List.forall_mem_cons.mpr ⟨(List.Mem.head _), (List.forall_mem_cons.mpr ⟨(List.Mem.tail _ (List.Mem.head _)), (fun _ h => absurd h List.not_mem_nil)⟩)⟩), (show ([0, 1] : List Nat).Nodup from by decide)⟩ w
  · replace w := w.2 q
    refine ab_fin.s1i (i := .iconst 1) (k := 1) (pc' := 12) (n := 1) (by decide +kernel) rfl (by decide +kernel) rfl ?_
    refine ab_fin.s3 (i := .goto 4) (k := 3) (t := 16) (st' := [.int 1]) (by decide +kernel) (ab_gto (by decide +kernel)) ?_
    exact ab_fin.lv ⟨(List.forall_mem_cons.mpr ⟨(List.Mem.head _), (List.forall_mem_cons.mpr ⟨(List.Mem.tail _ (List.Mem.head _)), (fun _ h => absurd h List.not_mem_nil)⟩)⟩), (show ([0, 1] : List Nat).Nodup from by decide)⟩ w
theorem S_X23_bad_16 {Z : zT} {d : Nat} {σ : Sg} {l1 : Nat} {s0 : Int32} {K : kS} (F : FX ΦR σ.sh σ.r) (w : (s0 = 0 → B_X23_bad_30 Z (d + 1) σ l1 s0 K) ∧ (¬ s0 = 0 → sh0R[l1]? = some (Sh.obj 14) ∧ (((σ.i l1 2) = 0 → B_X23_bad_30 Z (d + 1) σ l1 s0 K) ∧ (¬ (σ.i l1 2) = 0 → K (.inl (some (.int 0))) σ)))) : B_X23_bad_16 Z (d + 1) σ l1 s0 K := by
  unfold B_X23_bad_16
  refine ab_fin.s2 (i := .istore_n 2) (k := 1) (pc' := 17) (lv' := [(2, .int s0), (0, .ref 0), (1, .ref l1)]) (st' := []) (by decide +kernel) rfl rfl ?_
  refine ab_fin.s2 (i := .iload_n 2) (k := 1) (pc' := 18) (lv' := [(2, .int s0), (0, .ref 0), (1, .ref l1)]) (st' := [.int s0]) (by decide +kernel) rfl rfl ?_
  refine ab_fin.br (c := s0 = 0) (i := .ifCond .eq 12) (off := 12) (t := 30) (pc' := 21) (r := []) (by decide +kernel) rfl (by decide +kernel) rfl (fun q => ?_) (fun q => ?_)
  · replace w := w.1 q
    exact ab_fin.lv ⟨(List.forall_mem_cons.mpr ⟨(List.Mem.tail _ (List.Mem.head _)), (List.forall_mem_cons.mpr ⟨(List.Mem.tail _ (List.Mem.tail _ (List.Mem.head _))), (List.forall_mem_cons.mpr ⟨(List.Mem.head _), (fun _ h => absurd h List.not_mem_nil)⟩)⟩)⟩), (show ([2, 0, 1] : List Nat).Nodup from by decide)⟩ w
  · replace w := w.2 q
    refine ab_fin.s2 (i := .aload_n 1) (k := 1) (pc' := 22) (lv' := [(2, .int s0), (0, .ref 0), (1, .ref l1)]) (st' := [.ref l1]) (by decide +kernel) rfl rfl ?_
    obtain ⟨e1, w⟩ := w
    refine ab_fin.q_rI (x := (σ.i l1 2)) (ix := 306) (ci := 14) (k := 2) (pc' := 25) (by decide +kernel) rfl (c_rI (F.s e1) rfl) rfl ?_
    refine ab_fin.br (c := (σ.i l1 2) = 0) (i := .ifCond .eq 5) (off := 5) (t := 30) (pc' := 28) (r := []) (by decide +kernel) rfl (by decide +kernel) rfl (fun q => ?_) (fun q => ?_)
    · replace w := w.1 q
      exact ab_fin.lv ⟨(List.forall_mem_cons.mpr ⟨(List.Mem.tail _ (List.Mem.head _)), (List.forall_mem_cons.mpr ⟨(List.Mem.tail _ (List.Mem.tail _ (List.Mem.head _))), (List.forall_mem_cons.mpr ⟨(List.Mem.head _), (fun _ h => absurd h List.not_mem_nil)⟩)⟩)⟩), (show ([2, 0, 1] : List Nat).Nodup from by decide)⟩ w
    · replace w := w.2 q
      refine ab_fin.s1i (i := .iconst 0) (k := 1) (pc' := 29) (n := 0) (by decide +kernel) rfl (by decide +kernel) rfl ?_
      exact ab_fin.q_ret (i := .ireturn) (k := 1) (v := some (.int 0)) (by decide +kernel) rfl F w
theorem S_X23_bad_30 {Z : zT} {d : Nat} {σ : Sg} {l1 : Nat} {l2 : Int32} {K : kS} (F : FX ΦR σ.sh σ.r) (w : (¬ (σ.i 0 102) = 0 → B_X23_lookAt_0 Z d σ l1 (yN K fun τ1 => (¬ l2 = 0 → sh0R[l1]? = some (Sh.obj 14) ∧ (((τ1.i l1 2) = 0 → B_X23_bad_70 Z (d + 1) τ1 l1 0 K) ∧ (¬ (τ1.i l1 2) = 0 → K (.inl (some (.int 0))) τ1))) ∧ (l2 = 0 → ((τ1.i 2190 0) = 0 → sh0R[l1]? = some (Sh.obj 14) ∧ (((τ1.i l1 2) = 0 → B_X23_bad_70 Z (d + 1) τ1 l1 0 K) ∧ (¬ (τ1.i l1 2) = 0 → K (.inl (some (.int 0))) τ1))) ∧ (¬ (τ1.i 2190 0) = 0 → K (.inl (some (.int 1))) τ1)))) ∧ ((σ.i 0 102) = 0 → K (.inl (some (.int 1))) σ)) : B_X23_bad_30 Z (d + 1) σ l1 l2 K := by
  unfold B_X23_bad_30
  refine ab_fin.s2 (i := .aload_n 0) (k := 1) (pc' := 31) (lv' := [(0, .ref 0), (1, .ref l1), (2, .int l2)]) (st' := [.ref 0]) (by decide +kernel) rfl rfl ?_
  refine ab_fin.q_rI (x := (σ.i 0 102)) (ix := 916) (ci := 24) (k := 102) (pc' := 34) (by decide +kernel) rfl (c_rI (F.s s0_0) rfl) rfl ?_
  refine ab_fin.br (c := ¬ (σ.i 0 102) = 0) (i := .ifCond .ne 5) (off := 5) (t := 39) (pc' := 37) (r := []) (by decide +kernel) rfl (by decide +kernel) rfl (fun q => ?_) (fun q => ?_)
  · replace w := w.1 q
    refine ab_fin.s2 (i := .aload_n 0) (k := 1) (pc' := 40) (lv' := [(0, .ref 0), (1, .ref l1), (2, .int l2)]) (st' := [.ref 0]) (by decide +kernel) rfl rfl ?_
    refine ab_fin.s2 (i := .aload_n 1) (k := 1) (pc' := 41) (lv' := [(0, .ref 0), (1, .ref l1), (2, .int l2)]) (st' := [.ref l1, .ref 0]) (by decide +kernel) rfl rfl ?_
    refine ab_fin.q_yN (i := .invokevirtual 931) (k := 3) (y := 5986) (As := [.ref 0, .ref l1]) (rest := []) (M' := (mX23_lookAt, [])) (lv2 := [(0, .ref 0), (1, .ref l1)]) (pc' := 44) (X := K) (by decide +kernel) (ab_cv rfl rfl (conc_get (σ := σ) (F.s s0_0)) ⟨(Nat.le_of_ble_eq_true rfl), (Nat.le_of_ble_eq_true rfl)⟩ rfl) rfl (Nat.le_of_ble_eq_true rfl) rfl rfl (hY_no fun E => rfl) w (fun τ1 F2 w => ?_)
    refine ab_fin.s2 (i := .iload_n 2) (k := 1) (pc' := 45) (lv' := [(0, .ref 0), (1, .ref l1), (2, .int l2)]) (st' := [.int l2]) (by decide +kernel) rfl rfl ?_
    refine ab_fin.br (c := ¬ l2 = 0) (i := .ifCond .ne 14) (off := 14) (t := 59) (pc' := 48) (r := []) (by decide +kernel) rfl (by decide +kernel) rfl (fun q => ?_) (fun q => ?_)
    · replace w := w.1 q
      refine ab_fin.s2 (i := .aload_n 1) (k := 1) (pc' := 60) (lv' := [(0, .ref 0), (1, .ref l1), (2, .int l2)]) (st' := [.ref l1]) (by decide +kernel) rfl rfl ?_
      obtain ⟨e3, w⟩ := w
      refine ab_fin.q_rI (x := (τ1.i l1 2)) (ix := 306) (ci := 14) (k := 2) (pc' := 63) (by decide +kernel) rfl (c_rI (F2.s e3) rfl) rfl ?_
      refine ab_fin.br (c := (τ1.i l1 2) = 0) (i := .ifCond .eq 5) (off := 5) (t := 68) (pc' := 66) (r := []) (by decide +kernel) rfl (by decide +kernel) rfl (fun q => ?_) (fun q => ?_)
      · replace w := w.1 q
        refine ab_fin.s1i (i := .iconst 0) (k := 1) (pc' := 69) (n := 0) (by decide +kernel) rfl (by decide +kernel) rfl ?_
        refine ab_fin.s2 (i := .istore_n 3) (k := 1) (pc' := 70) (lv' := [(3, .int 0), (0, .ref 0), (1, .ref l1), (2, .int l2)]) (st' := []) (by decide +kernel) rfl rfl ?_
        exact ab_fin.lv ⟨(List.forall_mem_cons.mpr ⟨(List.Mem.tail _ (List.Mem.head _)), (List.forall_mem_cons.mpr ⟨(List.Mem.tail _ (List.Mem.tail _ (List.Mem.head _))), (List.forall_mem_cons.mpr ⟨(List.Mem.head _), (fun _ h => absurd h List.not_mem_nil)⟩)⟩)⟩), (show ([3, 0, 1, 2] : List Nat).Nodup from by decide)⟩ w
      · replace w := w.2 q
        refine ab_fin.s1i (i := .iconst 0) (k := 1) (pc' := 67) (n := 0) (by decide +kernel) rfl (by decide +kernel) rfl ?_
        exact ab_fin.q_ret (i := .ireturn) (k := 1) (v := some (.int 0)) (by decide +kernel) rfl F2 w
    · replace w := w.2 (Decidable.of_not_not q)
      refine ab_fin.s2 (i := .aload_n 0) (k := 1) (pc' := 49) (lv' := [(0, .ref 0), (1, .ref l1), (2, .int l2)]) (st' := [.ref 0]) (by decide +kernel) rfl rfl ?_
      refine ab_fin.q_rA (b := 2190) (ix := 935) (ci := 24) (k := 109) (pc' := 52) (by decide +kernel) rfl (c_rA (F2.s s0_0) rfl (rM_109 F2)) rfl ?_
      refine ab_fin.s1i (i := .iconst 0) (k := 1) (pc' := 53) (n := 0) (by decide +kernel) rfl (by decide +kernel) rfl ?_
      refine ab_fin.q_eB (x := (τ1.i 2190 0)) (pc' := 54) (by decide +kernel) (c_eB3' (F2.s s0_2190) (show ib (0 : Int32) 256 by decide +kernel) (by decide +kernel)) rfl ?_
      refine ab_fin.br (c := (τ1.i 2190 0) = 0) (i := .ifCond .eq 5) (off := 5) (t := 59) (pc' := 57) (r := []) (by decide +kernel) rfl (by decide +kernel) rfl (fun q => ?_) (fun q => ?_)
      · replace w := w.1 q
        refine ab_fin.s2 (i := .aload_n 1) (k := 1) (pc' := 60) (lv' := [(0, .ref 0), (1, .ref l1), (2, .int l2)]) (st' := [.ref l1]) (by decide +kernel) rfl rfl ?_
        obtain ⟨e4, w⟩ := w
        refine ab_fin.q_rI (x := (τ1.i l1 2)) (ix := 306) (ci := 14) (k := 2) (pc' := 63) (by decide +kernel) rfl (c_rI (F2.s e4) rfl) rfl ?_
        refine ab_fin.br (c := (τ1.i l1 2) = 0) (i := .ifCond .eq 5) (off := 5) (t := 68) (pc' := 66) (r := []) (by decide +kernel) rfl (by decide +kernel) rfl (fun q => ?_) (fun q => ?_)
        · replace w := w.1 q
          refine ab_fin.s1i (i := .iconst 0) (k := 1) (pc' := 69) (n := 0) (by decide +kernel) rfl (by decide +kernel) rfl ?_
          refine ab_fin.s2 (i := .istore_n 3) (k := 1) (pc' := 70) (lv' := [(3, .int 0), (0, .ref 0), (1, .ref l1), (2, .int l2)]) (st' := []) (by decide +kernel) rfl rfl ?_
          exact ab_fin.lv ⟨(List.forall_mem_cons.mpr ⟨(List.Mem.tail _ (List.Mem.head _)), (List.forall_mem_cons.mpr ⟨(List.Mem.tail _ (List.Mem.tail _ (List.Mem.head _))), (List.forall_mem_cons.mpr ⟨(List.Mem.head _), (fun _ h => absurd h List.not_mem_nil)⟩)⟩)⟩), (show ([3, 0, 1, 2] : List Nat).Nodup from by decide)⟩ w
        · replace w := w.2 q
          refine ab_fin.s1i (i := .iconst 0) (k := 1) (pc' := 67) (n := 0) (by decide +kernel) rfl (by decide +kernel) rfl ?_
          exact ab_fin.q_ret (i := .ireturn) (k := 1) (v := some (.int 0)) (by decide +kernel) rfl F2 w
      · replace w := w.2 q
        refine ab_fin.s1i (i := .iconst 1) (k := 1) (pc' := 58) (n := 1) (by decide +kernel) rfl (by decide +kernel) rfl ?_
        exact ab_fin.q_ret (i := .ireturn) (k := 1) (v := some (.int 1)) (by decide +kernel) rfl F2 w
  · replace w := w.2 (Decidable.of_not_not q)
    refine ab_fin.s1i (i := .iconst 1) (k := 1) (pc' := 38) (n := 1) (by decide +kernel) rfl (by decide +kernel) rfl ?_
    exact ab_fin.q_ret (i := .ireturn) (k := 1) (v := some (.int 1)) (by decide +kernel) rfl F w
theorem S_X23_bad_70 {Z : zT} {d : Nat} {σ : Sg} {l1 : Nat} {l3 : Int32} {K : kS} (F : FX ΦR σ.sh σ.r) (p_l1 : sh0R[l1]? = some (Sh.obj 14)) (w : (((1 : Int32) <<< ((σ.i 0 107) &&& 31)) ≤ l3 → K (.inl (some (.int 0))) σ) ∧ (¬ ((1 : Int32) <<< ((σ.i 0 107) &&& 31)) ≤ l3 → ib l3 256 ∧ (((σ.i 2190 l3.toNatClampNeg) = 0 → B_X23_bad_70 Z (d + 1) σ l1 (l3 + 1) K) ∧ (¬ (σ.i 2190 l3.toNatClampNeg) = 0 → B_X23_isSeveral_0 Z d σ l3 l1 (yI K fun v4 τ2 => (v4 = 0 → B_X23_bad_70 Z (d + 1) τ2 l1 (l3 + 1) K) ∧ (¬ v4 = 0 → K (.inl (some (.int 2))) τ2)))))) : B_X23_bad_70 Z (d + 1) σ l1 l3 K := by
  unfold B_X23_bad_70
  refine ab_fin.s2 (i := .iload_n 3) (k := 1) (pc' := 71) (lv' := [(0, .ref 0), (1, .ref l1), (3, .int l3)]) (st' := [.int l3]) (by decide +kernel) rfl rfl ?_
  refine ab_fin.s1i (i := .iconst 1) (k := 1) (pc' := 72) (n := 1) (by decide +kernel) rfl (by decide +kernel) rfl ?_
  refine ab_fin.s2 (i := .aload_n 0) (k := 1) (pc' := 73) (lv' := [(0, .ref 0), (1, .ref l1), (3, .int l3)]) (st' := [.ref 0, .int 1, .int l3]) (by decide +kernel) rfl rfl ?_
  refine ab_fin.q_rI (x := (σ.i 0 107)) (ix := 919) (ci := 24) (k := 107) (pc' := 76) (by decide +kernel) rfl (c_rI (F.s s0_0) rfl) rfl ?_
  refine ab_fin.s1 (i := .ishl) (k := 1) (pc' := 77) (st' := [.int ((1 : Int32) <<< ((σ.i 0 107) &&& 31)), .int l3]) (by decide +kernel) rfl rfl ?_
  refine ab_fin.br (c := ((1 : Int32) <<< ((σ.i 0 107) &&& 31)) ≤ l3) (i := .if_icmp .ge 29) (off := 29) (t := 106) (pc' := 80) (r := []) (by decide +kernel) rfl (by decide +kernel) rfl (fun q => ?_) (fun q => ?_)
  · replace w := w.1 q
    refine ab_fin.s1i (i := .iconst 0) (k := 1) (pc' := 107) (n := 0) (by decide +kernel) rfl (by decide +kernel) rfl ?_
    exact ab_fin.q_ret (i := .ireturn) (k := 1) (v := some (.int 0)) (by decide +kernel) rfl F w
  · replace w := w.2 q
    refine ab_fin.s2 (i := .aload_n 0) (k := 1) (pc' := 81) (lv' := [(0, .ref 0), (1, .ref l1), (3, .int l3)]) (st' := [.ref 0]) (by decide +kernel) rfl rfl ?_
    refine ab_fin.q_rA (b := 2190) (ix := 935) (ci := 24) (k := 109) (pc' := 84) (by decide +kernel) rfl (c_rA (F.s s0_0) rfl (rM_109 F)) rfl ?_
    refine ab_fin.s2 (i := .iload_n 3) (k := 1) (pc' := 85) (lv' := [(0, .ref 0), (1, .ref l1), (3, .int l3)]) (st' := [.int l3, .ref 2190]) (by decide +kernel) rfl rfl ?_
    obtain ⟨e1, w⟩ := w
    refine ab_fin.q_eB (x := (σ.i 2190 l3.toNatClampNeg)) (pc' := 86) (by decide +kernel) (c_eB3' (F.s s0_2190) e1 rfl) rfl ?_
    refine ab_fin.br (c := (σ.i 2190 l3.toNatClampNeg) = 0) (i := .ifCond .eq 14) (off := 14) (t := 100) (pc' := 89) (r := []) (by decide +kernel) rfl (by decide +kernel) rfl (fun q => ?_) (fun q => ?_)
    · replace w := w.1 q
      refine ab_fin.q_inc (n := 3) (c := 1) (pc' := 103) (lv' := [(3, .int (l3 + 1)), (0, .ref 0), (1, .ref l1)]) (by decide +kernel) (by decide) rfl rfl rfl rfl ?_
      refine ab_fin.s3 (i := .goto (-33)) (k := 3) (t := 70) (st' := []) (by decide +kernel) (ab_gto (by decide +kernel)) ?_
      exact ab_fin.lv ⟨(List.forall_mem_cons.mpr ⟨(List.Mem.tail _ (List.Mem.head _)), (List.forall_mem_cons.mpr ⟨(List.Mem.tail _ (List.Mem.tail _ (List.Mem.head _))), (List.forall_mem_cons.mpr ⟨(List.Mem.head _), (fun _ h => absurd h List.not_mem_nil)⟩)⟩)⟩), (show ([3, 0, 1] : List Nat).Nodup from by decide)⟩ w
    · replace w := w.2 q
      refine ab_fin.s2 (i := .aload_n 0) (k := 1) (pc' := 90) (lv' := [(0, .ref 0), (1, .ref l1), (3, .int l3)]) (st' := [.ref 0]) (by decide +kernel) rfl rfl ?_
      refine ab_fin.s2 (i := .iload_n 3) (k := 1) (pc' := 91) (lv' := [(0, .ref 0), (1, .ref l1), (3, .int l3)]) (st' := [.int l3, .ref 0]) (by decide +kernel) rfl rfl ?_
      refine ab_fin.s2 (i := .aload_n 1) (k := 1) (pc' := 92) (lv' := [(0, .ref 0), (1, .ref l1), (3, .int l3)]) (st' := [.ref l1, .int l3, .ref 0]) (by decide +kernel) rfl rfl ?_
      refine ab_fin.q_yI (i := .invokevirtual 938) (k := 3) (y := 5988) (As := [.ref 0, .int l3, .ref l1]) (rest := []) (M' := (mX23_isSeveral, [])) (lv2 := [(0, .ref 0), (1, .int l3), (2, .ref l1)]) (pc' := 95) (X := K) (by decide +kernel) (ab_cv rfl rfl (conc_get (σ := σ) (F.s s0_0)) ⟨(Nat.le_of_ble_eq_true rfl), (Nat.le_of_ble_eq_true rfl)⟩ rfl) rfl (Nat.le_of_ble_eq_true rfl) rfl rfl (hY_no fun E => rfl) w (fun v4 τ2 F3 w => ?_)
      refine ab_fin.br (c := v4 = 0) (i := .ifCond .eq 5) (off := 5) (t := 100) (pc' := 98) (r := []) (by decide +kernel) rfl (by decide +kernel) rfl (fun q => ?_) (fun q => ?_)
      · replace w := w.1 q
        refine ab_fin.q_inc (n := 3) (c := 1) (pc' := 103) (lv' := [(3, .int (l3 + 1)), (0, .ref 0), (1, .ref l1)]) (by decide +kernel) (by decide) rfl rfl rfl rfl ?_
        refine ab_fin.s3 (i := .goto (-33)) (k := 3) (t := 70) (st' := []) (by decide +kernel) (ab_gto (by decide +kernel)) ?_
        exact ab_fin.lv ⟨(List.forall_mem_cons.mpr ⟨(List.Mem.tail _ (List.Mem.head _)), (List.forall_mem_cons.mpr ⟨(List.Mem.tail _ (List.Mem.tail _ (List.Mem.head _))), (List.forall_mem_cons.mpr ⟨(List.Mem.head _), (fun _ h => absurd h List.not_mem_nil)⟩)⟩)⟩), (show ([3, 0, 1] : List Nat).Nodup from by decide)⟩ w
      · replace w := w.2 q
        refine ab_fin.s1i (i := .iconst 2) (k := 1) (pc' := 99) (n := 2) (by decide +kernel) rfl (by decide +kernel) rfl ?_
        exact ab_fin.q_ret (i := .ireturn) (k := 1) (v := some (.int 2)) (by decide +kernel) rfl F3 w
theorem S_X23_lookAt_0 {Z : zT} {d : Nat} {σ : Sg} {l1 : Nat} {K : kS} (F : FX ΦR σ.sh σ.r) (w : (¬ (σ.i 0 106) = (σ.i 0 107) → B_X23_lookAt_19 Z (d + 1) σ l1 0 0 K) ∧ ((σ.i 0 106) = (σ.i 0 107) → B_X23_lookAt_19 Z (d + 1) σ l1 1 0 K)) : B_X23_lookAt_0 Z (d + 1) σ l1 K := by
  unfold B_X23_lookAt_0
  refine ab_fin.s2 (i := .aload_n 0) (k := 1) (pc' := 1) (lv' := [(0, .ref 0), (1, .ref l1)]) (st' := [.ref 0]) (by decide +kernel) rfl rfl ?_
  refine ab_fin.q_rI (x := (σ.i 0 106)) (ix := 896) (ci := 24) (k := 106) (pc' := 4) (by decide +kernel) rfl (c_rI (F.s s0_0) rfl) rfl ?_
  refine ab_fin.s2 (i := .aload_n 0) (k := 1) (pc' := 5) (lv' := [(0, .ref 0), (1, .ref l1)]) (st' := [.ref 0, .int (σ.i 0 106)]) (by decide +kernel) rfl rfl ?_
  refine ab_fin.q_rI (x := (σ.i 0 107)) (ix := 919) (ci := 24) (k := 107) (pc' := 8) (by decide +kernel) rfl (c_rI (F.s s0_0) rfl) rfl ?_
  refine ab_fin.br (c := ¬ (σ.i 0 106) = (σ.i 0 107)) (i := .if_icmp .ne 7) (off := 7) (t := 15) (pc' := 11) (r := []) (by decide +kernel) rfl (by decide +kernel) rfl (fun q => ?_) (fun q => ?_)
  · replace w := w.1 q
    refine ab_fin.s1i (i := .iconst 0) (k := 1) (pc' := 16) (n := 0) (by decide +kernel) rfl (by decide +kernel) rfl ?_
    refine ab_fin.s2 (i := .istore_n 2) (k := 1) (pc' := 17) (lv' := [(2, .int 0), (0, .ref 0), (1, .ref l1)]) (st' := []) (by decide +kernel) rfl rfl ?_
    refine ab_fin.s1i (i := .iconst 0) (k := 1) (pc' := 18) (n := 0) (by decide +kernel) rfl (by decide +kernel) rfl ?_
    refine ab_fin.s2 (i := .istore_n 3) (k := 1) (pc' := 19) (lv' := [(3, .int 0), (2, .int 0), (0, .ref 0), (1, .ref l1)]) (st' := []) (by decide +kernel) rfl rfl ?_
    exact ab_fin.lv ⟨(List.forall_mem_cons.mpr ⟨(List.Mem.tail _ (List.Mem.tail _ (List.Mem.head _))), (List.forall_mem_cons.mpr ⟨(List.Mem.tail _ (List.Mem.tail _ (List.Mem.tail _ (List.Mem.head _)))), (List.forall_mem_cons.mpr ⟨(List.Mem.tail _ (List.Mem.head _)), (List.forall_mem_cons.mpr ⟨(List.Mem.head _), (fun _ h => absurd h List.not_mem_nil)⟩)⟩)⟩)⟩), (show ([3, 2, 0, 1] : List Nat).Nodup from by decide)⟩ w
  · replace w := w.2 (Decidable.of_not_not q)
    refine ab_fin.s1i (i := .iconst 1) (k := 1) (pc' := 12) (n := 1) (by decide +kernel) rfl (by decide +kernel) rfl ?_
    refine ab_fin.s3 (i := .goto 4) (k := 3) (t := 16) (st' := [.int 1]) (by decide +kernel) (ab_gto (by decide +kernel)) ?_
    refine ab_fin.s2 (i := .istore_n 2) (k := 1) (pc' := 17) (lv' := [(2, .int 1), (0, .ref 0), (1, .ref l1)]) (st' := []) (by decide +kernel) rfl rfl ?_
    refine ab_fin.s1i (i := .iconst 0) (k := 1) (pc' := 18) (n := 0) (by decide +kernel) rfl (by decide +kernel) rfl ?_
    refine ab_fin.s2 (i := .istore_n 3) (k := 1) (pc' := 19) (lv' := [(3, .int 0), (2, .int 1), (0, .ref 0), (1, .ref l1)]) (st' := []) (by decide +kernel) rfl rfl ?_
    exact ab_fin.lv ⟨(List.forall_mem_cons.mpr ⟨(List.Mem.tail _ (List.Mem.tail _ (List.Mem.head _))), (List.forall_mem_cons.mpr ⟨(List.Mem.tail _ (List.Mem.tail _ (List.Mem.tail _ (List.Mem.head _)))), (List.forall_mem_cons.mpr ⟨(List.Mem.tail _ (List.Mem.head _)), (List.forall_mem_cons.mpr ⟨(List.Mem.head _), (fun _ h => absurd h List.not_mem_nil)⟩)⟩)⟩)⟩), (show ([3, 2, 0, 1] : List Nat).Nodup from by decide)⟩ w
theorem S_X23_lookAt_19 {Z : zT} {d : Nat} {σ : Sg} {l1 : Nat} {l2 : Int32} {l3 : Int32} {K : kS} (F : FX ΦR σ.sh σ.r) (w : (l2 = 0 → B_X23_lookAt_63 Z (d + 1) σ l1 l2 0 0 K) ∧ (¬ l2 = 0 → ((σ.i 0 107) ≤ l3 → B_X23_lookAt_63 Z (d + 1) σ l1 l2 0 0 K) ∧ (¬ (σ.i 0 107) ≤ l3 → ib l3 120 ∧ (ib l3 120 ∧ ((¬ (σ.i 2187 l3.toNatClampNeg) = (σ.i 2189 l3.toNatClampNeg) → B_X23_lookAt_19 Z (d + 1) σ l1 0 (l3 + 1) K) ∧ ((σ.i 2187 l3.toNatClampNeg) = (σ.i 2189 l3.toNatClampNeg) → B_X23_lookAt_19 Z (d + 1) σ l1 1 (l3 + 1) K)))))) : B_X23_lookAt_19 Z (d + 1) σ l1 l2 l3 K := by
  unfold B_X23_lookAt_19
  refine ab_fin.s2 (i := .iload_n 2) (k := 1) (pc' := 20) (lv' := [(0, .ref 0), (1, .ref l1), (2, .int l2), (3, .int l3)]) (st' := [.int l2]) (by decide +kernel) rfl rfl ?_
  refine ab_fin.br (c := l2 = 0) (i := .ifCond .eq 38) (off := 38) (t := 58) (pc' := 23) (r := []) (by decide +kernel) rfl (by decide +kernel) rfl (fun q => ?_) (fun q => ?_)
  · replace w := w.1 q
    refine ab_fin.s1i (i := .iconst 0) (k := 1) (pc' := 59) (n := 0) (by decide +kernel) rfl (by decide +kernel) rfl ?_
    refine ab_fin.s2 (i := .istore_n 3) (k := 1) (pc' := 60) (lv' := [(3, .int 0), (0, .ref 0), (1, .ref l1), (2, .int l2)]) (st' := []) (by decide +kernel) rfl rfl ?_
    refine ab_fin.s1i (i := .iconst 0) (k := 1) (pc' := 61) (n := 0) (by decide +kernel) rfl (by decide +kernel) rfl ?_
    refine ab_fin.s2 (i := .istore 4) (k := 2) (pc' := 63) (lv' := [(4, .int 0), (3, .int 0), (0, .ref 0), (1, .ref l1), (2, .int l2)]) (st' := []) (by decide +kernel) rfl rfl ?_
    exact ab_fin.lv ⟨(List.forall_mem_cons.mpr ⟨(List.Mem.tail _ (List.Mem.tail _ (List.Mem.head _))), (List.forall_mem_cons.mpr ⟨(List.Mem.tail _ (List.Mem.tail _ (List.Mem.tail _ (List.Mem.head _)))), (List.forall_mem_cons.mpr ⟨(List.Mem.tail _ (List.Mem.tail _ (List.Mem.tail _ (List.Mem.tail _ (List.Mem.head _))))), (List.forall_mem_cons.mpr ⟨(List.Mem.tail _ (List.Mem.head _)), (List.forall_mem_cons.mpr ⟨(List.Mem.head _), (fun _ h => absurd h List.not_mem_nil)⟩)⟩)⟩)⟩)⟩), (show ([4, 3, 0, 1, 2] : List Nat).Nodup from by decide)⟩ w
  · replace w := w.2 q
    refine ab_fin.s2 (i := .iload_n 3) (k := 1) (pc' := 24) (lv' := [(0, .ref 0), (1, .ref l1), (2, .int l2), (3, .int l3)]) (st' := [.int l3]) (by decide +kernel) rfl rfl ?_
    refine ab_fin.s2 (i := .aload_n 0) (k := 1) (pc' := 25) (lv' := [(0, .ref 0), (1, .ref l1), (2, .int l2), (3, .int l3)]) (st' := [.ref 0, .int l3]) (by decide +kernel) rfl rfl ?_
    refine ab_fin.q_rI (x := (σ.i 0 107)) (ix := 919) (ci := 24) (k := 107) (pc' := 28) (by decide +kernel) rfl (c_rI (F.s s0_0) rfl) rfl ?_
    refine ab_fin.br (c := (σ.i 0 107) ≤ l3) (i := .if_icmp .ge 30) (off := 30) (t := 58) (pc' := 31) (r := []) (by decide +kernel) rfl (by decide +kernel) rfl (fun q => ?_) (fun q => ?_)
    · replace w := w.1 q
      refine ab_fin.s1i (i := .iconst 0) (k := 1) (pc' := 59) (n := 0) (by decide +kernel) rfl (by decide +kernel) rfl ?_
      refine ab_fin.s2 (i := .istore_n 3) (k := 1) (pc' := 60) (lv' := [(3, .int 0), (0, .ref 0), (1, .ref l1), (2, .int l2)]) (st' := []) (by decide +kernel) rfl rfl ?_
      refine ab_fin.s1i (i := .iconst 0) (k := 1) (pc' := 61) (n := 0) (by decide +kernel) rfl (by decide +kernel) rfl ?_
      refine ab_fin.s2 (i := .istore 4) (k := 2) (pc' := 63) (lv' := [(4, .int 0), (3, .int 0), (0, .ref 0), (1, .ref l1), (2, .int l2)]) (st' := []) (by decide +kernel) rfl rfl ?_
      exact ab_fin.lv ⟨(List.forall_mem_cons.mpr ⟨(List.Mem.tail _ (List.Mem.tail _ (List.Mem.head _))), (List.forall_mem_cons.mpr ⟨(List.Mem.tail _ (List.Mem.tail _ (List.Mem.tail _ (List.Mem.head _)))), (List.forall_mem_cons.mpr ⟨(List.Mem.tail _ (List.Mem.tail _ (List.Mem.tail _ (List.Mem.tail _ (List.Mem.head _))))), (List.forall_mem_cons.mpr ⟨(List.Mem.tail _ (List.Mem.head _)), (List.forall_mem_cons.mpr ⟨(List.Mem.head _), (fun _ h => absurd h List.not_mem_nil)⟩)⟩)⟩)⟩)⟩), (show ([4, 3, 0, 1, 2] : List Nat).Nodup from by decide)⟩ w
    · replace w := w.2 q
      refine ab_fin.s2 (i := .aload_n 0) (k := 1) (pc' := 32) (lv' := [(0, .ref 0), (1, .ref l1), (2, .int l2), (3, .int l3)]) (st' := [.ref 0]) (by decide +kernel) rfl rfl ?_
      refine ab_fin.q_rA (b := 2187) (ix := 942) (ci := 24) (k := 103) (pc' := 35) (by decide +kernel) rfl (c_rA (F.s s0_0) rfl (rM_103 F)) rfl ?_
      refine ab_fin.s2 (i := .iload_n 3) (k := 1) (pc' := 36) (lv' := [(0, .ref 0), (1, .ref l1), (2, .int l2), (3, .int l3)]) (st' := [.int l3, .ref 2187]) (by decide +kernel) rfl rfl ?_
      obtain ⟨e1, w⟩ := w
      refine ab_fin.q_eI (x := (σ.i 2187 l3.toNatClampNeg)) (pc' := 37) (by decide +kernel) (c_eI' (F.s s0_2187) e1 rfl) rfl ?_
      refine ab_fin.s2 (i := .aload_n 0) (k := 1) (pc' := 38) (lv' := [(0, .ref 0), (1, .ref l1), (2, .int l2), (3, .int l3)]) (st' := [.ref 0, .int (σ.i 2187 l3.toNatClampNeg)]) (by decide +kernel) rfl rfl ?_
      refine ab_fin.q_rA (b := 2189) (ix := 928) (ci := 24) (k := 105) (pc' := 41) (by decide +kernel) rfl (c_rA (F.s s0_0) rfl (rM_105 F)) rfl ?_
      refine ab_fin.s2 (i := .iload_n 3) (k := 1) (pc' := 42) (lv' := [(0, .ref 0), (1, .ref l1), (2, .int l2), (3, .int l3)]) (st' := [.int l3, .ref 2189, .int (σ.i 2187 l3.toNatClampNeg)]) (by decide +kernel) rfl rfl ?_
      obtain ⟨e2, w⟩ := w
      refine ab_fin.q_eI (x := (σ.i 2189 l3.toNatClampNeg)) (pc' := 43) (by decide +kernel) (c_eI' (F.s s0_2189) e2 rfl) rfl ?_
      refine ab_fin.br (c := ¬ (σ.i 2187 l3.toNatClampNeg) = (σ.i 2189 l3.toNatClampNeg)) (i := .if_icmp .ne 7) (off := 7) (t := 50) (pc' := 46) (r := []) (by decide +kernel) rfl (by decide +kernel) rfl (fun q => ?_) (fun q => ?_)
      · replace w := w.1 q
        refine ab_fin.s1i (i := .iconst 0) (k := 1) (pc' := 51) (n := 0) (by decide +kernel) rfl (by decide +kernel) rfl ?_
        refine ab_fin.s2 (i := .istore_n 2) (k := 1) (pc' := 52) (lv' := [(2, .int 0), (0, .ref 0), (1, .ref l1), (3, .int l3)]) (st' := []) (by decide +kernel) rfl rfl ?_
        refine ab_fin.q_inc (n := 3) (c := 1) (pc' := 55) (lv' := [(3, .int (l3 + 1)), (2, .int 0), (0, .ref 0), (1, .ref l1)]) (by decide +kernel) (by decide) rfl rfl rfl rfl ?_
        refine ab_fin.s3 (i := .goto (-36)) (k := 3) (t := 19) (st' := []) (by decide +kernel) (ab_gto (by decide +kernel)) ?_
        exact ab_fin.lv ⟨(List.forall_mem_cons.mpr ⟨(List.Mem.tail _ (List.Mem.tail _ (List.Mem.head _))), (List.forall_mem_cons.mpr ⟨(List.Mem.tail _ (List.Mem.tail _ (List.Mem.tail _ (List.Mem.head _)))), (List.forall_mem_cons.mpr ⟨(List.Mem.tail _ (List.Mem.head _)), (List.forall_mem_cons.mpr ⟨(List.Mem.head _), (fun _ h => absurd h List.not_mem_nil)⟩)⟩)⟩)⟩), (show ([3, 2, 0, 1] : List Nat).Nodup from by decide)⟩ w
      · replace w := w.2 (Decidable.of_not_not q)
        refine ab_fin.s1i (i := .iconst 1) (k := 1) (pc' := 47) (n := 1) (by decide +kernel) rfl (by decide +kernel) rfl ?_
        refine ab_fin.s3 (i := .goto 4) (k := 3) (t := 51) (st' := [.int 1]) (by decide +kernel) (ab_gto (by decide +kernel)) ?_
        refine ab_fin.s2 (i := .istore_n 2) (k := 1) (pc' := 52) (lv' := [(2, .int 1), (0, .ref 0), (1, .ref l1), (3, .int l3)]) (st' := []) (by decide +kernel) rfl rfl ?_
        refine ab_fin.q_inc (n := 3) (c := 1) (pc' := 55) (lv' := [(3, .int (l3 + 1)), (2, .int 1), (0, .ref 0), (1, .ref l1)]) (by decide +kernel) (by decide) rfl rfl rfl rfl ?_
        refine ab_fin.s3 (i := .goto (-36)) (k := 3) (t := 19) (st' := []) (by decide +kernel) (ab_gto (by decide +kernel)) ?_
        exact ab_fin.lv ⟨(List.forall_mem_cons.mpr ⟨(List.Mem.tail _ (List.Mem.tail _ (List.Mem.head _))), (List.forall_mem_cons.mpr ⟨(List.Mem.tail _ (List.Mem.tail _ (List.Mem.tail _ (List.Mem.head _)))), (List.forall_mem_cons.mpr ⟨(List.Mem.tail _ (List.Mem.head _)), (List.forall_mem_cons.mpr ⟨(List.Mem.head _), (fun _ h => absurd h List.not_mem_nil)⟩)⟩)⟩)⟩), (show ([3, 2, 0, 1] : List Nat).Nodup from by decide)⟩ w
theorem S_X23_lookAt_63 {Z : zT} {d : Nat} {σ : Sg} {l1 : Nat} {l2 : Int32} {l3 : Int32} {l4 : Int32} {K : kS} (F : FX ΦR σ.sh σ.r) (w : ((σ.i 0 107) ≤ l4 → B_X23_lookAt_130 Z (d + 1) σ l1 l2 l3 0 K) ∧ (¬ (σ.i 0 107) ≤ l4 → (¬ l3 = 0 → B_X23_lookAt_63 Z (d + 1) σ l1 l2 1 (l4 + 1) K) ∧ (l3 = 0 → ib l4 120 ∧ (ib (σ.i 2189 l4.toNatClampNeg) 121 ∧ (((σ.r (2497 + 4 * ((σ.i 2189 l4.toNatClampNeg).toNatClampNeg)) 8) = Rf.nul → B_X23_lookAt_63 Z (d + 1) σ l1 l2 0 (l4 + 1) K) ∧ (¬ (σ.r (2497 + 4 * ((σ.i 2189 l4.toNatClampNeg).toNatClampNeg)) 8) = Rf.nul → ib l4 120 ∧ (ib (σ.i 2189 l4.toNatClampNeg) 121 ∧ (B_X23_asksKinds_0 Z d σ (σ.r (2497 + 4 * ((σ.i 2189 l4.toNatClampNeg).toNatClampNeg)) 8) (yI K fun v7 τ5 => (v7 = 0 → B_X23_lookAt_63 Z (d + 1) τ5 l1 l2 0 (l4 + 1) K) ∧ (¬ v7 = 0 → B_X23_lookAt_63 Z (d + 1) τ5 l1 l2 1 (l4 + 1) K)))))))))) : B_X23_lookAt_63 Z (d + 1) σ l1 l2 l3 l4 K := by
  unfold B_X23_lookAt_63
  refine ab_fin.s2 (i := .iload 4) (k := 2) (pc' := 65) (lv' := [(0, .ref 0), (1, .ref l1), (2, .int l2), (3, .int l3), (4, .int l4)]) (st' := [.int l4]) (by decide +kernel) rfl rfl ?_
  refine ab_fin.s2 (i := .aload_n 0) (k := 1) (pc' := 66) (lv' := [(0, .ref 0), (1, .ref l1), (2, .int l2), (3, .int l3), (4, .int l4)]) (st' := [.ref 0, .int l4]) (by decide +kernel) rfl rfl ?_
  refine ab_fin.q_rI (x := (σ.i 0 107)) (ix := 919) (ci := 24) (k := 107) (pc' := 69) (by decide +kernel) rfl (c_rI (F.s s0_0) rfl) rfl ?_
  refine ab_fin.br (c := (σ.i 0 107) ≤ l4) (i := .if_icmp .ge 58) (off := 58) (t := 127) (pc' := 72) (r := []) (by decide +kernel) rfl (by decide +kernel) rfl (fun q => ?_) (fun q => ?_)
  · replace w := w.1 q
    refine ab_fin.s1i (i := .iconst 0) (k := 1) (pc' := 128) (n := 0) (by decide +kernel) rfl (by decide +kernel) rfl ?_
    refine ab_fin.s2 (i := .istore 4) (k := 2) (pc' := 130) (lv' := [(4, .int 0), (0, .ref 0), (1, .ref l1), (2, .int l2), (3, .int l3)]) (st' := []) (by decide +kernel) rfl rfl ?_
    exact ab_fin.lv ⟨(List.forall_mem_cons.mpr ⟨(List.Mem.tail _ (List.Mem.head _)), (List.forall_mem_cons.mpr ⟨(List.Mem.tail _ (List.Mem.tail _ (List.Mem.head _))), (List.forall_mem_cons.mpr ⟨(List.Mem.tail _ (List.Mem.tail _ (List.Mem.tail _ (List.Mem.head _)))), (List.forall_mem_cons.mpr ⟨(List.Mem.tail _ (List.Mem.tail _ (List.Mem.tail _ (List.Mem.tail _ (List.Mem.head _))))), (List.forall_mem_cons.mpr ⟨(List.Mem.head _), (fun _ h => absurd h List.not_mem_nil)⟩)⟩)⟩)⟩)⟩), (show ([4, 0, 1, 2, 3] : List Nat).Nodup from by decide)⟩ w
  · replace w := w.2 q
    refine ab_fin.s2 (i := .iload_n 3) (k := 1) (pc' := 73) (lv' := [(0, .ref 0), (1, .ref l1), (2, .int l2), (3, .int l3), (4, .int l4)]) (st' := [.int l3]) (by decide +kernel) rfl rfl ?_
    refine ab_fin.br (c := ¬ l3 = 0) (i := .ifCond .ne 42) (off := 42) (t := 115) (pc' := 76) (r := []) (by decide +kernel) rfl (by decide +kernel) rfl (fun q => ?_) (fun q => ?_)
    · replace w := w.1 q
      refine ab_fin.s1i (i := .iconst 1) (k := 1) (pc' := 116) (n := 1) (by decide +kernel) rfl (by decide +kernel) rfl ?_
      refine ab_fin.s3 (i := .goto 4) (k := 3) (t := 120) (st' := [.int 1]) (by decide +kernel) (ab_gto (by decide +kernel)) ?_
      refine ab_fin.s2 (i := .istore_n 3) (k := 1) (pc' := 121) (lv' := [(3, .int 1), (0, .ref 0), (1, .ref l1), (2, .int l2), (4, .int l4)]) (st' := []) (by decide +kernel) rfl rfl ?_
      refine ab_fin.q_inc (n := 4) (c := 1) (pc' := 124) (lv' := [(4, .int (l4 + 1)), (3, .int 1), (0, .ref 0), (1, .ref l1), (2, .int l2)]) (by decide +kernel) (by decide) rfl rfl rfl rfl ?_
      refine ab_fin.s3 (i := .goto (-61)) (k := 3) (t := 63) (st' := []) (by decide +kernel) (ab_gto (by decide +kernel)) ?_
      exact ab_fin.lv ⟨(List.forall_mem_cons.mpr ⟨(List.Mem.tail _ (List.Mem.tail _ (List.Mem.head _))), (List.forall_mem_cons.mpr ⟨(List.Mem.tail _ (List.Mem.tail _ (List.Mem.tail _ (List.Mem.head _)))), (List.forall_mem_cons.mpr ⟨(List.Mem.tail _ (List.Mem.tail _ (List.Mem.tail _ (List.Mem.tail _ (List.Mem.head _))))), (List.forall_mem_cons.mpr ⟨(List.Mem.tail _ (List.Mem.head _)), (List.forall_mem_cons.mpr ⟨(List.Mem.head _), (fun _ h => absurd h List.not_mem_nil)⟩)⟩)⟩)⟩)⟩), (show ([4, 3, 0, 1, 2] : List Nat).Nodup from by decide)⟩ w
    · replace w := w.2 (Decidable.of_not_not q)
      refine ab_fin.s2 (i := .aload_n 0) (k := 1) (pc' := 77) (lv' := [(0, .ref 0), (1, .ref l1), (2, .int l2), (3, .int l3), (4, .int l4)]) (st' := [.ref 0]) (by decide +kernel) rfl rfl ?_
      refine ab_fin.q_rA (b := 3) (ix := 315) (ci := 24) (k := 2) (pc' := 80) (by decide +kernel) rfl (c_rA (F.s s0_0) rfl (rM_2 F)) rfl ?_
      refine ab_fin.s2 (i := .aload_n 0) (k := 1) (pc' := 81) (lv' := [(0, .ref 0), (1, .ref l1), (2, .int l2), (3, .int l3), (4, .int l4)]) (st' := [.ref 0, .ref 3]) (by decide +kernel) rfl rfl ?_
      refine ab_fin.q_rA (b := 2189) (ix := 928) (ci := 24) (k := 105) (pc' := 84) (by decide +kernel) rfl (c_rA (F.s s0_0) rfl (rM_105 F)) rfl ?_
      refine ab_fin.s2 (i := .iload 4) (k := 2) (pc' := 86) (lv' := [(0, .ref 0), (1, .ref l1), (2, .int l2), (3, .int l3), (4, .int l4)]) (st' := [.int l4, .ref 2189, .ref 3]) (by decide +kernel) rfl rfl ?_
      obtain ⟨e1, w⟩ := w
      refine ab_fin.q_eI (x := (σ.i 2189 l4.toNatClampNeg)) (pc' := 87) (by decide +kernel) (c_eI' (F.s s0_2189) e1 rfl) rfl ?_
      obtain ⟨e2, w⟩ := w
      refine ab_fin.q_eA (b := (2497 + 4 * ((σ.i 2189 l4.toNatClampNeg).toNatClampNeg))) (pc' := 88) (by decide +kernel) (c_eA' (F.s s0_3) (by decide) rfl e2 rfl (rE_6 F s0_3 (by decide))) rfl ?_
      refine ab_fin.q_rV (v := rv (σ.r (2497 + 4 * ((σ.i 2189 l4.toNatClampNeg).toNatClampNeg)) 8)) (ix := 335) (ci := 19) (k := 8) (pc' := 91) (by decide +kernel) rfl (c_rV (F.s (kE_3 e2.2)) rfl) rfl ?_
      refine ab_fin.q_nul (off := 28) (t := 119) (pc' := 94) (by decide +kernel) (oR_rv _) (by decide +kernel) rfl (fun q => ?_) (fun q => ?_)
      · replace w := w.1 (rv_null.mp q)
        refine ab_fin.s1i (i := .iconst 0) (k := 1) (pc' := 120) (n := 0) (by decide +kernel) rfl (by decide +kernel) rfl ?_
        refine ab_fin.s2 (i := .istore_n 3) (k := 1) (pc' := 121) (lv' := [(3, .int 0), (0, .ref 0), (1, .ref l1), (2, .int l2), (4, .int l4)]) (st' := []) (by decide +kernel) rfl rfl ?_
        refine ab_fin.q_inc (n := 4) (c := 1) (pc' := 124) (lv' := [(4, .int (l4 + 1)), (3, .int 0), (0, .ref 0), (1, .ref l1), (2, .int l2)]) (by decide +kernel) (by decide) rfl rfl rfl rfl ?_
        refine ab_fin.s3 (i := .goto (-61)) (k := 3) (t := 63) (st' := []) (by decide +kernel) (ab_gto (by decide +kernel)) ?_
        exact ab_fin.lv ⟨(List.forall_mem_cons.mpr ⟨(List.Mem.tail _ (List.Mem.tail _ (List.Mem.head _))), (List.forall_mem_cons.mpr ⟨(List.Mem.tail _ (List.Mem.tail _ (List.Mem.tail _ (List.Mem.head _)))), (List.forall_mem_cons.mpr ⟨(List.Mem.tail _ (List.Mem.tail _ (List.Mem.tail _ (List.Mem.tail _ (List.Mem.head _))))), (List.forall_mem_cons.mpr ⟨(List.Mem.tail _ (List.Mem.head _)), (List.forall_mem_cons.mpr ⟨(List.Mem.head _), (fun _ h => absurd h List.not_mem_nil)⟩)⟩)⟩)⟩)⟩), (show ([4, 3, 0, 1, 2] : List Nat).Nodup from by decide)⟩ w
      · replace w := w.2 (fun z => q (rv_null.mpr z))
        refine ab_fin.s2 (i := .aload_n 0) (k := 1) (pc' := 95) (lv' := [(0, .ref 0), (1, .ref l1), (2, .int l2), (3, .int l3), (4, .int l4)]) (st' := [.ref 0]) (by decide +kernel) rfl rfl ?_
        refine ab_fin.q_rA (b := 3) (ix := 315) (ci := 24) (k := 2) (pc' := 98) (by decide +kernel) rfl (c_rA (F.s s0_0) rfl (rM_2 F)) rfl ?_
        refine ab_fin.s2 (i := .aload_n 0) (k := 1) (pc' := 99) (lv' := [(0, .ref 0), (1, .ref l1), (2, .int l2), (3, .int l3), (4, .int l4)]) (st' := [.ref 0, .ref 3]) (by decide +kernel) rfl rfl ?_
        refine ab_fin.q_rA (b := 2189) (ix := 928) (ci := 24) (k := 105) (pc' := 102) (by decide +kernel) rfl (c_rA (F.s s0_0) rfl (rM_105 F)) rfl ?_
        refine ab_fin.s2 (i := .iload 4) (k := 2) (pc' := 104) (lv' := [(0, .ref 0), (1, .ref l1), (2, .int l2), (3, .int l3), (4, .int l4)]) (st' := [.int l4, .ref 2189, .ref 3]) (by decide +kernel) rfl rfl ?_
        obtain ⟨e3, w⟩ := w
        refine ab_fin.q_eI (x := (σ.i 2189 l4.toNatClampNeg)) (pc' := 105) (by decide +kernel) (c_eI' (F.s s0_2189) e3 rfl) rfl ?_
        obtain ⟨e4, w⟩ := w
        refine ab_fin.q_eA (b := (2497 + 4 * ((σ.i 2189 l4.toNatClampNeg).toNatClampNeg))) (pc' := 106) (by decide +kernel) (c_eA' (F.s s0_3) (by decide) rfl e4 rfl (rE_6 F s0_3 (by decide))) rfl ?_
        refine ab_fin.q_rV (v := rv (σ.r (2497 + 4 * ((σ.i 2189 l4.toNatClampNeg).toNatClampNeg)) 8)) (ix := 335) (ci := 19) (k := 8) (pc' := 109) (by decide +kernel) rfl (c_rV (F.s (kE_3 e4.2)) rfl) rfl ?_
        refine ab_fin.q_yI (i := .invokestatic 945) (k := 3) (y := 5987) (As := [rv (σ.r (2497 + 4 * ((σ.i 2189 l4.toNatClampNeg).toNatClampNeg)) 8)]) (rest := []) (M' := (mX23_asksKinds, [])) (lv2 := [(0, rv (σ.r (2497 + 4 * ((σ.i 2189 l4.toNatClampNeg).toNatClampNeg)) 8))]) (pc' := 112) (X := K) (by decide +kernel) (ab_cs rfl rfl ⟨(Nat.le_of_ble_eq_true rfl), (Nat.le_of_ble_eq_true rfl)⟩ rfl) rfl (by rw [lg_cnt]; simp only [List.map_cons, List.map_nil, cI, cL, cR1, cN1, cX1, cA (oR_rv _)]; exact Nat.le_of_ble_eq_true rfl) (by rw [lvA (oR_rv _), lvN]) rfl (hY_no fun E => rfl) w (fun v7 τ5 F6 w => ?_)
        refine ab_fin.br (c := v7 = 0) (i := .ifCond .eq 7) (off := 7) (t := 119) (pc' := 115) (r := []) (by decide +kernel) rfl (by decide +kernel) rfl (fun q => ?_) (fun q => ?_)
        · replace w := w.1 q
          refine ab_fin.s1i (i := .iconst 0) (k := 1) (pc' := 120) (n := 0) (by decide +kernel) rfl (by decide +kernel) rfl ?_
          refine ab_fin.s2 (i := .istore_n 3) (k := 1) (pc' := 121) (lv' := [(3, .int 0), (0, .ref 0), (1, .ref l1), (2, .int l2), (4, .int l4)]) (st' := []) (by decide +kernel) rfl rfl ?_
          refine ab_fin.q_inc (n := 4) (c := 1) (pc' := 124) (lv' := [(4, .int (l4 + 1)), (3, .int 0), (0, .ref 0), (1, .ref l1), (2, .int l2)]) (by decide +kernel) (by decide) rfl rfl rfl rfl ?_
          refine ab_fin.s3 (i := .goto (-61)) (k := 3) (t := 63) (st' := []) (by decide +kernel) (ab_gto (by decide +kernel)) ?_
          exact ab_fin.lv ⟨(List.forall_mem_cons.mpr ⟨(List.Mem.tail _ (List.Mem.tail _ (List.Mem.head _))), (List.forall_mem_cons.mpr ⟨(List.Mem.tail _ (List.Mem.tail _ (List.Mem.tail _ (List.Mem.head _)))), (List.forall_mem_cons.mpr ⟨(List.Mem.tail _ (List.Mem.tail _ (List.Mem.tail _ (List.Mem.tail _ (List.Mem.head _))))), (List.forall_mem_cons.mpr ⟨(List.Mem.tail _ (List.Mem.head _)), (List.forall_mem_cons.mpr ⟨(List.Mem.head _), (fun _ h => absurd h List.not_mem_nil)⟩)⟩)⟩)⟩)⟩), (show ([4, 3, 0, 1, 2] : List Nat).Nodup from by decide)⟩ w
        · replace w := w.2 q
          refine ab_fin.s1i (i := .iconst 1) (k := 1) (pc' := 116) (n := 1) (by decide +kernel) rfl (by decide +kernel) rfl ?_
          refine ab_fin.s3 (i := .goto 4) (k := 3) (t := 120) (st' := [.int 1]) (by decide +kernel) (ab_gto (by decide +kernel)) ?_
          refine ab_fin.s2 (i := .istore_n 3) (k := 1) (pc' := 121) (lv' := [(3, .int 1), (0, .ref 0), (1, .ref l1), (2, .int l2), (4, .int l4)]) (st' := []) (by decide +kernel) rfl rfl ?_
          refine ab_fin.q_inc (n := 4) (c := 1) (pc' := 124) (lv' := [(4, .int (l4 + 1)), (3, .int 1), (0, .ref 0), (1, .ref l1), (2, .int l2)]) (by decide +kernel) (by decide) rfl rfl rfl rfl ?_
          refine ab_fin.s3 (i := .goto (-61)) (k := 3) (t := 63) (st' := []) (by decide +kernel) (ab_gto (by decide +kernel)) ?_
          exact ab_fin.lv ⟨(List.forall_mem_cons.mpr ⟨(List.Mem.tail _ (List.Mem.tail _ (List.Mem.head _))), (List.forall_mem_cons.mpr ⟨(List.Mem.tail _ (List.Mem.tail _ (List.Mem.tail _ (List.Mem.head _)))), (List.forall_mem_cons.mpr ⟨(List.Mem.tail _ (List.Mem.tail _ (List.Mem.tail _ (List.Mem.tail _ (List.Mem.head _))))), (List.forall_mem_cons.mpr ⟨(List.Mem.tail _ (List.Mem.head _)), (List.forall_mem_cons.mpr ⟨(List.Mem.head _), (fun _ h => absurd h List.not_mem_nil)⟩)⟩)⟩)⟩)⟩), (show ([4, 3, 0, 1, 2] : List Nat).Nodup from by decide)⟩ w
theorem S_X23_lookAt_130 {Z : zT} {d : Nat} {σ : Sg} {l1 : Nat} {l2 : Int32} {l3 : Int32} {l4 : Int32} {K : kS} (F : FX ΦR σ.sh σ.r) (w : (l2 = 0 → (l2 = 0 → B_X23_lookAt_192 Z (d + 1) (σ.wi 0 50 (σ.i 0 107)) l1 0 K) ∧ (¬ l2 = 0 → K (.inl none) σ)) ∧ (¬ l2 = 0 → (l3 = 0 → (l2 = 0 → B_X23_lookAt_192 Z (d + 1) (σ.wi 0 50 (σ.i 0 107)) l1 0 K) ∧ (¬ l2 = 0 → K (.inl none) σ)) ∧ (¬ l3 = 0 → sh0R[l1]? = some (Sh.obj 14) ∧ (((σ.i l1 1) ≤ l4 → (l2 = 0 → B_X23_lookAt_192 Z (d + 1) (σ.wi 0 50 (σ.i 0 107)) l1 0 K) ∧ (¬ l2 = 0 → K (.inl none) σ)) ∧ (¬ (σ.i l1 1) ≤ l4 → ib l4 3 ∧ (ib l4 3 ∧ ((¬ (σ.i 2188 l4.toNatClampNeg) = (σ.i 2185 l4.toNatClampNeg) → B_X23_lookAt_130 Z (d + 1) σ l1 0 l3 (l4 + 1) K) ∧ ((σ.i 2188 l4.toNatClampNeg) = (σ.i 2185 l4.toNatClampNeg) → B_X23_lookAt_130 Z (d + 1) σ l1 1 l3 (l4 + 1) K)))))))) : B_X23_lookAt_130 Z (d + 1) σ l1 l2 l3 l4 K := by
  unfold B_X23_lookAt_130
  refine ab_fin.s2 (i := .iload_n 2) (k := 1) (pc' := 131) (lv' := [(0, .ref 0), (1, .ref l1), (2, .int l2), (3, .int l3), (4, .int l4)]) (st' := [.int l2]) (by decide +kernel) rfl rfl ?_
  refine ab_fin.br (c := l2 = 0) (i := .ifCond .eq 45) (off := 45) (t := 176) (pc' := 134) (r := []) (by decide +kernel) rfl (by decide +kernel) rfl (fun q => ?_) (fun q => ?_)
  · replace w := w.1 q
    refine ab_fin.s2 (i := .iload_n 2) (k := 1) (pc' := 177) (lv' := [(0, .ref 0), (1, .ref l1), (2, .int l2), (3, .int l3), (4, .int l4)]) (st' := [.int l2]) (by decide +kernel) rfl rfl ?_
    refine ab_fin.br (c := l2 = 0) (i := .ifCond .eq 4) (off := 4) (t := 181) (pc' := 180) (r := []) (by decide +kernel) rfl (by decide +kernel) rfl (fun q => ?_) (fun q => ?_)
    · replace w := w.1 q
      refine ab_fin.s2 (i := .aload_n 0) (k := 1) (pc' := 182) (lv' := [(0, .ref 0), (1, .ref l1), (2, .int l2), (3, .int l3), (4, .int l4)]) (st' := [.ref 0]) (by decide +kernel) rfl rfl ?_
      refine ab_fin.s2 (i := .aload_n 0) (k := 1) (pc' := 183) (lv' := [(0, .ref 0), (1, .ref l1), (2, .int l2), (3, .int l3), (4, .int l4)]) (st' := [.ref 0, .ref 0]) (by decide +kernel) rfl rfl ?_
      refine ab_fin.q_rI (x := (σ.i 0 107)) (ix := 919) (ci := 24) (k := 107) (pc' := 186) (by decide +kernel) rfl (c_rI (F.s s0_0) rfl) rfl ?_
      refine ab_fin.q_pF (ix := 546) (ci := 24) (k := 50) (h1 := conc (σ.wi 0 50 (σ.i 0 107))) (pc' := 189) (by decide +kernel) rfl (c_pI (v := (σ.i 0 107)) (F.s s0_0) rfl) rfl rfl rfl ?_
      refine ab_fin.s1i (i := .iconst 0) (k := 1) (pc' := 190) (n := 0) (by decide +kernel) rfl (by decide +kernel) rfl ?_
      refine ab_fin.s2 (i := .istore 4) (k := 2) (pc' := 192) (lv' := [(4, .int 0), (0, .ref 0), (1, .ref l1), (2, .int l2), (3, .int l3)]) (st' := []) (by decide +kernel) rfl rfl ?_
      exact ab_fin.lv ⟨(List.forall_mem_cons.mpr ⟨(List.Mem.tail _ (List.Mem.head _)), (List.forall_mem_cons.mpr ⟨(List.Mem.tail _ (List.Mem.tail _ (List.Mem.head _))), (List.forall_mem_cons.mpr ⟨(List.Mem.head _), (fun _ h => absurd h List.not_mem_nil)⟩)⟩)⟩), (show ([4, 0, 1, 2, 3] : List Nat).Nodup from by decide)⟩ w
    · replace w := w.2 q
      exact ab_fin.q_ret (i := .return_) (k := 1) (v := none) (by decide +kernel) rfl F w
  · replace w := w.2 q
    refine ab_fin.s2 (i := .iload_n 3) (k := 1) (pc' := 135) (lv' := [(0, .ref 0), (1, .ref l1), (2, .int l2), (3, .int l3), (4, .int l4)]) (st' := [.int l3]) (by decide +kernel) rfl rfl ?_
    refine ab_fin.br (c := l3 = 0) (i := .ifCond .eq 41) (off := 41) (t := 176) (pc' := 138) (r := []) (by decide +kernel) rfl (by decide +kernel) rfl (fun q => ?_) (fun q => ?_)
    · replace w := w.1 q
      refine ab_fin.s2 (i := .iload_n 2) (k := 1) (pc' := 177) (lv' := [(0, .ref 0), (1, .ref l1), (2, .int l2), (3, .int l3), (4, .int l4)]) (st' := [.int l2]) (by decide +kernel) rfl rfl ?_
      refine ab_fin.br (c := l2 = 0) (i := .ifCond .eq 4) (off := 4) (t := 181) (pc' := 180) (r := []) (by decide +kernel) rfl (by decide +kernel) rfl (fun q => ?_) (fun q => ?_)
      · replace w := w.1 q
        refine ab_fin.s2 (i := .aload_n 0) (k := 1) (pc' := 182) (lv' := [(0, .ref 0), (1, .ref l1), (2, .int l2), (3, .int l3), (4, .int l4)]) (st' := [.ref 0]) (by decide +kernel) rfl rfl ?_
        refine ab_fin.s2 (i := .aload_n 0) (k := 1) (pc' := 183) (lv' := [(0, .ref 0), (1, .ref l1), (2, .int l2), (3, .int l3), (4, .int l4)]) (st' := [.ref 0, .ref 0]) (by decide +kernel) rfl rfl ?_
        refine ab_fin.q_rI (x := (σ.i 0 107)) (ix := 919) (ci := 24) (k := 107) (pc' := 186) (by decide +kernel) rfl (c_rI (F.s s0_0) rfl) rfl ?_
        refine ab_fin.q_pF (ix := 546) (ci := 24) (k := 50) (h1 := conc (σ.wi 0 50 (σ.i 0 107))) (pc' := 189) (by decide +kernel) rfl (c_pI (v := (σ.i 0 107)) (F.s s0_0) rfl) rfl rfl rfl ?_
        refine ab_fin.s1i (i := .iconst 0) (k := 1) (pc' := 190) (n := 0) (by decide +kernel) rfl (by decide +kernel) rfl ?_
        refine ab_fin.s2 (i := .istore 4) (k := 2) (pc' := 192) (lv' := [(4, .int 0), (0, .ref 0), (1, .ref l1), (2, .int l2), (3, .int l3)]) (st' := []) (by decide +kernel) rfl rfl ?_
        exact ab_fin.lv ⟨(List.forall_mem_cons.mpr ⟨(List.Mem.tail _ (List.Mem.head _)), (List.forall_mem_cons.mpr ⟨(List.Mem.tail _ (List.Mem.tail _ (List.Mem.head _))), (List.forall_mem_cons.mpr ⟨(List.Mem.head _), (fun _ h => absurd h List.not_mem_nil)⟩)⟩)⟩), (show ([4, 0, 1, 2, 3] : List Nat).Nodup from by decide)⟩ w
      · replace w := w.2 q
        exact ab_fin.q_ret (i := .return_) (k := 1) (v := none) (by decide +kernel) rfl F w
    · replace w := w.2 q
      refine ab_fin.s2 (i := .iload 4) (k := 2) (pc' := 140) (lv' := [(0, .ref 0), (1, .ref l1), (2, .int l2), (3, .int l3), (4, .int l4)]) (st' := [.int l4]) (by decide +kernel) rfl rfl ?_
      refine ab_fin.s2 (i := .aload_n 1) (k := 1) (pc' := 141) (lv' := [(0, .ref 0), (1, .ref l1), (2, .int l2), (3, .int l3), (4, .int l4)]) (st' := [.ref l1, .int l4]) (by decide +kernel) rfl rfl ?_
      obtain ⟨e1, w⟩ := w
      refine ab_fin.q_rI (x := (σ.i l1 1)) (ix := 303) (ci := 14) (k := 1) (pc' := 144) (by decide +kernel) rfl (c_rI (F.s e1) rfl) rfl ?_
      refine ab_fin.br (c := (σ.i l1 1) ≤ l4) (i := .if_icmp .ge 32) (off := 32) (t := 176) (pc' := 147) (r := []) (by decide +kernel) rfl (by decide +kernel) rfl (fun q => ?_) (fun q => ?_)
      · replace w := w.1 q
        refine ab_fin.s2 (i := .iload_n 2) (k := 1) (pc' := 177) (lv' := [(0, .ref 0), (1, .ref l1), (2, .int l2), (3, .int l3), (4, .int l4)]) (st' := [.int l2]) (by decide +kernel) rfl rfl ?_
        refine ab_fin.br (c := l2 = 0) (i := .ifCond .eq 4) (off := 4) (t := 181) (pc' := 180) (r := []) (by decide +kernel) rfl (by decide +kernel) rfl (fun q => ?_) (fun q => ?_)
        · replace w := w.1 q
          refine ab_fin.s2 (i := .aload_n 0) (k := 1) (pc' := 182) (lv' := [(0, .ref 0), (1, .ref l1), (2, .int l2), (3, .int l3), (4, .int l4)]) (st' := [.ref 0]) (by decide +kernel) rfl rfl ?_
          refine ab_fin.s2 (i := .aload_n 0) (k := 1) (pc' := 183) (lv' := [(0, .ref 0), (1, .ref l1), (2, .int l2), (3, .int l3), (4, .int l4)]) (st' := [.ref 0, .ref 0]) (by decide +kernel) rfl rfl ?_
          refine ab_fin.q_rI (x := (σ.i 0 107)) (ix := 919) (ci := 24) (k := 107) (pc' := 186) (by decide +kernel) rfl (c_rI (F.s s0_0) rfl) rfl ?_
          refine ab_fin.q_pF (ix := 546) (ci := 24) (k := 50) (h1 := conc (σ.wi 0 50 (σ.i 0 107))) (pc' := 189) (by decide +kernel) rfl (c_pI (v := (σ.i 0 107)) (F.s s0_0) rfl) rfl rfl rfl ?_
          refine ab_fin.s1i (i := .iconst 0) (k := 1) (pc' := 190) (n := 0) (by decide +kernel) rfl (by decide +kernel) rfl ?_
          refine ab_fin.s2 (i := .istore 4) (k := 2) (pc' := 192) (lv' := [(4, .int 0), (0, .ref 0), (1, .ref l1), (2, .int l2), (3, .int l3)]) (st' := []) (by decide +kernel) rfl rfl ?_
          exact ab_fin.lv ⟨(List.forall_mem_cons.mpr ⟨(List.Mem.tail _ (List.Mem.head _)), (List.forall_mem_cons.mpr ⟨(List.Mem.tail _ (List.Mem.tail _ (List.Mem.head _))), (List.forall_mem_cons.mpr ⟨(List.Mem.head _), (fun _ h => absurd h List.not_mem_nil)⟩)⟩)⟩), (show ([4, 0, 1, 2, 3] : List Nat).Nodup from by decide)⟩ w
        · replace w := w.2 q
          exact ab_fin.q_ret (i := .return_) (k := 1) (v := none) (by decide +kernel) rfl F w
      · replace w := w.2 q
        refine ab_fin.s2 (i := .aload_n 0) (k := 1) (pc' := 148) (lv' := [(0, .ref 0), (1, .ref l1), (2, .int l2), (3, .int l3), (4, .int l4)]) (st' := [.ref 0]) (by decide +kernel) rfl rfl ?_
        refine ab_fin.q_rA (b := 2188) (ix := 949) (ci := 24) (k := 104) (pc' := 151) (by decide +kernel) rfl (c_rA (F.s s0_0) rfl (rM_104 F)) rfl ?_
        refine ab_fin.s2 (i := .iload 4) (k := 2) (pc' := 153) (lv' := [(0, .ref 0), (1, .ref l1), (2, .int l2), (3, .int l3), (4, .int l4)]) (st' := [.int l4, .ref 2188]) (by decide +kernel) rfl rfl ?_
        obtain ⟨e2, w⟩ := w
        refine ab_fin.q_eI (x := (σ.i 2188 l4.toNatClampNeg)) (pc' := 154) (by decide +kernel) (c_eI' (F.s s0_2188) e2 rfl) rfl ?_
        refine ab_fin.s2 (i := .aload_n 0) (k := 1) (pc' := 155) (lv' := [(0, .ref 0), (1, .ref l1), (2, .int l2), (3, .int l3), (4, .int l4)]) (st' := [.ref 0, .int (σ.i 2188 l4.toNatClampNeg)]) (by decide +kernel) rfl rfl ?_
        refine ab_fin.q_rA (b := 2185) (ix := 903) (ci := 24) (k := 100) (pc' := 158) (by decide +kernel) rfl (c_rA (F.s s0_0) rfl (rM_100 F)) rfl ?_
        refine ab_fin.s2 (i := .iload 4) (k := 2) (pc' := 160) (lv' := [(0, .ref 0), (1, .ref l1), (2, .int l2), (3, .int l3), (4, .int l4)]) (st' := [.int l4, .ref 2185, .int (σ.i 2188 l4.toNatClampNeg)]) (by decide +kernel) rfl rfl ?_
        obtain ⟨e3, w⟩ := w
        refine ab_fin.q_eI (x := (σ.i 2185 l4.toNatClampNeg)) (pc' := 161) (by decide +kernel) (c_eI' (F.s s0_2185) e3 rfl) rfl ?_
        refine ab_fin.br (c := ¬ (σ.i 2188 l4.toNatClampNeg) = (σ.i 2185 l4.toNatClampNeg)) (i := .if_icmp .ne 7) (off := 7) (t := 168) (pc' := 164) (r := []) (by decide +kernel) rfl (by decide +kernel) rfl (fun q => ?_) (fun q => ?_)
        · replace w := w.1 q
          refine ab_fin.s1i (i := .iconst 0) (k := 1) (pc' := 169) (n := 0) (by decide +kernel) rfl (by decide +kernel) rfl ?_
          refine ab_fin.s2 (i := .istore_n 2) (k := 1) (pc' := 170) (lv' := [(2, .int 0), (0, .ref 0), (1, .ref l1), (3, .int l3), (4, .int l4)]) (st' := []) (by decide +kernel) rfl rfl ?_
          refine ab_fin.q_inc (n := 4) (c := 1) (pc' := 173) (lv' := [(4, .int (l4 + 1)), (2, .int 0), (0, .ref 0), (1, .ref l1), (3, .int l3)]) (by decide +kernel) (by decide) rfl rfl rfl rfl ?_
          refine ab_fin.s3 (i := .goto (-43)) (k := 3) (t := 130) (st' := []) (by decide +kernel) (ab_gto (by decide +kernel)) ?_
          exact ab_fin.lv ⟨(List.forall_mem_cons.mpr ⟨(List.Mem.tail _ (List.Mem.tail _ (List.Mem.head _))), (List.forall_mem_cons.mpr ⟨(List.Mem.tail _ (List.Mem.tail _ (List.Mem.tail _ (List.Mem.head _)))), (List.forall_mem_cons.mpr ⟨(List.Mem.tail _ (List.Mem.head _)), (List.forall_mem_cons.mpr ⟨(List.Mem.tail _ (List.Mem.tail _ (List.Mem.tail _ (List.Mem.tail _ (List.Mem.head _))))), (List.forall_mem_cons.mpr ⟨(List.Mem.head _), (fun _ h => absurd h List.not_mem_nil)⟩)⟩)⟩)⟩)⟩), (show ([4, 2, 0, 1, 3] : List Nat).Nodup from by decide)⟩ w
        · replace w := w.2 (Decidable.of_not_not q)
          refine ab_fin.s1i (i := .iconst 1) (k := 1) (pc' := 165) (n := 1) (by decide +kernel) rfl (by decide +kernel) rfl ?_
          refine ab_fin.s3 (i := .goto 4) (k := 3) (t := 169) (st' := [.int 1]) (by decide +kernel) (ab_gto (by decide +kernel)) ?_
          refine ab_fin.s2 (i := .istore_n 2) (k := 1) (pc' := 170) (lv' := [(2, .int 1), (0, .ref 0), (1, .ref l1), (3, .int l3), (4, .int l4)]) (st' := []) (by decide +kernel) rfl rfl ?_
          refine ab_fin.q_inc (n := 4) (c := 1) (pc' := 173) (lv' := [(4, .int (l4 + 1)), (2, .int 1), (0, .ref 0), (1, .ref l1), (3, .int l3)]) (by decide +kernel) (by decide) rfl rfl rfl rfl ?_
          refine ab_fin.s3 (i := .goto (-43)) (k := 3) (t := 130) (st' := []) (by decide +kernel) (ab_gto (by decide +kernel)) ?_
          exact ab_fin.lv ⟨(List.forall_mem_cons.mpr ⟨(List.Mem.tail _ (List.Mem.tail _ (List.Mem.head _))), (List.forall_mem_cons.mpr ⟨(List.Mem.tail _ (List.Mem.tail _ (List.Mem.tail _ (List.Mem.head _)))), (List.forall_mem_cons.mpr ⟨(List.Mem.tail _ (List.Mem.head _)), (List.forall_mem_cons.mpr ⟨(List.Mem.tail _ (List.Mem.tail _ (List.Mem.tail _ (List.Mem.tail _ (List.Mem.head _))))), (List.forall_mem_cons.mpr ⟨(List.Mem.head _), (fun _ h => absurd h List.not_mem_nil)⟩)⟩)⟩)⟩)⟩), (show ([4, 2, 0, 1, 3] : List Nat).Nodup from by decide)⟩ w
theorem S_X23_lookAt_192 {Z : zT} {d : Nat} {σ : Sg} {l1 : Nat} {l4 : Int32} {K : kS} (F : FX ΦR σ.sh σ.r) (w : ((σ.i 0 107) ≤ l4 → B_X23_see_0 Z d σ 2185 (yN K fun τ1 => B_X23_lookAt_246 Z (d + 1) τ1 l1 0 K)) ∧ (¬ (σ.i 0 107) ≤ l4 → ib l4 120 ∧ (ib l4 8 ∧ (ib l4 120 ∧ (ib l4 120 ∧ (B_X23_lookAt_192 Z (d + 1) ((σ.wi 2067 l4.toNatClampNeg (σ.i 2189 l4.toNatClampNeg)).wi 2187 l4.toNatClampNeg (σ.i 2189 l4.toNatClampNeg)) l1 (l4 + 1) K)))))) : B_X23_lookAt_192 Z (d + 1) σ l1 l4 K := by
  unfold B_X23_lookAt_192
  refine ab_fin.s2 (i := .iload 4) (k := 2) (pc' := 194) (lv' := [(0, .ref 0), (1, .ref l1), (4, .int l4)]) (st' := [.int l4]) (by decide +kernel) rfl rfl ?_
  refine ab_fin.s2 (i := .aload_n 0) (k := 1) (pc' := 195) (lv' := [(0, .ref 0), (1, .ref l1), (4, .int l4)]) (st' := [.ref 0, .int l4]) (by decide +kernel) rfl rfl ?_
  refine ab_fin.q_rI (x := (σ.i 0 107)) (ix := 919) (ci := 24) (k := 107) (pc' := 198) (by decide +kernel) rfl (c_rI (F.s s0_0) rfl) rfl ?_
  refine ab_fin.br (c := (σ.i 0 107) ≤ l4) (i := .if_icmp .ge 37) (off := 37) (t := 235) (pc' := 201) (r := []) (by decide +kernel) rfl (by decide +kernel) rfl (fun q => ?_) (fun q => ?_)
  · replace w := w.1 q
    refine ab_fin.s2 (i := .aload_n 0) (k := 1) (pc' := 236) (lv' := [(0, .ref 0), (1, .ref l1), (4, .int l4)]) (st' := [.ref 0]) (by decide +kernel) rfl rfl ?_
    refine ab_fin.s2 (i := .aload_n 0) (k := 1) (pc' := 237) (lv' := [(0, .ref 0), (1, .ref l1), (4, .int l4)]) (st' := [.ref 0, .ref 0]) (by decide +kernel) rfl rfl ?_
    refine ab_fin.q_rA (b := 2185) (ix := 903) (ci := 24) (k := 100) (pc' := 240) (by decide +kernel) rfl (c_rA (F.s s0_0) rfl (rM_100 F)) rfl ?_
    refine ab_fin.q_yN (i := .invokevirtual 618) (k := 3) (y := 5942) (As := [.ref 0, .ref 2185]) (rest := []) (M' := (mX23_see, [])) (lv2 := [(0, .ref 0), (1, .ref 2185)]) (pc' := 243) (X := K) (by decide +kernel) (ab_cv rfl rfl (conc_get (σ := σ) (F.s s0_0)) ⟨(Nat.le_of_ble_eq_true rfl), (Nat.le_of_ble_eq_true rfl)⟩ rfl) rfl (Nat.le_of_ble_eq_true rfl) rfl rfl (hY_no fun E => rfl) w (fun τ1 F2 w => ?_)
    refine ab_fin.s1i (i := .iconst 0) (k := 1) (pc' := 244) (n := 0) (by decide +kernel) rfl (by decide +kernel) rfl ?_
    refine ab_fin.s2 (i := .istore 4) (k := 2) (pc' := 246) (lv' := [(4, .int 0), (0, .ref 0), (1, .ref l1)]) (st' := []) (by decide +kernel) rfl rfl ?_
    exact ab_fin.lv ⟨(List.forall_mem_cons.mpr ⟨(List.Mem.tail _ (List.Mem.head _)), (List.forall_mem_cons.mpr ⟨(List.Mem.tail _ (List.Mem.tail _ (List.Mem.head _))), (List.forall_mem_cons.mpr ⟨(List.Mem.head _), (fun _ h => absurd h List.not_mem_nil)⟩)⟩)⟩), (show ([4, 0, 1] : List Nat).Nodup from by decide)⟩ w
  · replace w := w.2 q
    refine ab_fin.s2 (i := .aload_n 0) (k := 1) (pc' := 202) (lv' := [(0, .ref 0), (1, .ref l1), (4, .int l4)]) (st' := [.ref 0]) (by decide +kernel) rfl rfl ?_
    refine ab_fin.q_rA (b := 2067) (ix := 549) (ci := 24) (k := 49) (pc' := 205) (by decide +kernel) rfl (c_rA (F.s s0_0) rfl (rM_49 F)) rfl ?_
    refine ab_fin.s2 (i := .iload 4) (k := 2) (pc' := 207) (lv' := [(0, .ref 0), (1, .ref l1), (4, .int l4)]) (st' := [.int l4, .ref 2067]) (by decide +kernel) rfl rfl ?_
    refine ab_fin.s2 (i := .aload_n 0) (k := 1) (pc' := 208) (lv' := [(0, .ref 0), (1, .ref l1), (4, .int l4)]) (st' := [.ref 0, .int l4, .ref 2067]) (by decide +kernel) rfl rfl ?_
    refine ab_fin.q_rA (b := 2189) (ix := 928) (ci := 24) (k := 105) (pc' := 211) (by decide +kernel) rfl (c_rA (F.s s0_0) rfl (rM_105 F)) rfl ?_
    refine ab_fin.s2 (i := .iload 4) (k := 2) (pc' := 213) (lv' := [(0, .ref 0), (1, .ref l1), (4, .int l4)]) (st' := [.int l4, .ref 2189, .int l4, .ref 2067]) (by decide +kernel) rfl rfl ?_
    obtain ⟨e3, w⟩ := w
    refine ab_fin.q_eI (x := (σ.i 2189 l4.toNatClampNeg)) (pc' := 214) (by decide +kernel) (c_eI' (F.s s0_2189) e3 rfl) rfl ?_
    obtain ⟨e4, w⟩ := w
    refine ab_fin.q_sI (h1 := conc (σ.wi 2067 l4.toNatClampNeg (σ.i 2189 l4.toNatClampNeg))) (pc' := 215) (by decide +kernel) (c_sI' (F.s s0_2067) e4 rfl) rfl ?_
    refine ab_fin.s2 (i := .aload_n 0) (k := 1) (pc' := 216) (lv' := [(0, .ref 0), (1, .ref l1), (4, .int l4)]) (st' := [.ref 0]) (by decide +kernel) rfl rfl ?_
    refine ab_fin.q_rA (b := 2187) (ix := 942) (ci := 24) (k := 103) (pc' := 219) (by decide +kernel) rfl (c_rA (F.s s0_0) rfl (rM_103 F)) rfl ?_
    refine ab_fin.s2 (i := .iload 4) (k := 2) (pc' := 221) (lv' := [(0, .ref 0), (1, .ref l1), (4, .int l4)]) (st' := [.int l4, .ref 2187]) (by decide +kernel) rfl rfl ?_
    refine ab_fin.s2 (i := .aload_n 0) (k := 1) (pc' := 222) (lv' := [(0, .ref 0), (1, .ref l1), (4, .int l4)]) (st' := [.ref 0, .int l4, .ref 2187]) (by decide +kernel) rfl rfl ?_
    refine ab_fin.q_rA (b := 2189) (ix := 928) (ci := 24) (k := 105) (pc' := 225) (by decide +kernel) rfl (c_rA (F.s s0_0) rfl (rM_105 F)) rfl ?_
    refine ab_fin.s2 (i := .iload 4) (k := 2) (pc' := 227) (lv' := [(0, .ref 0), (1, .ref l1), (4, .int l4)]) (st' := [.int l4, .ref 2189, .int l4, .ref 2187]) (by decide +kernel) rfl rfl ?_
    obtain ⟨e5, w⟩ := w
    refine ab_fin.q_eI (x := (σ.i 2189 l4.toNatClampNeg)) (pc' := 228) (by decide +kernel) (c_eI' (F.s s0_2189) e5 rfl) rfl ?_
    obtain ⟨e6, w⟩ := w
    refine ab_fin.q_sI (h1 := conc ((σ.wi 2067 l4.toNatClampNeg (σ.i 2189 l4.toNatClampNeg)).wi 2187 l4.toNatClampNeg (σ.i 2189 l4.toNatClampNeg))) (pc' := 229) (by decide +kernel) (c_sI' (F.s s0_2187) e6 rfl) rfl ?_
    refine ab_fin.q_inc (n := 4) (c := 1) (pc' := 232) (lv' := [(4, .int (l4 + 1)), (0, .ref 0), (1, .ref l1)]) (by decide +kernel) (by decide) rfl rfl rfl rfl ?_
    refine ab_fin.s3 (i := .goto (-40)) (k := 3) (t := 192) (st' := []) (by decide +kernel) (ab_gto (by decide +kernel)) ?_
    exact ab_fin.lv ⟨(List.forall_mem_cons.mpr ⟨(List.Mem.tail _ (List.Mem.head _)), (List.forall_mem_cons.mpr ⟨(List.Mem.tail _ (List.Mem.tail _ (List.Mem.head _))), (List.forall_mem_cons.mpr ⟨(List.Mem.head _), (fun _ h => absurd h List.not_mem_nil)⟩)⟩)⟩), (show ([4, 0, 1] : List Nat).Nodup from by decide)⟩ w
theorem S_X23_lookAt_246 {Z : zT} {d : Nat} {σ : Sg} {l1 : Nat} {l4 : Int32} {K : kS} (F : FX ΦR σ.sh σ.r) (w : (((1 : Int32) <<< ((σ.i 0 107) &&& 31)) ≤ l4 → B_X23_lookAt_288 Z (d + 1) (σ.wi 0 106 (σ.i 0 107)) l1 0 K) ∧ (¬ ((1 : Int32) <<< ((σ.i 0 107) &&& 31)) ≤ l4 → ib l4 256 ∧ (ib l4 256 ∧ (B_X23_lookAt_246 Z (d + 1) (σ.wi 2190 l4.toNatClampNeg (vp_nar .boolean (σ.i 2068 l4.toNatClampNeg))) l1 (l4 + 1) K)))) : B_X23_lookAt_246 Z (d + 1) σ l1 l4 K := by
  unfold B_X23_lookAt_246
  refine ab_fin.s2 (i := .iload 4) (k := 2) (pc' := 248) (lv' := [(0, .ref 0), (1, .ref l1), (4, .int l4)]) (st' := [.int l4]) (by decide +kernel) rfl rfl ?_
  refine ab_fin.s1i (i := .iconst 1) (k := 1) (pc' := 249) (n := 1) (by decide +kernel) rfl (by decide +kernel) rfl ?_
  refine ab_fin.s2 (i := .aload_n 0) (k := 1) (pc' := 250) (lv' := [(0, .ref 0), (1, .ref l1), (4, .int l4)]) (st' := [.ref 0, .int 1, .int l4]) (by decide +kernel) rfl rfl ?_
  refine ab_fin.q_rI (x := (σ.i 0 107)) (ix := 919) (ci := 24) (k := 107) (pc' := 253) (by decide +kernel) rfl (c_rI (F.s s0_0) rfl) rfl ?_
  refine ab_fin.s1 (i := .ishl) (k := 1) (pc' := 254) (st' := [.int ((1 : Int32) <<< ((σ.i 0 107) &&& 31)), .int l4]) (by decide +kernel) rfl rfl ?_
  refine ab_fin.br (c := ((1 : Int32) <<< ((σ.i 0 107) &&& 31)) ≤ l4) (i := .if_icmp .ge 23) (off := 23) (t := 277) (pc' := 257) (r := []) (by decide +kernel) rfl (by decide +kernel) rfl (fun q => ?_) (fun q => ?_)
  · replace w := w.1 q
    refine ab_fin.s2 (i := .aload_n 0) (k := 1) (pc' := 278) (lv' := [(0, .ref 0), (1, .ref l1), (4, .int l4)]) (st' := [.ref 0]) (by decide +kernel) rfl rfl ?_
    refine ab_fin.s2 (i := .aload_n 0) (k := 1) (pc' := 279) (lv' := [(0, .ref 0), (1, .ref l1), (4, .int l4)]) (st' := [.ref 0, .ref 0]) (by decide +kernel) rfl rfl ?_
    refine ab_fin.q_rI (x := (σ.i 0 107)) (ix := 919) (ci := 24) (k := 107) (pc' := 282) (by decide +kernel) rfl (c_rI (F.s s0_0) rfl) rfl ?_
    refine ab_fin.q_pF (ix := 896) (ci := 24) (k := 106) (h1 := conc (σ.wi 0 106 (σ.i 0 107))) (pc' := 285) (by decide +kernel) rfl (c_pI (v := (σ.i 0 107)) (F.s s0_0) rfl) rfl rfl rfl ?_
    refine ab_fin.s1i (i := .iconst 0) (k := 1) (pc' := 286) (n := 0) (by decide +kernel) rfl (by decide +kernel) rfl ?_
    refine ab_fin.s2 (i := .istore 4) (k := 2) (pc' := 288) (lv' := [(4, .int 0), (0, .ref 0), (1, .ref l1)]) (st' := []) (by decide +kernel) rfl rfl ?_
    exact ab_fin.lv ⟨(List.forall_mem_cons.mpr ⟨(List.Mem.tail _ (List.Mem.head _)), (List.forall_mem_cons.mpr ⟨(List.Mem.tail _ (List.Mem.tail _ (List.Mem.head _))), (List.forall_mem_cons.mpr ⟨(List.Mem.head _), (fun _ h => absurd h List.not_mem_nil)⟩)⟩)⟩), (show ([4, 0, 1] : List Nat).Nodup from by decide)⟩ w
  · replace w := w.2 q
    refine ab_fin.s2 (i := .aload_n 0) (k := 1) (pc' := 258) (lv' := [(0, .ref 0), (1, .ref l1), (4, .int l4)]) (st' := [.ref 0]) (by decide +kernel) rfl rfl ?_
    refine ab_fin.q_rA (b := 2190) (ix := 935) (ci := 24) (k := 109) (pc' := 261) (by decide +kernel) rfl (c_rA (F.s s0_0) rfl (rM_109 F)) rfl ?_
    refine ab_fin.s2 (i := .iload 4) (k := 2) (pc' := 263) (lv' := [(0, .ref 0), (1, .ref l1), (4, .int l4)]) (st' := [.int l4, .ref 2190]) (by decide +kernel) rfl rfl ?_
    refine ab_fin.s2 (i := .aload_n 0) (k := 1) (pc' := 264) (lv' := [(0, .ref 0), (1, .ref l1), (4, .int l4)]) (st' := [.ref 0, .int l4, .ref 2190]) (by decide +kernel) rfl rfl ?_
    refine ab_fin.q_rA (b := 2068) (ix := 552) (ci := 24) (k := 52) (pc' := 267) (by decide +kernel) rfl (c_rA (F.s s0_0) rfl (rM_52 F)) rfl ?_
    refine ab_fin.s2 (i := .iload 4) (k := 2) (pc' := 269) (lv' := [(0, .ref 0), (1, .ref l1), (4, .int l4)]) (st' := [.int l4, .ref 2068, .int l4, .ref 2190]) (by decide +kernel) rfl rfl ?_
    obtain ⟨e1, w⟩ := w
    refine ab_fin.q_eB (x := (σ.i 2068 l4.toNatClampNeg)) (pc' := 270) (by decide +kernel) (c_eB3' (F.s s0_2068) e1 rfl) rfl ?_
    obtain ⟨e2, w⟩ := w
    refine ab_fin.q_sB (h1 := conc (σ.wi 2190 l4.toNatClampNeg (vp_nar .boolean (σ.i 2068 l4.toNatClampNeg)))) (pc' := 271) (by decide +kernel) (c_sB3' (F.s s0_2190) e2 rfl) rfl ?_
    refine ab_fin.q_inc (n := 4) (c := 1) (pc' := 274) (lv' := [(4, .int (l4 + 1)), (0, .ref 0), (1, .ref l1)]) (by decide +kernel) (by decide) rfl rfl rfl rfl ?_
    refine ab_fin.s3 (i := .goto (-28)) (k := 3) (t := 246) (st' := []) (by decide +kernel) (ab_gto (by decide +kernel)) ?_
    exact ab_fin.lv ⟨(List.forall_mem_cons.mpr ⟨(List.Mem.tail _ (List.Mem.head _)), (List.forall_mem_cons.mpr ⟨(List.Mem.tail _ (List.Mem.tail _ (List.Mem.head _))), (List.forall_mem_cons.mpr ⟨(List.Mem.head _), (fun _ h => absurd h List.not_mem_nil)⟩)⟩)⟩), (show ([4, 0, 1] : List Nat).Nodup from by decide)⟩ w
theorem S_X23_lookAt_288 {Z : zT} {d : Nat} {σ : Sg} {l1 : Nat} {l4 : Int32} {K : kS} (F : FX ΦR σ.sh σ.r) (w : sh0R[l1]? = some (Sh.obj 14) ∧ (((σ.i l1 1) ≤ l4 → K (.inl none) σ) ∧ (¬ (σ.i l1 1) ≤ l4 → ib l4 3 ∧ (ib l4 3 ∧ (B_X23_lookAt_288 Z (d + 1) (σ.wi 2188 l4.toNatClampNeg (σ.i 2185 l4.toNatClampNeg)) l1 (l4 + 1) K))))) : B_X23_lookAt_288 Z (d + 1) σ l1 l4 K := by
  unfold B_X23_lookAt_288
  refine ab_fin.s2 (i := .iload 4) (k := 2) (pc' := 290) (lv' := [(0, .ref 0), (1, .ref l1), (4, .int l4)]) (st' := [.int l4]) (by decide +kernel) rfl rfl ?_
  refine ab_fin.s2 (i := .aload_n 1) (k := 1) (pc' := 291) (lv' := [(0, .ref 0), (1, .ref l1), (4, .int l4)]) (st' := [.ref l1, .int l4]) (by decide +kernel) rfl rfl ?_
  obtain ⟨e1, w⟩ := w
  refine ab_fin.q_rI (x := (σ.i l1 1)) (ix := 303) (ci := 14) (k := 1) (pc' := 294) (by decide +kernel) rfl (c_rI (F.s e1) rfl) rfl ?_
  refine ab_fin.br (c := (σ.i l1 1) ≤ l4) (i := .if_icmp .ge 23) (off := 23) (t := 317) (pc' := 297) (r := []) (by decide +kernel) rfl (by decide +kernel) rfl (fun q => ?_) (fun q => ?_)
  · replace w := w.1 q
    exact ab_fin.q_ret (i := .return_) (k := 1) (v := none) (by decide +kernel) rfl F w
  · replace w := w.2 q
    refine ab_fin.s2 (i := .aload_n 0) (k := 1) (pc' := 298) (lv' := [(0, .ref 0), (1, .ref l1), (4, .int l4)]) (st' := [.ref 0]) (by decide +kernel) rfl rfl ?_
    refine ab_fin.q_rA (b := 2188) (ix := 949) (ci := 24) (k := 104) (pc' := 301) (by decide +kernel) rfl (c_rA (F.s s0_0) rfl (rM_104 F)) rfl ?_
    refine ab_fin.s2 (i := .iload 4) (k := 2) (pc' := 303) (lv' := [(0, .ref 0), (1, .ref l1), (4, .int l4)]) (st' := [.int l4, .ref 2188]) (by decide +kernel) rfl rfl ?_
    refine ab_fin.s2 (i := .aload_n 0) (k := 1) (pc' := 304) (lv' := [(0, .ref 0), (1, .ref l1), (4, .int l4)]) (st' := [.ref 0, .int l4, .ref 2188]) (by decide +kernel) rfl rfl ?_
    refine ab_fin.q_rA (b := 2185) (ix := 903) (ci := 24) (k := 100) (pc' := 307) (by decide +kernel) rfl (c_rA (F.s s0_0) rfl (rM_100 F)) rfl ?_
    refine ab_fin.s2 (i := .iload 4) (k := 2) (pc' := 309) (lv' := [(0, .ref 0), (1, .ref l1), (4, .int l4)]) (st' := [.int l4, .ref 2185, .int l4, .ref 2188]) (by decide +kernel) rfl rfl ?_
    obtain ⟨e2, w⟩ := w
    refine ab_fin.q_eI (x := (σ.i 2185 l4.toNatClampNeg)) (pc' := 310) (by decide +kernel) (c_eI' (F.s s0_2185) e2 rfl) rfl ?_
    obtain ⟨e3, w⟩ := w
    refine ab_fin.q_sI (h1 := conc (σ.wi 2188 l4.toNatClampNeg (σ.i 2185 l4.toNatClampNeg))) (pc' := 311) (by decide +kernel) (c_sI' (F.s s0_2188) e3 rfl) rfl ?_
    refine ab_fin.q_inc (n := 4) (c := 1) (pc' := 314) (lv' := [(4, .int (l4 + 1)), (0, .ref 0), (1, .ref l1)]) (by decide +kernel) (by decide) rfl rfl rfl rfl ?_
    refine ab_fin.s3 (i := .goto (-26)) (k := 3) (t := 288) (st' := []) (by decide +kernel) (ab_gto (by decide +kernel)) ?_
    exact ab_fin.lv ⟨(List.forall_mem_cons.mpr ⟨(List.Mem.tail _ (List.Mem.head _)), (List.forall_mem_cons.mpr ⟨(List.Mem.tail _ (List.Mem.tail _ (List.Mem.head _))), (List.forall_mem_cons.mpr ⟨(List.Mem.head _), (fun _ h => absurd h List.not_mem_nil)⟩)⟩)⟩), (show ([4, 0, 1] : List Nat).Nodup from by decide)⟩ w
theorem S_X23_asksKinds_0 {Z : zT} {d : Nat} {σ : Sg} {l0 : Rf} {K : kS} (F : FX ΦR σ.sh σ.r) (w : ∃ b1, l0 = Rf.ptr b1 ∧ (σ.sh[b1]? = some (Sh.obj 21) ∧ (((σ.i b1 0) = 9 → K (.inl (some (.int 1))) σ) ∧ (¬ (σ.i b1 0) = 9 → ((σ.r b1 5) = Rf.nul → B_X23_asksKinds_26 Z (d + 1) σ b1 K) ∧ (¬ (σ.r b1 5) = Rf.nul → B_X23_asksKinds_0 Z d σ (σ.r b1 5) (yI K fun v6 τ4 => (¬ v6 = 0 → K (.inl (some (.int 1))) τ4) ∧ (v6 = 0 → B_X23_asksKinds_26 Z (d + 1) τ4 b1 K))))))) : B_X23_asksKinds_0 Z (d + 1) σ l0 K := by
  unfold B_X23_asksKinds_0
  refine ab_fin.ald (i := .aload_n 0) (n := 0) (k := 1) (pc' := 1) (Or.inl ⟨_, rfl, rfl, rfl⟩) (by decide +kernel) rfl (oR_rv _) rfl ?_
  obtain ⟨b1, e2, w⟩ := w
  rw [show rv l0 = .ref b1 from by rw [e2]; rfl]
  obtain ⟨e3, w⟩ := w
  refine ab_fin.q_rI (x := (σ.i b1 0)) (ix := 432) (ci := 21) (k := 0) (pc' := 4) (by decide +kernel) rfl (c_rI e3 rfl) rfl ?_
  refine ab_fin.s1i (i := .bipush 9) (k := 2) (pc' := 6) (n := 9) (by decide +kernel) rfl (by decide +kernel) rfl ?_
  refine ab_fin.br (c := (σ.i b1 0) = 9) (i := .if_icmp .eq 37) (off := 37) (t := 43) (pc' := 9) (r := []) (by decide +kernel) rfl (by decide +kernel) rfl (fun q => ?_) (fun q => ?_)
  · replace w := w.1 q
    refine ab_fin.s1i (i := .iconst 1) (k := 1) (pc' := 44) (n := 1) (by decide +kernel) rfl (by decide +kernel) rfl ?_
    refine ab_fin.s3 (i := .goto 4) (k := 3) (t := 48) (st' := [.int 1]) (by decide +kernel) (ab_gto (by decide +kernel)) ?_
    exact ab_fin.q_ret (i := .ireturn) (k := 1) (v := some (.int 1)) (by decide +kernel) rfl F w
  · replace w := w.2 q
    refine ab_fin.s2 (i := .aload_n 0) (k := 1) (pc' := 10) (lv' := [(0, .ref b1)]) (st' := [.ref b1]) (by decide +kernel) rfl rfl ?_
    refine ab_fin.q_rV (v := rv (σ.r b1 5)) (ix := 409) (ci := 21) (k := 5) (pc' := 13) (by decide +kernel) rfl (c_rV e3 rfl) rfl ?_
    refine ab_fin.q_nul (off := 13) (t := 26) (pc' := 16) (by decide +kernel) (oR_rv _) (by decide +kernel) rfl (fun q => ?_) (fun q => ?_)
    · replace w := w.1 (rv_null.mp q)
      exact ab_fin.lv ⟨(List.forall_mem_cons.mpr ⟨(List.Mem.head _), (fun _ h => absurd h List.not_mem_nil)⟩), (show ([0] : List Nat).Nodup from by decide)⟩ w
    · replace w := w.2 (fun z => q (rv_null.mpr z))
      refine ab_fin.s2 (i := .aload_n 0) (k := 1) (pc' := 17) (lv' := [(0, .ref b1)]) (st' := [.ref b1]) (by decide +kernel) rfl rfl ?_
      refine ab_fin.q_rV (v := rv (σ.r b1 5)) (ix := 409) (ci := 21) (k := 5) (pc' := 20) (by decide +kernel) rfl (c_rV e3 rfl) rfl ?_
      refine ab_fin.q_yI (i := .invokestatic 945) (k := 3) (y := 5987) (As := [rv (σ.r b1 5)]) (rest := []) (M' := (mX23_asksKinds, [])) (lv2 := [(0, rv (σ.r b1 5))]) (pc' := 23) (X := K) (by decide +kernel) (ab_cs rfl rfl ⟨(Nat.le_of_ble_eq_true rfl), (Nat.le_of_ble_eq_true rfl)⟩ rfl) rfl (by rw [lg_cnt]; simp only [List.map_cons, List.map_nil, cI, cL, cR1, cN1, cX1, cA (oR_rv _)]; exact Nat.le_of_ble_eq_true rfl) (by rw [lvA (oR_rv _), lvN]) rfl (hY_no fun E => rfl) w (fun v6 τ4 F5 w => ?_)
      refine ab_fin.br (c := ¬ v6 = 0) (i := .ifCond .ne 20) (off := 20) (t := 43) (pc' := 26) (r := []) (by decide +kernel) rfl (by decide +kernel) rfl (fun q => ?_) (fun q => ?_)
      · replace w := w.1 q
        refine ab_fin.s1i (i := .iconst 1) (k := 1) (pc' := 44) (n := 1) (by decide +kernel) rfl (by decide +kernel) rfl ?_
        refine ab_fin.s3 (i := .goto 4) (k := 3) (t := 48) (st' := [.int 1]) (by decide +kernel) (ab_gto (by decide +kernel)) ?_
        exact ab_fin.q_ret (i := .ireturn) (k := 1) (v := some (.int 1)) (by decide +kernel) rfl F5 w
      · replace w := w.2 (Decidable.of_not_not q)
        exact ab_fin.lv ⟨(List.forall_mem_cons.mpr ⟨(List.Mem.head _), (fun _ h => absurd h List.not_mem_nil)⟩), (show ([0] : List Nat).Nodup from by decide)⟩ w
theorem S_X23_asksKinds_26 {Z : zT} {d : Nat} {σ : Sg} {l0 : Nat} {K : kS} (F : FX ΦR σ.sh σ.r) (w : σ.sh[l0]? = some (Sh.obj 21) ∧ (((σ.r l0 6) = Rf.nul → K (.inl (some (.int 0))) σ) ∧ (¬ (σ.r l0 6) = Rf.nul → B_X23_asksKinds_0 Z d σ (σ.r l0 6) (yI K fun v4 τ2 => (v4 = 0 → K (.inl (some (.int 0))) τ2) ∧ (¬ v4 = 0 → K (.inl (some (.int 1))) τ2))))) : B_X23_asksKinds_26 Z (d + 1) σ l0 K := by
  unfold B_X23_asksKinds_26
  refine ab_fin.s2 (i := .aload_n 0) (k := 1) (pc' := 27) (lv' := [(0, .ref l0)]) (st' := [.ref l0]) (by decide +kernel) rfl rfl ?_
  obtain ⟨e1, w⟩ := w
  refine ab_fin.q_rV (v := rv (σ.r l0 6)) (ix := 414) (ci := 21) (k := 6) (pc' := 30) (by decide +kernel) rfl (c_rV e1 rfl) rfl ?_
  refine ab_fin.q_nul (off := 17) (t := 47) (pc' := 33) (by decide +kernel) (oR_rv _) (by decide +kernel) rfl (fun q => ?_) (fun q => ?_)
  · replace w := w.1 (rv_null.mp q)
    refine ab_fin.s1i (i := .iconst 0) (k := 1) (pc' := 48) (n := 0) (by decide +kernel) rfl (by decide +kernel) rfl ?_
    exact ab_fin.q_ret (i := .ireturn) (k := 1) (v := some (.int 0)) (by decide +kernel) rfl F w
  · replace w := w.2 (fun z => q (rv_null.mpr z))
    refine ab_fin.s2 (i := .aload_n 0) (k := 1) (pc' := 34) (lv' := [(0, .ref l0)]) (st' := [.ref l0]) (by decide +kernel) rfl rfl ?_
    refine ab_fin.q_rV (v := rv (σ.r l0 6)) (ix := 414) (ci := 21) (k := 6) (pc' := 37) (by decide +kernel) rfl (c_rV e1 rfl) rfl ?_
    refine ab_fin.q_yI (i := .invokestatic 945) (k := 3) (y := 5987) (As := [rv (σ.r l0 6)]) (rest := []) (M' := (mX23_asksKinds, [])) (lv2 := [(0, rv (σ.r l0 6))]) (pc' := 40) (X := K) (by decide +kernel) (ab_cs rfl rfl ⟨(Nat.le_of_ble_eq_true rfl), (Nat.le_of_ble_eq_true rfl)⟩ rfl) rfl (by rw [lg_cnt]; simp only [List.map_cons, List.map_nil, cI, cL, cR1, cN1, cX1, cA (oR_rv _)]; exact Nat.le_of_ble_eq_true rfl) (by rw [lvA (oR_rv _), lvN]) rfl (hY_no fun E => rfl) w (fun v4 τ2 F3 w => ?_)
    refine ab_fin.br (c := v4 = 0) (i := .ifCond .eq 7) (off := 7) (t := 47) (pc' := 43) (r := []) (by decide +kernel) rfl (by decide +kernel) rfl (fun q => ?_) (fun q => ?_)
    · replace w := w.1 q
      refine ab_fin.s1i (i := .iconst 0) (k := 1) (pc' := 48) (n := 0) (by decide +kernel) rfl (by decide +kernel) rfl ?_
      exact ab_fin.q_ret (i := .ireturn) (k := 1) (v := some (.int 0)) (by decide +kernel) rfl F3 w
    · replace w := w.2 q
      refine ab_fin.s1i (i := .iconst 1) (k := 1) (pc' := 44) (n := 1) (by decide +kernel) rfl (by decide +kernel) rfl ?_
      refine ab_fin.s3 (i := .goto 4) (k := 3) (t := 48) (st' := [.int 1]) (by decide +kernel) (ab_gto (by decide +kernel)) ?_
      exact ab_fin.q_ret (i := .ireturn) (k := 1) (v := some (.int 1)) (by decide +kernel) rfl F3 w
theorem S_X23_isSeveral_0 {Z : zT} {d : Nat} {σ : Sg} {l1 : Int32} {l2 : Nat} {K : kS} (F : FX ΦR σ.sh σ.r) (w : B_X23_isSeveral_10 Z (d + 1) (σ.wi 0 74 (0 : Int32)) l1 0 0 K) : B_X23_isSeveral_0 Z (d + 1) σ l1 l2 K := by
  unfold B_X23_isSeveral_0
  refine ab_fin.s2 (i := .aload_n 0) (k := 1) (pc' := 1) (lv' := [(0, .ref 0), (1, .int l1), (2, .ref l2)]) (st' := [.ref 0]) (by decide +kernel) rfl rfl ?_
  refine ab_fin.s1i (i := .iconst 0) (k := 1) (pc' := 2) (n := 0) (by decide +kernel) rfl (by decide +kernel) rfl ?_
  refine ab_fin.q_pF (ix := 711) (ci := 24) (k := 74) (h1 := conc (σ.wi 0 74 (0 : Int32))) (pc' := 5) (by decide +kernel) rfl (c_pI (v := 0) (F.s s0_0) rfl) rfl rfl rfl ?_
  refine ab_fin.s1i (i := .iconst 0) (k := 1) (pc' := 6) (n := 0) (by decide +kernel) rfl (by decide +kernel) rfl ?_
  refine ab_fin.s2 (i := .istore_n 3) (k := 1) (pc' := 7) (lv' := [(3, .int 0), (0, .ref 0), (1, .int l1), (2, .ref l2)]) (st' := []) (by decide +kernel) rfl rfl ?_
  refine ab_fin.s1i (i := .iconst 0) (k := 1) (pc' := 8) (n := 0) (by decide +kernel) rfl (by decide +kernel) rfl ?_
  refine ab_fin.s2 (i := .istore 4) (k := 2) (pc' := 10) (lv' := [(4, .int 0), (3, .int 0), (0, .ref 0), (1, .int l1), (2, .ref l2)]) (st' := []) (by decide +kernel) rfl rfl ?_
  exact ab_fin.lv ⟨(List.forall_mem_cons.mpr ⟨(List.Mem.tail _ (List.Mem.tail _ (List.Mem.head _))), (List.forall_mem_cons.mpr ⟨(List.Mem.tail _ (List.Mem.tail _ (List.Mem.tail _ (List.Mem.head _)))), (List.forall_mem_cons.mpr ⟨(List.Mem.tail _ (List.Mem.head _)), (List.forall_mem_cons.mpr ⟨(List.Mem.head _), (fun _ h => absurd h List.not_mem_nil)⟩)⟩)⟩)⟩), (show ([4, 3, 0, 1, 2] : List Nat).Nodup from by decide)⟩ w
theorem S_X23_isSeveral_10 {Z : zT} {d : Nat} {σ : Sg} {l1 : Int32} {l3 : Int32} {l4 : Int32} {K : kS} (F : FX ΦR σ.sh σ.r) (w : ((σ.i 0 102) ≤ l4 → B_X23_firstOf_0 Z d σ 2185 (yI K fun v3 τ1 => (0 ≤ v3 → K (.inl (some (.int 0))) τ1) ∧ (¬ 0 ≤ v3 → K (.inl (some (.int 1))) τ1))) ∧ (¬ (σ.i 0 102) ≤ l4 → ((σ.i 0 107) ≤ l3 → B_X23_isSeveral_64 Z (d + 1) σ l1 l3 l4 1 K) ∧ (¬ (σ.i 0 107) ≤ l3 → ib l3 120 ∧ (ib l4 120 ∧ ((¬ (σ.i 2189 l3.toNatClampNeg) = (σ.i 2186 l4.toNatClampNeg) → B_X23_isSeveral_64 Z (d + 1) σ l1 l3 l4 1 K) ∧ ((σ.i 2189 l3.toNatClampNeg) = (σ.i 2186 l4.toNatClampNeg) → (((l1 >>> (l3 &&& 31)) &&& (1 : Int32)) = 0 → B_X23_isSeveral_59 Z (d + 1) σ l1 l3 l4 0 K) ∧ (¬ ((l1 >>> (l3 &&& 31)) &&& (1 : Int32)) = 0 → B_X23_isSeveral_59 Z (d + 1) σ l1 l3 l4 1 K))))))) : B_X23_isSeveral_10 Z (d + 1) σ l1 l3 l4 K := by
  unfold B_X23_isSeveral_10
  refine ab_fin.s2 (i := .iload 4) (k := 2) (pc' := 12) (lv' := [(0, .ref 0), (1, .int l1), (3, .int l3), (4, .int l4)]) (st' := [.int l4]) (by decide +kernel) rfl rfl ?_
  refine ab_fin.s2 (i := .aload_n 0) (k := 1) (pc' := 13) (lv' := [(0, .ref 0), (1, .int l1), (3, .int l3), (4, .int l4)]) (st' := [.ref 0, .int l4]) (by decide +kernel) rfl rfl ?_
  refine ab_fin.q_rI (x := (σ.i 0 102)) (ix := 916) (ci := 24) (k := 102) (pc' := 16) (by decide +kernel) rfl (c_rI (F.s s0_0) rfl) rfl ?_
  refine ab_fin.br (c := (σ.i 0 102) ≤ l4) (i := .if_icmp .ge 88) (off := 88) (t := 104) (pc' := 19) (r := []) (by decide +kernel) rfl (by decide +kernel) rfl (fun q => ?_) (fun q => ?_)
  · replace w := w.1 q
    refine ab_fin.s2 (i := .aload_n 0) (k := 1) (pc' := 105) (lv' := [(0, .ref 0), (1, .int l1), (3, .int l3), (4, .int l4)]) (st' := [.ref 0]) (by decide +kernel) rfl rfl ?_
    refine ab_fin.s2 (i := .aload_n 0) (k := 1) (pc' := 106) (lv' := [(0, .ref 0), (1, .int l1), (3, .int l3), (4, .int l4)]) (st' := [.ref 0, .ref 0]) (by decide +kernel) rfl rfl ?_
    refine ab_fin.q_rA (b := 2185) (ix := 903) (ci := 24) (k := 100) (pc' := 109) (by decide +kernel) rfl (c_rA (F.s s0_0) rfl (rM_100 F)) rfl ?_
    refine ab_fin.q_yI (i := .invokevirtual 735) (k := 3) (y := 5971) (As := [.ref 0, .ref 2185]) (rest := []) (M' := (mX23_firstOf, [])) (lv2 := [(0, .ref 0), (1, .ref 2185)]) (pc' := 112) (X := K) (by decide +kernel) (ab_cv rfl rfl (conc_get (σ := σ) (F.s s0_0)) ⟨(Nat.le_of_ble_eq_true rfl), (Nat.le_of_ble_eq_true rfl)⟩ rfl) rfl (Nat.le_of_ble_eq_true rfl) rfl rfl (hY_no fun E => rfl) w (fun v3 τ1 F2 w => ?_)
    refine ab_fin.br (c := 0 ≤ v3) (i := .ifCond .ge 7) (off := 7) (t := 119) (pc' := 115) (r := []) (by decide +kernel) rfl (by decide +kernel) rfl (fun q => ?_) (fun q => ?_)
    · replace w := w.1 q
      refine ab_fin.s1i (i := .iconst 0) (k := 1) (pc' := 120) (n := 0) (by decide +kernel) rfl (by decide +kernel) rfl ?_
      exact ab_fin.q_ret (i := .ireturn) (k := 1) (v := some (.int 0)) (by decide +kernel) rfl F2 w
    · replace w := w.2 q
      refine ab_fin.s1i (i := .iconst 1) (k := 1) (pc' := 116) (n := 1) (by decide +kernel) rfl (by decide +kernel) rfl ?_
      refine ab_fin.s3 (i := .goto 4) (k := 3) (t := 120) (st' := [.int 1]) (by decide +kernel) (ab_gto (by decide +kernel)) ?_
      exact ab_fin.q_ret (i := .ireturn) (k := 1) (v := some (.int 1)) (by decide +kernel) rfl F2 w
  · replace w := w.2 q
    refine ab_fin.s1i (i := .iconst 1) (k := 1) (pc' := 20) (n := 1) (by decide +kernel) rfl (by decide +kernel) rfl ?_
    refine ab_fin.s2 (i := .istore 5) (k := 2) (pc' := 22) (lv' := [(5, .int 1), (0, .ref 0), (1, .int l1), (3, .int l3), (4, .int l4)]) (st' := []) (by decide +kernel) rfl rfl ?_
    refine ab_fin.s2 (i := .iload_n 3) (k := 1) (pc' := 23) (lv' := [(5, .int 1), (0, .ref 0), (1, .int l1), (3, .int l3), (4, .int l4)]) (st' := [.int l3]) (by decide +kernel) rfl rfl ?_
    refine ab_fin.s2 (i := .aload_n 0) (k := 1) (pc' := 24) (lv' := [(5, .int 1), (0, .ref 0), (1, .int l1), (3, .int l3), (4, .int l4)]) (st' := [.ref 0, .int l3]) (by decide +kernel) rfl rfl ?_
    refine ab_fin.q_rI (x := (σ.i 0 107)) (ix := 919) (ci := 24) (k := 107) (pc' := 27) (by decide +kernel) rfl (c_rI (F.s s0_0) rfl) rfl ?_
    refine ab_fin.br (c := (σ.i 0 107) ≤ l3) (i := .if_icmp .ge 37) (off := 37) (t := 64) (pc' := 30) (r := []) (by decide +kernel) rfl (by decide +kernel) rfl (fun q => ?_) (fun q => ?_)
    · replace w := w.1 q
      exact ab_fin.lv ⟨(List.forall_mem_cons.mpr ⟨(List.Mem.tail _ (List.Mem.head _)), (List.forall_mem_cons.mpr ⟨(List.Mem.tail _ (List.Mem.tail _ (List.Mem.head _))), (List.forall_mem_cons.mpr ⟨(List.Mem.tail _ (List.Mem.tail _ (List.Mem.tail _ (List.Mem.head _)))), (List.forall_mem_cons.mpr ⟨(List.Mem.tail _ (List.Mem.tail _ (List.Mem.tail _ (List.Mem.tail _ (List.Mem.head _))))), (List.forall_mem_cons.mpr ⟨(List.Mem.head _), (fun _ h => absurd h List.not_mem_nil)⟩)⟩)⟩)⟩)⟩), (show ([5, 0, 1, 3, 4] : List Nat).Nodup from by decide)⟩ w
    · replace w := w.2 q
      refine ab_fin.s2 (i := .aload_n 0) (k := 1) (pc' := 31) (lv' := [(5, .int 1), (0, .ref 0), (1, .int l1), (3, .int l3), (4, .int l4)]) (st' := [.ref 0]) (by decide +kernel) rfl rfl ?_
      refine ab_fin.q_rA (b := 2189) (ix := 928) (ci := 24) (k := 105) (pc' := 34) (by decide +kernel) rfl (c_rA (F.s s0_0) rfl (rM_105 F)) rfl ?_
      refine ab_fin.s2 (i := .iload_n 3) (k := 1) (pc' := 35) (lv' := [(5, .int 1), (0, .ref 0), (1, .int l1), (3, .int l3), (4, .int l4)]) (st' := [.int l3, .ref 2189]) (by decide +kernel) rfl rfl ?_
      obtain ⟨e4, w⟩ := w
      refine ab_fin.q_eI (x := (σ.i 2189 l3.toNatClampNeg)) (pc' := 36) (by decide +kernel) (c_eI' (F.s s0_2189) e4 rfl) rfl ?_
      refine ab_fin.s2 (i := .aload_n 0) (k := 1) (pc' := 37) (lv' := [(5, .int 1), (0, .ref 0), (1, .int l1), (3, .int l3), (4, .int l4)]) (st' := [.ref 0, .int (σ.i 2189 l3.toNatClampNeg)]) (by decide +kernel) rfl rfl ?_
      refine ab_fin.q_rA (b := 2186) (ix := 922) (ci := 24) (k := 101) (pc' := 40) (by decide +kernel) rfl (c_rA (F.s s0_0) rfl (rM_101 F)) rfl ?_
      refine ab_fin.s2 (i := .iload 4) (k := 2) (pc' := 42) (lv' := [(5, .int 1), (0, .ref 0), (1, .int l1), (3, .int l3), (4, .int l4)]) (st' := [.int l4, .ref 2186, .int (σ.i 2189 l3.toNatClampNeg)]) (by decide +kernel) rfl rfl ?_
      obtain ⟨e5, w⟩ := w
      refine ab_fin.q_eI (x := (σ.i 2186 l4.toNatClampNeg)) (pc' := 43) (by decide +kernel) (c_eI' (F.s s0_2186) e5 rfl) rfl ?_
      refine ab_fin.br (c := ¬ (σ.i 2189 l3.toNatClampNeg) = (σ.i 2186 l4.toNatClampNeg)) (i := .if_icmp .ne 21) (off := 21) (t := 64) (pc' := 46) (r := []) (by decide +kernel) rfl (by decide +kernel) rfl (fun q => ?_) (fun q => ?_)
      · replace w := w.1 q
        exact ab_fin.lv ⟨(List.forall_mem_cons.mpr ⟨(List.Mem.tail _ (List.Mem.head _)), (List.forall_mem_cons.mpr ⟨(List.Mem.tail _ (List.Mem.tail _ (List.Mem.head _))), (List.forall_mem_cons.mpr ⟨(List.Mem.tail _ (List.Mem.tail _ (List.Mem.tail _ (List.Mem.head _)))), (List.forall_mem_cons.mpr ⟨(List.Mem.tail _ (List.Mem.tail _ (List.Mem.tail _ (List.Mem.tail _ (List.Mem.head _))))), (List.forall_mem_cons.mpr ⟨(List.Mem.head _), (fun _ h => absurd h List.not_mem_nil)⟩)⟩)⟩)⟩)⟩), (show ([5, 0, 1, 3, 4] : List Nat).Nodup from by decide)⟩ w
      · replace w := w.2 (Decidable.of_not_not q)
        refine ab_fin.s2 (i := .iload_n 1) (k := 1) (pc' := 47) (lv' := [(5, .int 1), (0, .ref 0), (1, .int l1), (3, .int l3), (4, .int l4)]) (st' := [.int l1]) (by decide +kernel) rfl rfl ?_
        refine ab_fin.s2 (i := .iload_n 3) (k := 1) (pc' := 48) (lv' := [(5, .int 1), (0, .ref 0), (1, .int l1), (3, .int l3), (4, .int l4)]) (st' := [.int l3, .int l1]) (by decide +kernel) rfl rfl ?_
        refine ab_fin.s1 (i := .ishr) (k := 1) (pc' := 49) (st' := [.int (l1 >>> (l3 &&& 31))]) (by decide +kernel) rfl rfl ?_
        refine ab_fin.s1i (i := .iconst 1) (k := 1) (pc' := 50) (n := 1) (by decide +kernel) rfl (by decide +kernel) rfl ?_
        refine ab_fin.s1 (i := .iand) (k := 1) (pc' := 51) (st' := [.int ((l1 >>> (l3 &&& 31)) &&& (1 : Int32))]) (by decide +kernel) rfl rfl ?_
        refine ab_fin.br (c := ((l1 >>> (l3 &&& 31)) &&& (1 : Int32)) = 0) (i := .ifCond .eq 7) (off := 7) (t := 58) (pc' := 54) (r := []) (by decide +kernel) rfl (by decide +kernel) rfl (fun q => ?_) (fun q => ?_)
        · replace w := w.1 q
          refine ab_fin.s1i (i := .iconst 0) (k := 1) (pc' := 59) (n := 0) (by decide +kernel) rfl (by decide +kernel) rfl ?_
          exact ab_fin.lv ⟨(List.forall_mem_cons.mpr ⟨(List.Mem.tail _ (List.Mem.head _)), (List.forall_mem_cons.mpr ⟨(List.Mem.tail _ (List.Mem.tail _ (List.Mem.head _))), (List.forall_mem_cons.mpr ⟨(List.Mem.tail _ (List.Mem.tail _ (List.Mem.tail _ (List.Mem.head _)))), (List.forall_mem_cons.mpr ⟨(List.Mem.tail _ (List.Mem.tail _ (List.Mem.tail _ (List.Mem.tail _ (List.Mem.head _))))), (fun _ h => absurd h List.not_mem_nil)⟩)⟩)⟩)⟩), (show ([5, 0, 1, 3, 4] : List Nat).Nodup from by decide)⟩ w
        · replace w := w.2 q
          refine ab_fin.s1i (i := .iconst 1) (k := 1) (pc' := 55) (n := 1) (by decide +kernel) rfl (by decide +kernel) rfl ?_
          refine ab_fin.s3 (i := .goto 4) (k := 3) (t := 59) (st' := [.int 1]) (by decide +kernel) (ab_gto (by decide +kernel)) ?_
          exact ab_fin.lv ⟨(List.forall_mem_cons.mpr ⟨(List.Mem.tail _ (List.Mem.head _)), (List.forall_mem_cons.mpr ⟨(List.Mem.tail _ (List.Mem.tail _ (List.Mem.head _))), (List.forall_mem_cons.mpr ⟨(List.Mem.tail _ (List.Mem.tail _ (List.Mem.tail _ (List.Mem.head _)))), (List.forall_mem_cons.mpr ⟨(List.Mem.tail _ (List.Mem.tail _ (List.Mem.tail _ (List.Mem.tail _ (List.Mem.head _))))), (fun _ h => absurd h List.not_mem_nil)⟩)⟩)⟩)⟩), (show ([5, 0, 1, 3, 4] : List Nat).Nodup from by decide)⟩ w
theorem S_X23_isSeveral_59 {Z : zT} {d : Nat} {σ : Sg} {l1 : Int32} {l3 : Int32} {l4 : Int32} {s0 : Int32} {K : kS} (F : FX ΦR σ.sh σ.r) (w : B_X23_isSeveral_64 Z (d + 1) σ l1 (l3 + 1) l4 s0 K) : B_X23_isSeveral_59 Z (d + 1) σ l1 l3 l4 s0 K := by
  unfold B_X23_isSeveral_59
  refine ab_fin.s2 (i := .istore 5) (k := 2) (pc' := 61) (lv' := [(5, .int s0), (0, .ref 0), (1, .int l1), (3, .int l3), (4, .int l4)]) (st' := []) (by decide +kernel) rfl rfl ?_
  refine ab_fin.q_inc (n := 3) (c := 1) (pc' := 64) (lv' := [(3, .int (l3 + 1)), (5, .int s0), (0, .ref 0), (1, .int l1), (4, .int l4)]) (by decide +kernel) (by decide) rfl rfl rfl rfl ?_
  exact ab_fin.lv ⟨(List.forall_mem_cons.mpr ⟨(List.Mem.tail _ (List.Mem.tail _ (List.Mem.head _))), (List.forall_mem_cons.mpr ⟨(List.Mem.tail _ (List.Mem.tail _ (List.Mem.tail _ (List.Mem.head _)))), (List.forall_mem_cons.mpr ⟨(List.Mem.head _), (List.forall_mem_cons.mpr ⟨(List.Mem.tail _ (List.Mem.tail _ (List.Mem.tail _ (List.Mem.tail _ (List.Mem.head _))))), (List.forall_mem_cons.mpr ⟨(List.Mem.tail _ (List.Mem.head _)), (fun _ h => absurd h List.not_mem_nil)⟩)⟩)⟩)⟩)⟩), (show ([3, 5, 0, 1, 4] : List Nat).Nodup from by decide)⟩ w
theorem S_X23_isSeveral_64 {Z : zT} {d : Nat} {σ : Sg} {l1 : Int32} {l3 : Int32} {l4 : Int32} {l5 : Int32} {K : kS} (F : FX ΦR σ.sh σ.r) (w : (¬ l5 = 0 → ib l4 120 ∧ (ib (σ.i 0 74) 120 ∧ (B_X23_isSeveral_10 Z (d + 1) ((σ.wi 2131 ((σ.i 0 74).toNatClampNeg) (σ.i 2186 l4.toNatClampNeg)).wi 0 74 ((σ.i 0 74) + (1 : Int32))) l1 l3 (l4 + 1) K))) ∧ (l5 = 0 → B_X23_isSeveral_10 Z (d + 1) σ l1 l3 (l4 + 1) K)) : B_X23_isSeveral_64 Z (d + 1) σ l1 l3 l4 l5 K := by
  unfold B_X23_isSeveral_64
  refine ab_fin.s2 (i := .iload 5) (k := 2) (pc' := 66) (lv' := [(0, .ref 0), (1, .int l1), (3, .int l3), (4, .int l4), (5, .int l5)]) (st' := [.int l5]) (by decide +kernel) rfl rfl ?_
  refine ab_fin.br (c := ¬ l5 = 0) (i := .ifCond .ne 6) (off := 6) (t := 72) (pc' := 69) (r := []) (by decide +kernel) rfl (by decide +kernel) rfl (fun q => ?_) (fun q => ?_)
  · replace w := w.1 q
    refine ab_fin.s2 (i := .aload_n 0) (k := 1) (pc' := 73) (lv' := [(0, .ref 0), (1, .int l1), (3, .int l3), (4, .int l4), (5, .int l5)]) (st' := [.ref 0]) (by decide +kernel) rfl rfl ?_
    refine ab_fin.q_rA (b := 2131) (ix := 714) (ci := 24) (k := 72) (pc' := 76) (by decide +kernel) rfl (c_rA (F.s s0_0) rfl (rM_72 F)) rfl ?_
    refine ab_fin.s2 (i := .aload_n 0) (k := 1) (pc' := 77) (lv' := [(0, .ref 0), (1, .int l1), (3, .int l3), (4, .int l4), (5, .int l5)]) (st' := [.ref 0, .ref 2131]) (by decide +kernel) rfl rfl ?_
    refine ab_fin.q_rI (x := (σ.i 0 74)) (ix := 711) (ci := 24) (k := 74) (pc' := 80) (by decide +kernel) rfl (c_rI (F.s s0_0) rfl) rfl ?_
    refine ab_fin.s2 (i := .aload_n 0) (k := 1) (pc' := 81) (lv' := [(0, .ref 0), (1, .int l1), (3, .int l3), (4, .int l4), (5, .int l5)]) (st' := [.ref 0, .int (σ.i 0 74), .ref 2131]) (by decide +kernel) rfl rfl ?_
    refine ab_fin.q_rA (b := 2186) (ix := 922) (ci := 24) (k := 101) (pc' := 84) (by decide +kernel) rfl (c_rA (F.s s0_0) rfl (rM_101 F)) rfl ?_
    refine ab_fin.s2 (i := .iload 4) (k := 2) (pc' := 86) (lv' := [(0, .ref 0), (1, .int l1), (3, .int l3), (4, .int l4), (5, .int l5)]) (st' := [.int l4, .ref 2186, .int (σ.i 0 74), .ref 2131]) (by decide +kernel) rfl rfl ?_
    obtain ⟨e1, w⟩ := w
    refine ab_fin.q_eI (x := (σ.i 2186 l4.toNatClampNeg)) (pc' := 87) (by decide +kernel) (c_eI' (F.s s0_2186) e1 rfl) rfl ?_
    obtain ⟨e2, w⟩ := w
    refine ab_fin.q_sI (h1 := conc (σ.wi 2131 ((σ.i 0 74).toNatClampNeg) (σ.i 2186 l4.toNatClampNeg))) (pc' := 88) (by decide +kernel) (c_sI' (F.s s0_2131) e2 rfl) rfl ?_
    refine ab_fin.s2 (i := .aload_n 0) (k := 1) (pc' := 89) (lv' := [(0, .ref 0), (1, .int l1), (3, .int l3), (4, .int l4), (5, .int l5)]) (st' := [.ref 0]) (by decide +kernel) rfl rfl ?_
    refine ab_fin.s1 (i := .dup) (k := 1) (pc' := 90) (st' := [.ref 0, .ref 0]) (by decide +kernel) rfl rfl ?_
    refine ab_fin.q_rI (x := (σ.i 0 74)) (ix := 711) (ci := 24) (k := 74) (pc' := 93) (by decide +kernel) rfl (c_rI (F.s s0_0) rfl) rfl ?_
    refine ab_fin.s1i (i := .iconst 1) (k := 1) (pc' := 94) (n := 1) (by decide +kernel) rfl (by decide +kernel) rfl ?_
    refine ab_fin.s1 (i := .iadd) (k := 1) (pc' := 95) (st' := [.int ((σ.i 0 74) + (1 : Int32)), .ref 0]) (by decide +kernel) rfl rfl ?_
    refine ab_fin.q_pF (ix := 711) (ci := 24) (k := 74) (h1 := conc ((σ.wi 2131 ((σ.i 0 74).toNatClampNeg) (σ.i 2186 l4.toNatClampNeg)).wi 0 74 ((σ.i 0 74) + (1 : Int32)))) (pc' := 98) (by decide +kernel) rfl (c_pI (v := ((σ.i 0 74) + (1 : Int32))) (F.s s0_0) rfl) rfl rfl rfl ?_
    refine ab_fin.q_inc (n := 4) (c := 1) (pc' := 101) (lv' := [(4, .int (l4 + 1)), (0, .ref 0), (1, .int l1), (3, .int l3), (5, .int l5)]) (by decide +kernel) (by decide) rfl rfl rfl rfl ?_
    refine ab_fin.s3 (i := .goto (-91)) (k := 3) (t := 10) (st' := []) (by decide +kernel) (ab_gto (by decide +kernel)) ?_
    exact ab_fin.lv ⟨(List.forall_mem_cons.mpr ⟨(List.Mem.tail _ (List.Mem.head _)), (List.forall_mem_cons.mpr ⟨(List.Mem.tail _ (List.Mem.tail _ (List.Mem.head _))), (List.forall_mem_cons.mpr ⟨(List.Mem.tail _ (List.Mem.tail _ (List.Mem.tail _ (List.Mem.head _)))), (List.forall_mem_cons.mpr ⟨(List.Mem.head _), (fun _ h => absurd h List.not_mem_nil)⟩)⟩)⟩)⟩), (show ([4, 0, 1, 3, 5] : List Nat).Nodup from by decide)⟩ w
  · replace w := w.2 (Decidable.of_not_not q)
    refine ab_fin.s3 (i := .goto 29) (k := 3) (t := 98) (st' := []) (by decide +kernel) (ab_gto (by decide +kernel)) ?_
    refine ab_fin.q_inc (n := 4) (c := 1) (pc' := 101) (lv' := [(4, .int (l4 + 1)), (0, .ref 0), (1, .int l1), (3, .int l3), (5, .int l5)]) (by decide +kernel) (by decide) rfl rfl rfl rfl ?_
    refine ab_fin.s3 (i := .goto (-91)) (k := 3) (t := 10) (st' := []) (by decide +kernel) (ab_gto (by decide +kernel)) ?_
    exact ab_fin.lv ⟨(List.forall_mem_cons.mpr ⟨(List.Mem.tail _ (List.Mem.head _)), (List.forall_mem_cons.mpr ⟨(List.Mem.tail _ (List.Mem.tail _ (List.Mem.head _))), (List.forall_mem_cons.mpr ⟨(List.Mem.tail _ (List.Mem.tail _ (List.Mem.tail _ (List.Mem.head _)))), (List.forall_mem_cons.mpr ⟨(List.Mem.head _), (fun _ h => absurd h List.not_mem_nil)⟩)⟩)⟩)⟩), (show ([4, 0, 1, 3, 5] : List Nat).Nodup from by decide)⟩ w
theorem S_X23_beginning_0 {Z : zT} {d : Nat} {σ : Sg}  {K : kS} (F : FX ΦR σ.sh σ.r) (w : B_X23_tellKind_0 Z d ((((((σ.wi 0 4 (0 : Int32)).wi 0 5 (0 : Int32)).wi 0 6 (0 : Int32)).wi 0 7 (0 : Int32)).wi 5 1 (0 : Int32)).wr 0 10 Rf.nul) (Rf.old 112) 1 (yN K fun τ2 => B_X23_tellKind_0 Z d τ2 (Rf.old 114) 0 (yN K fun τ4 => B_X23_tellKind_0 Z d τ4 (Rf.old 116) 0 (yN K fun τ6 => B_X23_rebuild_0 Z d τ6  (yN K fun τ8 => K (.inl none) τ8))))) : B_X23_beginning_0 Z (d + 1) σ  K := by
  unfold B_X23_beginning_0
  refine ab_fin.s2 (i := .aload_n 0) (k := 1) (pc' := 1) (lv' := [(0, .ref 0)]) (st' := [.ref 0]) (by decide +kernel) rfl rfl ?_
  refine ab_fin.s1i (i := .iconst 0) (k := 1) (pc' := 2) (n := 0) (by decide +kernel) rfl (by decide +kernel) rfl ?_
  refine ab_fin.q_pF (ix := 13) (ci := 24) (k := 4) (h1 := conc (σ.wi 0 4 (0 : Int32))) (pc' := 5) (by decide +kernel) rfl (c_pI (v := 0) (F.s s0_0) rfl) rfl rfl rfl ?_
  refine ab_fin.s2 (i := .aload_n 0) (k := 1) (pc' := 6) (lv' := [(0, .ref 0)]) (st' := [.ref 0]) (by decide +kernel) rfl rfl ?_
  refine ab_fin.s1i (i := .iconst 0) (k := 1) (pc' := 7) (n := 0) (by decide +kernel) rfl (by decide +kernel) rfl ?_
  refine ab_fin.q_pF (ix := 31) (ci := 24) (k := 5) (h1 := conc ((σ.wi 0 4 (0 : Int32)).wi 0 5 (0 : Int32))) (pc' := 10) (by decide +kernel) rfl (c_pI (v := 0) (F.s s0_0) rfl) rfl rfl rfl ?_
  refine ab_fin.s2 (i := .aload_n 0) (k := 1) (pc' := 11) (lv' := [(0, .ref 0)]) (st' := [.ref 0]) (by decide +kernel) rfl rfl ?_
  refine ab_fin.s1i (i := .iconst 0) (k := 1) (pc' := 12) (n := 0) (by decide +kernel) rfl (by decide +kernel) rfl ?_
  refine ab_fin.q_pF (ix := 312) (ci := 24) (k := 6) (h1 := conc (((σ.wi 0 4 (0 : Int32)).wi 0 5 (0 : Int32)).wi 0 6 (0 : Int32))) (pc' := 15) (by decide +kernel) rfl (c_pI (v := 0) (F.s s0_0) rfl) rfl rfl rfl ?_
  refine ab_fin.s2 (i := .aload_n 0) (k := 1) (pc' := 16) (lv' := [(0, .ref 0)]) (st' := [.ref 0]) (by decide +kernel) rfl rfl ?_
  refine ab_fin.s1i (i := .iconst 0) (k := 1) (pc' := 17) (n := 0) (by decide +kernel) rfl (by decide +kernel) rfl ?_
  refine ab_fin.q_pF (ix := 41) (ci := 24) (k := 7) (h1 := conc ((((σ.wi 0 4 (0 : Int32)).wi 0 5 (0 : Int32)).wi 0 6 (0 : Int32)).wi 0 7 (0 : Int32))) (pc' := 20) (by decide +kernel) rfl (c_pI (v := 0) (F.s s0_0) rfl) rfl rfl rfl ?_
  refine ab_fin.s2 (i := .aload_n 0) (k := 1) (pc' := 21) (lv' := [(0, .ref 0)]) (st' := [.ref 0]) (by decide +kernel) rfl rfl ?_
  refine ab_fin.q_rA (b := 5) (ix := 349) (ci := 24) (k := 8) (pc' := 24) (by decide +kernel) rfl (c_rA (F.s s0_0) rfl (rM_8 F)) rfl ?_
  refine ab_fin.s1i (i := .iconst 0) (k := 1) (pc' := 25) (n := 0) (by decide +kernel) rfl (by decide +kernel) rfl ?_
  refine ab_fin.q_pF (ix := 983) (ci := 22) (k := 1) (h1 := conc (((((σ.wi 0 4 (0 : Int32)).wi 0 5 (0 : Int32)).wi 0 6 (0 : Int32)).wi 0 7 (0 : Int32)).wi 5 1 (0 : Int32))) (pc' := 28) (by decide +kernel) rfl (c_pI (v := 0) (F.s s0_5) rfl) rfl rfl rfl ?_
  refine ab_fin.s2 (i := .aload_n 0) (k := 1) (pc' := 29) (lv' := [(0, .ref 0)]) (st' := [.ref 0]) (by decide +kernel) rfl rfl ?_
  refine ab_fin.s1 (i := .aconst_null) (k := 1) (pc' := 30) (st' := [.null, .ref 0]) (by decide +kernel) rfl rfl ?_
  have F1 := FX.w (Φ := ΦR) (a := 0) (k := 10) (v := Rf.nul) F (cM_10)
  refine ab_fin.q_pF (ix := 885) (ci := 24) (k := 10) (h1 := conc ((((((σ.wi 0 4 (0 : Int32)).wi 0 5 (0 : Int32)).wi 0 6 (0 : Int32)).wi 0 7 (0 : Int32)).wi 5 1 (0 : Int32)).wr 0 10 Rf.nul)) (pc' := 33) (by decide +kernel) rfl (c_pR (v := Rf.nul) (F.s s0_0) rfl) rfl rfl rfl ?_
  refine ab_fin.s2 (i := .aload_n 0) (k := 1) (pc' := 34) (lv' := [(0, .ref 0)]) (st' := [.ref 0]) (by decide +kernel) rfl rfl ?_
  refine ab_fin.ldcw (ix := 985) (j := 112) (pc' := 37) (by decide +kernel) rfl rfl rfl ?_
  refine ab_fin.s1i (i := .iconst 1) (k := 1) (pc' := 38) (n := 1) (by decide +kernel) rfl (by decide +kernel) rfl ?_
  refine ab_fin.q_yN (i := .invokevirtual 987) (k := 3) (y := 5991) (As := [.ref 0, .retAddr 112, .int 1]) (rest := []) (M' := (mX23_tellKind, [])) (lv2 := [(0, .ref 0), (1, .retAddr 112), (2, .int 1)]) (pc' := 41) (X := K) (by decide +kernel) (ab_cv rfl rfl (conc_get (σ := ((((((σ.wi 0 4 (0 : Int32)).wi 0 5 (0 : Int32)).wi 0 6 (0 : Int32)).wi 0 7 (0 : Int32)).wi 5 1 (0 : Int32)).wr 0 10 Rf.nul)) (F1.s s0_0)) ⟨(Nat.le_of_ble_eq_true rfl), (Nat.le_of_ble_eq_true rfl)⟩ rfl) rfl (Nat.le_of_ble_eq_true rfl) rfl rfl (hY_no fun E => rfl) w (fun τ2 F3 w => ?_)
  refine ab_fin.s2 (i := .aload_n 0) (k := 1) (pc' := 42) (lv' := [(0, .ref 0)]) (st' := [.ref 0]) (by decide +kernel) rfl rfl ?_
  refine ab_fin.ldcw (ix := 991) (j := 114) (pc' := 45) (by decide +kernel) rfl rfl rfl ?_
  refine ab_fin.s1i (i := .iconst 0) (k := 1) (pc' := 46) (n := 0) (by decide +kernel) rfl (by decide +kernel) rfl ?_
  refine ab_fin.q_yN (i := .invokevirtual 987) (k := 3) (y := 5991) (As := [.ref 0, .retAddr 114, .int 0]) (rest := []) (M' := (mX23_tellKind, [])) (lv2 := [(0, .ref 0), (1, .retAddr 114), (2, .int 0)]) (pc' := 49) (X := K) (by decide +kernel) (ab_cv rfl rfl (conc_get (σ := τ2) (F3.s s0_0)) ⟨(Nat.le_of_ble_eq_true rfl), (Nat.le_of_ble_eq_true rfl)⟩ rfl) rfl (Nat.le_of_ble_eq_true rfl) rfl rfl (hY_no fun E => rfl) w (fun τ4 F5 w => ?_)
  refine ab_fin.s2 (i := .aload_n 0) (k := 1) (pc' := 50) (lv' := [(0, .ref 0)]) (st' := [.ref 0]) (by decide +kernel) rfl rfl ?_
  refine ab_fin.ldcw (ix := 993) (j := 116) (pc' := 53) (by decide +kernel) rfl rfl rfl ?_
  refine ab_fin.s1i (i := .iconst 0) (k := 1) (pc' := 54) (n := 0) (by decide +kernel) rfl (by decide +kernel) rfl ?_
  refine ab_fin.q_yN (i := .invokevirtual 987) (k := 3) (y := 5991) (As := [.ref 0, .retAddr 116, .int 0]) (rest := []) (M' := (mX23_tellKind, [])) (lv2 := [(0, .ref 0), (1, .retAddr 116), (2, .int 0)]) (pc' := 57) (X := K) (by decide +kernel) (ab_cv rfl rfl (conc_get (σ := τ4) (F5.s s0_0)) ⟨(Nat.le_of_ble_eq_true rfl), (Nat.le_of_ble_eq_true rfl)⟩ rfl) rfl (Nat.le_of_ble_eq_true rfl) rfl rfl (hY_no fun E => rfl) w (fun τ6 F7 w => ?_)
  refine ab_fin.s2 (i := .aload_n 0) (k := 1) (pc' := 58) (lv' := [(0, .ref 0)]) (st' := [.ref 0]) (by decide +kernel) rfl rfl ?_
  refine ab_fin.q_yN (i := .invokevirtual 995) (k := 3) (y := 5938) (As := [.ref 0]) (rest := []) (M' := (mX23_rebuild, [])) (lv2 := [(0, .ref 0)]) (pc' := 61) (X := K) (by decide +kernel) (ab_cv rfl rfl (conc_get (σ := τ6) (F7.s s0_0)) ⟨(Nat.le_of_ble_eq_true rfl), (Nat.le_of_ble_eq_true rfl)⟩ rfl) rfl (Nat.le_of_ble_eq_true rfl) rfl rfl (hY_no fun E => rfl) w (fun τ8 F9 w => ?_)
  exact ab_fin.q_ret (i := .return_) (k := 1) (v := none) (by decide +kernel) rfl F9 w

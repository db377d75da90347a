/-! THE REFERENCE, PIECE BY PIECE (printed by sgen.py), 10 -/
theorem S_X23_tellKind_0 {Z : zT} {d : Nat} {σ : Sg} {l1 : Rf} {l2 : Int32} {K : kS} (F : FX ΦR σ.sh σ.r) (w : ib (σ.i 0 4) 24 ∧ (B_X19_be__0 Z d σ ((2193 + 9 * ((σ.i 0 4).toNatClampNeg)) + 1) l1 (yN K fun τ2 => nz .boolean l2 ∧ ((l2 = 0 → B_X23_tellKind_33 Z (d + 1) (τ2.wi (2193 + 9 * ((σ.i 0 4).toNatClampNeg)) 1 l2) (2193 + 9 * ((σ.i 0 4).toNatClampNeg)) (2193 + 9 * ((σ.i 0 4).toNatClampNeg)) 1 K) ∧ (¬ l2 = 0 → B_X23_tellKind_33 Z (d + 1) (τ2.wi (2193 + 9 * ((σ.i 0 4).toNatClampNeg)) 1 l2) (2193 + 9 * ((σ.i 0 4).toNatClampNeg)) (2193 + 9 * ((σ.i 0 4).toNatClampNeg)) 0 K))))) : B_X23_tellKind_0 Z (d + 1) σ l1 l2 K := by
  unfold B_X23_tellKind_0
  refine ab_fin.s2 (i := .aload_n 0) (k := 1) (pc' := 1) (lv' := [(0, .ref 0), (1, rv l1), (2, .int l2)]) (st' := [.ref 0]) (by decide +kernel) rfl rfl ?_
  refine ab_fin.q_rA (b := 1) (ix := 17) (ci := 24) (k := 0) (pc' := 4) (by decide +kernel) rfl (c_rA (F.s s0_0) rfl (rM_0 F)) rfl ?_
  refine ab_fin.s2 (i := .aload_n 0) (k := 1) (pc' := 5) (lv' := [(0, .ref 0), (1, rv l1), (2, .int l2)]) (st' := [.ref 0, .ref 1]) (by decide +kernel) rfl rfl ?_
  refine ab_fin.q_rI (x := (σ.i 0 4)) (ix := 13) (ci := 24) (k := 4) (pc' := 8) (by decide +kernel) rfl (c_rI (F.s s0_0) rfl) rfl ?_
  obtain ⟨e1, w⟩ := w
  refine ab_fin.q_eA (b := (2193 + 9 * ((σ.i 0 4).toNatClampNeg))) (pc' := 9) (by decide +kernel) (c_eA' (F.s s0_1) (by decide) rfl e1 rfl (rE_4 F s0_1)) rfl ?_
  refine ab_fin.s2 (i := .astore_n 3) (k := 1) (pc' := 10) (lv' := [(3, .ref (2193 + 9 * ((σ.i 0 4).toNatClampNeg))), (0, .ref 0), (1, rv l1), (2, .int l2)]) (st' := []) (by decide +kernel) rfl rfl ?_
  refine ab_fin.s2 (i := .aload_n 3) (k := 1) (pc' := 11) (lv' := [(3, .ref (2193 + 9 * ((σ.i 0 4).toNatClampNeg))), (0, .ref 0), (1, rv l1), (2, .int l2)]) (st' := [.ref (2193 + 9 * ((σ.i 0 4).toNatClampNeg))]) (by decide +kernel) rfl rfl ?_
  refine ab_fin.q_rA (b := ((2193 + 9 * ((σ.i 0 4).toNatClampNeg)) + 1)) (ix := 21) (ci := 18) (k := 0) (pc' := 14) (by decide +kernel) rfl (c_rA (F.s (kE_1 e1.2)) rfl (rO_18_0 F (kE_1 e1.2))) rfl ?_
  refine ab_fin.ald (i := .aload_n 1) (n := 1) (k := 1) (pc' := 15) (Or.inl ⟨_, rfl, rfl, rfl⟩) (by decide +kernel) rfl (oR_rv _) rfl ?_
  refine ab_fin.q_yN (i := .invokevirtual 998) (k := 3) (y := 4866) (As := [.ref ((2193 + 9 * ((σ.i 0 4).toNatClampNeg)) + 1), rv l1]) (rest := []) (M' := (mX19_be_, [])) (lv2 := [(0, .ref ((2193 + 9 * ((σ.i 0 4).toNatClampNeg)) + 1)), (1, rv l1)]) (pc' := 18) (X := K) (by decide +kernel) (ab_cv rfl rfl (conc_get (σ := σ) (F.s (kF_18_1 (kE_1 e1.2)))) ⟨(Nat.le_of_ble_eq_true rfl), (Nat.le_of_ble_eq_true rfl)⟩ rfl) rfl (by rw [lg_cnt]; simp only [List.map_cons, List.map_nil, cI, cL, cR1, cN1, cX1, cA (oR_rv _)]; exact Nat.le_of_ble_eq_true rfl) (by rw [lvA (v := .ref ((2193 + 9 * ((σ.i 0 4).toNatClampNeg)) + 1)) rfl, lvA (oR_rv _), lvN]) rfl (hY_no fun E => rfl) w (fun τ2 F3 w => ?_)
  refine ab_fin.s2 (i := .aload_n 3) (k := 1) (pc' := 19) (lv' := [(3, .ref (2193 + 9 * ((σ.i 0 4).toNatClampNeg))), (0, .ref 0), (1, rv l1), (2, .int l2)]) (st' := [.ref (2193 + 9 * ((σ.i 0 4).toNatClampNeg))]) (by decide +kernel) rfl rfl ?_
  refine ab_fin.s2 (i := .iload_n 2) (k := 1) (pc' := 20) (lv' := [(3, .ref (2193 + 9 * ((σ.i 0 4).toNatClampNeg))), (0, .ref 0), (1, rv l1), (2, .int l2)]) (st' := [.int l2, .ref (2193 + 9 * ((σ.i 0 4).toNatClampNeg))]) (by decide +kernel) rfl rfl ?_
  obtain ⟨e4, w⟩ := w
  refine ab_fin.q_pF (ix := 290) (ci := 18) (k := 1) (h1 := conc (τ2.wi (2193 + 9 * ((σ.i 0 4).toNatClampNeg)) 1 l2)) (pc' := 23) (by decide +kernel) rfl (c_pI (v := l2) (F3.s (kE_1 e1.2)) rfl) e4.1 e4.2 rfl ?_
  refine ab_fin.s2 (i := .aload_n 3) (k := 1) (pc' := 24) (lv' := [(3, .ref (2193 + 9 * ((σ.i 0 4).toNatClampNeg))), (0, .ref 0), (1, rv l1), (2, .int l2)]) (st' := [.ref (2193 + 9 * ((σ.i 0 4).toNatClampNeg))]) (by decide +kernel) rfl rfl ?_
  refine ab_fin.s2 (i := .iload_n 2) (k := 1) (pc' := 25) (lv' := [(3, .ref (2193 + 9 * ((σ.i 0 4).toNatClampNeg))), (0, .ref 0), (1, rv l1), (2, .int l2)]) (st' := [.int l2, .ref (2193 + 9 * ((σ.i 0 4).toNatClampNeg))]) (by decide +kernel) rfl rfl ?_
  refine ab_fin.br (c := l2 = 0) (i := .ifCond .eq 7) (off := 7) (t := 32) (pc' := 28) (r := [.ref (2193 + 9 * ((σ.i 0 4).toNatClampNeg))]) (by decide +kernel) rfl (by decide +kernel) rfl (fun q => ?_) (fun q => ?_)
  · replace w := w.1 q
    refine ab_fin.s1i (i := .iconst 1) (k := 1) (pc' := 33) (n := 1) (by decide +kernel) rfl (by decide +kernel) rfl ?_
    exact ab_fin.lv ⟨(List.forall_mem_cons.mpr ⟨(List.Mem.tail _ (List.Mem.head _)), (List.forall_mem_cons.mpr ⟨(List.Mem.head _), (fun _ h => absurd h List.not_mem_nil)⟩)⟩), (show ([3, 0, 1, 2] : List Nat).Nodup from by decide)⟩ w
  · replace w := w.2 q
    refine ab_fin.s1i (i := .iconst 0) (k := 1) (pc' := 29) (n := 0) (by decide +kernel) rfl (by decide +kernel) rfl ?_
    refine ab_fin.s3 (i := .goto 4) (k := 3) (t := 33) (st' := [.int 0, .ref (2193 + 9 * ((σ.i 0 4).toNatClampNeg))]) (by decide +kernel) (ab_gto (by decide +kernel)) ?_
    exact ab_fin.lv ⟨(List.forall_mem_cons.mpr ⟨(List.Mem.tail _ (List.Mem.head _)), (List.forall_mem_cons.mpr ⟨(List.Mem.head _), (fun _ h => absurd h List.not_mem_nil)⟩)⟩), (show ([3, 0, 1, 2] : List Nat).Nodup from by decide)⟩ w
theorem S_X23_tellKind_33 {Z : zT} {d : Nat} {σ : Sg} {l3 : Nat} {s0 : Nat} {s1 : Int32} {K : kS} (F : FX ΦR σ.sh σ.r) (p_l3 : sh0R[l3]? = some (Sh.obj 18)) (p_s0 : sh0R[s0]? = some (Sh.obj 18)) (w : B_X23_makeRows_0 Z d ((σ.wi s0 3 s1).wi (l3 + 3) 0 (0 : Int32)) (((σ.wi s0 3 s1).wi (l3 + 3) 0 (0 : Int32)).i 0 4) (yI K fun v3 τ1 => K (.inl none) (τ1.wi 0 4 ((τ1.i 0 4) + (1 : Int32))))) : B_X23_tellKind_33 Z (d + 1) σ l3 s0 s1 K := by
  unfold B_X23_tellKind_33
  refine ab_fin.q_pF (ix := 66) (ci := 18) (k := 3) (h1 := conc (σ.wi s0 3 s1)) (pc' := 36) (by decide +kernel) rfl (c_pI (v := s1) (F.s p_s0) rfl) rfl rfl rfl ?_
  refine ab_fin.s2 (i := .aload_n 3) (k := 1) (pc' := 37) (lv' := [(0, .ref 0), (3, .ref l3)]) (st' := [.ref l3]) (by decide +kernel) rfl rfl ?_
  refine ab_fin.q_rA (b := (l3 + 3)) (ix := 69) (ci := 18) (k := 2) (pc' := 40) (by decide +kernel) rfl (c_rA (F.s p_l3) rfl (rO_18_2 F p_l3)) rfl ?_
  refine ab_fin.s1i (i := .iconst 0) (k := 1) (pc' := 41) (n := 0) (by decide +kernel) rfl (by decide +kernel) rfl ?_
  refine ab_fin.s1i (i := .iconst 0) (k := 1) (pc' := 42) (n := 0) (by decide +kernel) rfl (by decide +kernel) rfl ?_
  refine ab_fin.q_sI (h1 := conc ((σ.wi s0 3 s1).wi (l3 + 3) 0 (0 : Int32))) (pc' := 43) (by decide +kernel) (c_sI' (F.s (kF_18_3 p_l3)) (show ib (0 : Int32) 24 by decide +kernel) (by decide +kernel)) rfl ?_
  refine ab_fin.s2 (i := .aload_n 0) (k := 1) (pc' := 44) (lv' := [(0, .ref 0), (3, .ref l3)]) (st' := [.ref 0]) (by decide +kernel) rfl rfl ?_
  refine ab_fin.s2 (i := .aload_n 0) (k := 1) (pc' := 45) (lv' := [(0, .ref 0), (3, .ref l3)]) (st' := [.ref 0, .ref 0]) (by decide +kernel) rfl rfl ?_
  refine ab_fin.q_rI (x := (((σ.wi s0 3 s1).wi (l3 + 3) 0 (0 : Int32)).i 0 4)) (ix := 13) (ci := 24) (k := 4) (pc' := 48) (by decide +kernel) rfl (c_rI (F.s s0_0) rfl) rfl ?_
  refine ab_fin.q_yI (i := .invokevirtual 296) (k := 3) (y := 5895) (As := [.ref 0, .int (((σ.wi s0 3 s1).wi (l3 + 3) 0 (0 : Int32)).i 0 4)]) (rest := []) (M' := (mX23_makeRows, [])) (lv2 := [(0, .ref 0), (1, .int (((σ.wi s0 3 s1).wi (l3 + 3) 0 (0 : Int32)).i 0 4))]) (pc' := 51) (X := K) (by decide +kernel) (ab_cv rfl rfl (conc_get (σ := ((σ.wi s0 3 s1).wi (l3 + 3) 0 (0 : Int32))) (F.s s0_0)) ⟨(Nat.le_of_ble_eq_true rfl), (Nat.le_of_ble_eq_true rfl)⟩ rfl) rfl (Nat.le_of_ble_eq_true rfl) rfl rfl (hY_no fun E => rfl) w (fun v3 τ1 F2 w => ?_)
  refine ab_fin.s1 (i := .pop) (k := 1) (pc' := 52) (st' := []) (by decide +kernel) rfl rfl ?_
  refine ab_fin.s2 (i := .aload_n 0) (k := 1) (pc' := 53) (lv' := [(0, .ref 0), (3, .ref l3)]) (st' := [.ref 0]) (by decide +kernel) rfl rfl ?_
  refine ab_fin.s1 (i := .dup) (k := 1) (pc' := 54) (st' := [.ref 0, .ref 0]) (by decide +kernel) rfl rfl ?_
  refine ab_fin.q_rI (x := (τ1.i 0 4)) (ix := 13) (ci := 24) (k := 4) (pc' := 57) (by decide +kernel) rfl (c_rI (F2.s s0_0) rfl) rfl ?_
  refine ab_fin.s1i (i := .iconst 1) (k := 1) (pc' := 58) (n := 1) (by decide +kernel) rfl (by decide +kernel) rfl ?_
  refine ab_fin.s1 (i := .iadd) (k := 1) (pc' := 59) (st' := [.int ((τ1.i 0 4) + (1 : Int32)), .ref 0]) (by decide +kernel) rfl rfl ?_
  refine ab_fin.q_pF (ix := 13) (ci := 24) (k := 4) (h1 := conc (τ1.wi 0 4 ((τ1.i 0 4) + (1 : Int32)))) (pc' := 62) (by decide +kernel) rfl (c_pI (v := ((τ1.i 0 4) + (1 : Int32))) (F2.s s0_0) rfl) rfl rfl rfl ?_
  exact ab_fin.q_ret (i := .return_) (k := 1) (v := none) (by decide +kernel) rfl F2 w
theorem S_X23_thrown_0 {Z : zT} {d : Nat} {σ : Sg}  {K : kS} (F : FX ΦR σ.sh σ.r) (w : K (.inl (some (.int (σ.i 0 110)))) σ) : B_X23_thrown_0 Z (d + 1) σ  K := by
  unfold B_X23_thrown_0
  refine ab_fin.s2 (i := .aload_n 0) (k := 1) (pc' := 1) (lv' := [(0, .ref 0)]) (st' := [.ref 0]) (by decide +kernel) rfl rfl ?_
  refine ab_fin.q_rI (x := (σ.i 0 110)) (ix := 1000) (ci := 24) (k := 110) (pc' := 4) (by decide +kernel) rfl (c_rI (F.s s0_0) rfl) rfl ?_
  exact ab_fin.q_ret (i := .ireturn) (k := 1) (v := some (.int (σ.i 0 110))) (by decide +kernel) rfl F w
theorem S_X23_no__0 {Z : zT} {d : Nat} {σ : Sg} {l1 : Int32} {K : kS} (F : FX ΦR σ.sh σ.r) (w : K (.inl (some (.int 0))) (σ.wi 0 110 l1)) : B_X23_no__0 Z (d + 1) σ l1 K := by
  unfold B_X23_no__0
  refine ab_fin.s2 (i := .aload_n 0) (k := 1) (pc' := 1) (lv' := [(0, .ref 0), (1, .int l1)]) (st' := [.ref 0]) (by decide +kernel) rfl rfl ?_
  refine ab_fin.s2 (i := .iload_n 1) (k := 1) (pc' := 2) (lv' := [(0, .ref 0), (1, .int l1)]) (st' := [.int l1, .ref 0]) (by decide +kernel) rfl rfl ?_
  refine ab_fin.q_pF (ix := 1000) (ci := 24) (k := 110) (h1 := conc (σ.wi 0 110 l1)) (pc' := 5) (by decide +kernel) rfl (c_pI (v := l1) (F.s s0_0) rfl) rfl rfl rfl ?_
  refine ab_fin.s1i (i := .iconst 0) (k := 1) (pc' := 6) (n := 0) (by decide +kernel) rfl (by decide +kernel) rfl ?_
  exact ab_fin.q_ret (i := .ireturn) (k := 1) (v := some (.int 0)) (by decide +kernel) rfl F w
theorem S_X23_feed_0 {Z : zT} {d : Nat} {σ : Sg} {l1 : Int32} {l2 : Int32} {l3 : Int32} {l4 : Int32} {l5 : Int32} {K : kS} (F : FX ΦR σ.sh σ.r) (w : (((σ.i 0 15) + (20 : Int32)) ≤ 8192 → B_X23_word__0 Z d (σ.wi 0 110 (0 : Int32)) l1 (σ.i 0 15) (yN K fun τ1 => B_X23_word__0 Z d τ1 l2 ((τ1.i 0 15) + (4 : Int32)) (yN K fun τ3 => B_X23_word__0 Z d τ3 l3 ((τ3.i 0 15) + (8 : Int32)) (yN K fun τ5 => B_X23_word__0 Z d τ5 l4 ((τ5.i 0 15) + (12 : Int32)) (yN K fun τ7 => B_X23_word__0 Z d τ7 l5 ((τ7.i 0 15) + (16 : Int32)) (yN K fun τ9 => K (.inl (some (.int ((τ9.i 0 15) + (20 : Int32))))) (τ9.wi 0 15 ((τ9.i 0 15) + (20 : Int32))))))))) ∧ (¬ ((σ.i 0 15) + (20 : Int32)) ≤ 8192 → B_X23_no__0 Z d (σ.wi 0 110 (0 : Int32)) 1 (yI K fun v13 τ11 => K (.inl (some (.int v13))) τ11))) : B_X23_feed_0 Z (d + 1) σ l1 l2 l3 l4 l5 K := by
  unfold B_X23_feed_0
  refine ab_fin.s2 (i := .aload_n 0) (k := 1) (pc' := 1) (lv' := [(0, .ref 0), (1, .int l1), (2, .int l2), (3, .int l3), (4, .int l4), (5, .int l5)]) (st' := [.ref 0]) (by decide +kernel) rfl rfl ?_
  refine ab_fin.s1i (i := .iconst 0) (k := 1) (pc' := 2) (n := 0) (by decide +kernel) rfl (by decide +kernel) rfl ?_
  refine ab_fin.q_pF (ix := 1000) (ci := 24) (k := 110) (h1 := conc (σ.wi 0 110 (0 : Int32))) (pc' := 5) (by decide +kernel) rfl (c_pI (v := 0) (F.s s0_0) rfl) rfl rfl rfl ?_
  refine ab_fin.s2 (i := .aload_n 0) (k := 1) (pc' := 6) (lv' := [(0, .ref 0), (1, .int l1), (2, .int l2), (3, .int l3), (4, .int l4), (5, .int l5)]) (st' := [.ref 0]) (by decide +kernel) rfl rfl ?_
  refine ab_fin.q_rI (x := (σ.i 0 15)) (ix := 180) (ci := 24) (k := 15) (pc' := 9) (by decide +kernel) rfl (c_rI (F.s s0_0) rfl) rfl ?_
  refine ab_fin.s1i (i := .bipush 20) (k := 2) (pc' := 11) (n := 20) (by decide +kernel) rfl (by decide +kernel) rfl ?_
  refine ab_fin.s1 (i := .iadd) (k := 1) (pc' := 12) (st' := [.int ((σ.i 0 15) + (20 : Int32))]) (by decide +kernel) rfl rfl ?_
  refine ab_fin.s1i (i := .sipush 8192) (k := 3) (pc' := 15) (n := 8192) (by decide +kernel) rfl (by decide +kernel) rfl ?_
  refine ab_fin.br (c := ((σ.i 0 15) + (20 : Int32)) ≤ 8192) (i := .if_icmp .le 9) (off := 9) (t := 24) (pc' := 18) (r := []) (by decide +kernel) rfl (by decide +kernel) rfl (fun q => ?_) (fun q => ?_)
  · replace w := w.1 q
    refine ab_fin.s2 (i := .aload_n 0) (k := 1) (pc' := 25) (lv' := [(0, .ref 0), (1, .int l1), (2, .int l2), (3, .int l3), (4, .int l4), (5, .int l5)]) (st' := [.ref 0]) (by decide +kernel) rfl rfl ?_
    refine ab_fin.s2 (i := .iload_n 1) (k := 1) (pc' := 26) (lv' := [(0, .ref 0), (1, .int l1), (2, .int l2), (3, .int l3), (4, .int l4), (5, .int l5)]) (st' := [.int l1, .ref 0]) (by decide +kernel) rfl rfl ?_
    refine ab_fin.s2 (i := .aload_n 0) (k := 1) (pc' := 27) (lv' := [(0, .ref 0), (1, .int l1), (2, .int l2), (3, .int l3), (4, .int l4), (5, .int l5)]) (st' := [.ref 0, .int l1, .ref 0]) (by decide +kernel) rfl rfl ?_
    refine ab_fin.q_rI (x := (σ.i 0 15)) (ix := 180) (ci := 24) (k := 15) (pc' := 30) (by decide +kernel) rfl (c_rI (F.s s0_0) rfl) rfl ?_
    refine ab_fin.q_yN (i := .invokevirtual 1005) (k := 3) (y := 5995) (As := [.ref 0, .int l1, .int (σ.i 0 15)]) (rest := []) (M' := (mX23_word_, [])) (lv2 := [(0, .ref 0), (1, .int l1), (2, .int (σ.i 0 15))]) (pc' := 33) (X := K) (by decide +kernel) (ab_cv rfl rfl (conc_get (σ := (σ.wi 0 110 (0 : Int32))) (F.s s0_0)) ⟨(Nat.le_of_ble_eq_true rfl), (Nat.le_of_ble_eq_true rfl)⟩ rfl) rfl (Nat.le_of_ble_eq_true rfl) rfl rfl (hY_no fun E => rfl) w (fun τ1 F2 w => ?_)
    refine ab_fin.s2 (i := .aload_n 0) (k := 1) (pc' := 34) (lv' := [(0, .ref 0), (1, .int l1), (2, .int l2), (3, .int l3), (4, .int l4), (5, .int l5)]) (st' := [.ref 0]) (by decide +kernel) rfl rfl ?_
    refine ab_fin.s2 (i := .iload_n 2) (k := 1) (pc' := 35) (lv' := [(0, .ref 0), (1, .int l1), (2, .int l2), (3, .int l3), (4, .int l4), (5, .int l5)]) (st' := [.int l2, .ref 0]) (by decide +kernel) rfl rfl ?_
    refine ab_fin.s2 (i := .aload_n 0) (k := 1) (pc' := 36) (lv' := [(0, .ref 0), (1, .int l1), (2, .int l2), (3, .int l3), (4, .int l4), (5, .int l5)]) (st' := [.ref 0, .int l2, .ref 0]) (by decide +kernel) rfl rfl ?_
    refine ab_fin.q_rI (x := (τ1.i 0 15)) (ix := 180) (ci := 24) (k := 15) (pc' := 39) (by decide +kernel) rfl (c_rI (F2.s s0_0) rfl) rfl ?_
    refine ab_fin.s1i (i := .iconst 4) (k := 1) (pc' := 40) (n := 4) (by decide +kernel) rfl (by decide +kernel) rfl ?_
    refine ab_fin.s1 (i := .iadd) (k := 1) (pc' := 41) (st' := [.int ((τ1.i 0 15) + (4 : Int32)), .int l2, .ref 0]) (by decide +kernel) rfl rfl ?_
    refine ab_fin.q_yN (i := .invokevirtual 1005) (k := 3) (y := 5995) (As := [.ref 0, .int l2, .int ((τ1.i 0 15) + (4 : Int32))]) (rest := []) (M' := (mX23_word_, [])) (lv2 := [(0, .ref 0), (1, .int l2), (2, .int ((τ1.i 0 15) + (4 : Int32)))]) (pc' := 44) (X := K) (by decide +kernel) (ab_cv rfl rfl (conc_get (σ := τ1) (F2.s s0_0)) ⟨(Nat.le_of_ble_eq_true rfl), (Nat.le_of_ble_eq_true rfl)⟩ rfl) rfl (Nat.le_of_ble_eq_true rfl) rfl rfl (hY_no fun E => rfl) w (fun τ3 F4 w => ?_)
    refine ab_fin.s2 (i := .aload_n 0) (k := 1) (pc' := 45) (lv' := [(0, .ref 0), (1, .int l1), (2, .int l2), (3, .int l3), (4, .int l4), (5, .int l5)]) (st' := [.ref 0]) (by decide +kernel) rfl rfl ?_
    refine ab_fin.s2 (i := .iload_n 3) (k := 1) (pc' := 46) (lv' := [(0, .ref 0), (1, .int l1), (2, .int l2), (3, .int l3), (4, .int l4), (5, .int l5)]) (st' := [.int l3, .ref 0]) (by decide +kernel) rfl rfl ?_
    refine ab_fin.s2 (i := .aload_n 0) (k := 1) (pc' := 47) (lv' := [(0, .ref 0), (1, .int l1), (2, .int l2), (3, .int l3), (4, .int l4), (5, .int l5)]) (st' := [.ref 0, .int l3, .ref 0]) (by decide +kernel) rfl rfl ?_
    refine ab_fin.q_rI (x := (τ3.i 0 15)) (ix := 180) (ci := 24) (k := 15) (pc' := 50) (by decide +kernel) rfl (c_rI (F4.s s0_0) rfl) rfl ?_
    refine ab_fin.s1i (i := .bipush 8) (k := 2) (pc' := 52) (n := 8) (by decide +kernel) rfl (by decide +kernel) rfl ?_
    refine ab_fin.s1 (i := .iadd) (k := 1) (pc' := 53) (st' := [.int ((τ3.i 0 15) + (8 : Int32)), .int l3, .ref 0]) (by decide +kernel) rfl rfl ?_
    refine ab_fin.q_yN (i := .invokevirtual 1005) (k := 3) (y := 5995) (As := [.ref 0, .int l3, .int ((τ3.i 0 15) + (8 : Int32))]) (rest := []) (M' := (mX23_word_, [])) (lv2 := [(0, .ref 0), (1, .int l3), (2, .int ((τ3.i 0 15) + (8 : Int32)))]) (pc' := 56) (X := K) (by decide +kernel) (ab_cv rfl rfl (conc_get (σ := τ3) (F4.s s0_0)) ⟨(Nat.le_of_ble_eq_true rfl), (Nat.le_of_ble_eq_true rfl)⟩ rfl) rfl (Nat.le_of_ble_eq_true rfl) rfl rfl (hY_no fun E => rfl) w (fun τ5 F6 w => ?_)
    refine ab_fin.s2 (i := .aload_n 0) (k := 1) (pc' := 57) (lv' := [(0, .ref 0), (1, .int l1), (2, .int l2), (3, .int l3), (4, .int l4), (5, .int l5)]) (st' := [.ref 0]) (by decide +kernel) rfl rfl ?_
    refine ab_fin.s2 (i := .iload 4) (k := 2) (pc' := 59) (lv' := [(0, .ref 0), (1, .int l1), (2, .int l2), (3, .int l3), (4, .int l4), (5, .int l5)]) (st' := [.int l4, .ref 0]) (by decide +kernel) rfl rfl ?_
    refine ab_fin.s2 (i := .aload_n 0) (k := 1) (pc' := 60) (lv' := [(0, .ref 0), (1, .int l1), (2, .int l2), (3, .int l3), (4, .int l4), (5, .int l5)]) (st' := [.ref 0, .int l4, .ref 0]) (by decide +kernel) rfl rfl ?_
    refine ab_fin.q_rI (x := (τ5.i 0 15)) (ix := 180) (ci := 24) (k := 15) (pc' := 63) (by decide +kernel) rfl (c_rI (F6.s s0_0) rfl) rfl ?_
    refine ab_fin.s1i (i := .bipush 12) (k := 2) (pc' := 65) (n := 12) (by decide +kernel) rfl (by decide +kernel) rfl ?_
    refine ab_fin.s1 (i := .iadd) (k := 1) (pc' := 66) (st' := [.int ((τ5.i 0 15) + (12 : Int32)), .int l4, .ref 0]) (by decide +kernel) rfl rfl ?_
    refine ab_fin.q_yN (i := .invokevirtual 1005) (k := 3) (y := 5995) (As := [.ref 0, .int l4, .int ((τ5.i 0 15) + (12 : Int32))]) (rest := []) (M' := (mX23_word_, [])) (lv2 := [(0, .ref 0), (1, .int l4), (2, .int ((τ5.i 0 15) + (12 : Int32)))]) (pc' := 69) (X := K) (by decide +kernel) (ab_cv rfl rfl (conc_get (σ := τ5) (F6.s s0_0)) ⟨(Nat.le_of_ble_eq_true rfl), (Nat.le_of_ble_eq_true rfl)⟩ rfl) rfl (Nat.le_of_ble_eq_true rfl) rfl rfl (hY_no fun E => rfl) w (fun τ7 F8 w => ?_)
    refine ab_fin.s2 (i := .aload_n 0) (k := 1) (pc' := 70) (lv' := [(0, .ref 0), (1, .int l1), (2, .int l2), (3, .int l3), (4, .int l4), (5, .int l5)]) (st' := [.ref 0]) (by decide +kernel) rfl rfl ?_
    refine ab_fin.s2 (i := .iload 5) (k := 2) (pc' := 72) (lv' := [(0, .ref 0), (1, .int l1), (2, .int l2), (3, .int l3), (4, .int l4), (5, .int l5)]) (st' := [.int l5, .ref 0]) (by decide +kernel) rfl rfl ?_
    refine ab_fin.s2 (i := .aload_n 0) (k := 1) (pc' := 73) (lv' := [(0, .ref 0), (1, .int l1), (2, .int l2), (3, .int l3), (4, .int l4), (5, .int l5)]) (st' := [.ref 0, .int l5, .ref 0]) (by decide +kernel) rfl rfl ?_
    refine ab_fin.q_rI (x := (τ7.i 0 15)) (ix := 180) (ci := 24) (k := 15) (pc' := 76) (by decide +kernel) rfl (c_rI (F8.s s0_0) rfl) rfl ?_
    refine ab_fin.s1i (i := .bipush 16) (k := 2) (pc' := 78) (n := 16) (by decide +kernel) rfl (by decide +kernel) rfl ?_
    refine ab_fin.s1 (i := .iadd) (k := 1) (pc' := 79) (st' := [.int ((τ7.i 0 15) + (16 : Int32)), .int l5, .ref 0]) (by decide +kernel) rfl rfl ?_
    refine ab_fin.q_yN (i := .invokevirtual 1005) (k := 3) (y := 5995) (As := [.ref 0, .int l5, .int ((τ7.i 0 15) + (16 : Int32))]) (rest := []) (M' := (mX23_word_, [])) (lv2 := [(0, .ref 0), (1, .int l5), (2, .int ((τ7.i 0 15) + (16 : Int32)))]) (pc' := 82) (X := K) (by decide +kernel) (ab_cv rfl rfl (conc_get (σ := τ7) (F8.s s0_0)) ⟨(Nat.le_of_ble_eq_true rfl), (Nat.le_of_ble_eq_true rfl)⟩ rfl) rfl (Nat.le_of_ble_eq_true rfl) rfl rfl (hY_no fun E => rfl) w (fun τ9 F10 w => ?_)
    refine ab_fin.s2 (i := .aload_n 0) (k := 1) (pc' := 83) (lv' := [(0, .ref 0), (1, .int l1), (2, .int l2), (3, .int l3), (4, .int l4), (5, .int l5)]) (st' := [.ref 0]) (by decide +kernel) rfl rfl ?_
    refine ab_fin.s1 (i := .dup) (k := 1) (pc' := 84) (st' := [.ref 0, .ref 0]) (by decide +kernel) rfl rfl ?_
    refine ab_fin.q_rI (x := (τ9.i 0 15)) (ix := 180) (ci := 24) (k := 15) (pc' := 87) (by decide +kernel) rfl (c_rI (F10.s s0_0) rfl) rfl ?_
    refine ab_fin.s1i (i := .bipush 20) (k := 2) (pc' := 89) (n := 20) (by decide +kernel) rfl (by decide +kernel) rfl ?_
    refine ab_fin.s1 (i := .iadd) (k := 1) (pc' := 90) (st' := [.int ((τ9.i 0 15) + (20 : Int32)), .ref 0]) (by decide +kernel) rfl rfl ?_
    refine ab_fin.q_pF (ix := 180) (ci := 24) (k := 15) (h1 := conc (τ9.wi 0 15 ((τ9.i 0 15) + (20 : Int32)))) (pc' := 93) (by decide +kernel) rfl (c_pI (v := ((τ9.i 0 15) + (20 : Int32))) (F10.s s0_0) rfl) rfl rfl rfl ?_
    refine ab_fin.s2 (i := .aload_n 0) (k := 1) (pc' := 94) (lv' := [(0, .ref 0), (1, .int l1), (2, .int l2), (3, .int l3), (4, .int l4), (5, .int l5)]) (st' := [.ref 0]) (by decide +kernel) rfl rfl ?_
    refine ab_fin.q_rI (x := ((τ9.i 0 15) + (20 : Int32))) (ix := 180) (ci := 24) (k := 15) (pc' := 97) (by decide +kernel) rfl (c_rI (F10.s s0_0) rfl) rfl ?_
    exact ab_fin.q_ret (i := .ireturn) (k := 1) (v := some (.int ((τ9.i 0 15) + (20 : Int32)))) (by decide +kernel) rfl F10 w
  · replace w := w.2 q
    refine ab_fin.s2 (i := .aload_n 0) (k := 1) (pc' := 19) (lv' := [(0, .ref 0), (1, .int l1), (2, .int l2), (3, .int l3), (4, .int l4), (5, .int l5)]) (st' := [.ref 0]) (by decide +kernel) rfl rfl ?_
    refine ab_fin.s1i (i := .iconst 1) (k := 1) (pc' := 20) (n := 1) (by decide +kernel) rfl (by decide +kernel) rfl ?_
    refine ab_fin.q_yI (i := .invokevirtual 1003) (k := 3) (y := 5993) (As := [.ref 0, .int 1]) (rest := []) (M' := (mX23_no_, [])) (lv2 := [(0, .ref 0), (1, .int 1)]) (pc' := 23) (X := K) (by decide +kernel) (ab_cv rfl rfl (conc_get (σ := (σ.wi 0 110 (0 : Int32))) (F.s s0_0)) ⟨(Nat.le_of_ble_eq_true rfl), (Nat.le_of_ble_eq_true rfl)⟩ rfl) rfl (Nat.le_of_ble_eq_true rfl) rfl rfl (hY_no fun E => rfl) w (fun v13 τ11 F12 w => ?_)
    exact ab_fin.q_ret (i := .ireturn) (k := 1) (v := some (.int v13)) (by decide +kernel) rfl F12 w
theorem S_X23_word__0 {Z : zT} {d : Nat} {σ : Sg} {l1 : Int32} {l2 : Int32} {K : kS} (F : FX ΦR σ.sh σ.r) (w : B_X23_word__2 Z (d + 1) σ l1 l2 0 K) : B_X23_word__0 Z (d + 1) σ l1 l2 K := by
  unfold B_X23_word__0
  refine ab_fin.s1i (i := .iconst 0) (k := 1) (pc' := 1) (n := 0) (by decide +kernel) rfl (by decide +kernel) rfl ?_
  refine ab_fin.s2 (i := .istore_n 3) (k := 1) (pc' := 2) (lv' := [(3, .int 0), (0, .ref 0), (1, .int l1), (2, .int l2)]) (st' := []) (by decide +kernel) rfl rfl ?_
  exact ab_fin.lv ⟨(List.forall_mem_cons.mpr ⟨(List.Mem.tail _ (List.Mem.head _)), (List.forall_mem_cons.mpr ⟨(List.Mem.tail _ (List.Mem.tail _ (List.Mem.head _))), (List.forall_mem_cons.mpr ⟨(List.Mem.tail _ (List.Mem.tail _ (List.Mem.tail _ (List.Mem.head _)))), (List.forall_mem_cons.mpr ⟨(List.Mem.head _), (fun _ h => absurd h List.not_mem_nil)⟩)⟩)⟩)⟩), (show ([3, 0, 1, 2] : List Nat).Nodup from by decide)⟩ w
theorem S_X23_word__2 {Z : zT} {d : Nat} {σ : Sg} {l1 : Int32} {l2 : Int32} {l3 : Int32} {K : kS} (F : FX ΦR σ.sh σ.r) (w : (4 ≤ l3 → K (.inl none) σ) ∧ (¬ 4 ≤ l3 → ib (l2 + l3) 8192 ∧ (B_X23_word__2 Z (d + 1) (σ.wi 37 ((l2 + l3).toNatClampNeg) (vp_nar .byte ((Int32.toInt8 (l1 >>> (((24 : Int32) - ((8 : Int32) * l3)) &&& 31))).toInt32))) l1 l2 (l3 + 1) K))) : B_X23_word__2 Z (d + 1) σ l1 l2 l3 K := by
  unfold B_X23_word__2
  refine ab_fin.s2 (i := .iload_n 3) (k := 1) (pc' := 3) (lv' := [(0, .ref 0), (1, .int l1), (2, .int l2), (3, .int l3)]) (st' := [.int l3]) (by decide +kernel) rfl rfl ?_
  refine ab_fin.s1i (i := .iconst 4) (k := 1) (pc' := 4) (n := 4) (by decide +kernel) rfl (by decide +kernel) rfl ?_
  refine ab_fin.br (c := 4 ≤ l3) (i := .if_icmp .ge 27) (off := 27) (t := 31) (pc' := 7) (r := []) (by decide +kernel) rfl (by decide +kernel) rfl (fun q => ?_) (fun q => ?_)
  · replace w := w.1 q
    exact ab_fin.q_ret (i := .return_) (k := 1) (v := none) (by decide +kernel) rfl F w
  · replace w := w.2 q
    refine ab_fin.s2 (i := .aload_n 0) (k := 1) (pc' := 8) (lv' := [(0, .ref 0), (1, .int l1), (2, .int l2), (3, .int l3)]) (st' := [.ref 0]) (by decide +kernel) rfl rfl ?_
    refine ab_fin.q_rA (b := 37) (ix := 1) (ci := 24) (k := 14) (pc' := 11) (by decide +kernel) rfl (c_rA (F.s s0_0) rfl (rM_14 F)) rfl ?_
    refine ab_fin.s2 (i := .iload_n 2) (k := 1) (pc' := 12) (lv' := [(0, .ref 0), (1, .int l1), (2, .int l2), (3, .int l3)]) (st' := [.int l2, .ref 37]) (by decide +kernel) rfl rfl ?_
    refine ab_fin.s2 (i := .iload_n 3) (k := 1) (pc' := 13) (lv' := [(0, .ref 0), (1, .int l1), (2, .int l2), (3, .int l3)]) (st' := [.int l3, .int l2, .ref 37]) (by decide +kernel) rfl rfl ?_
    refine ab_fin.s1 (i := .iadd) (k := 1) (pc' := 14) (st' := [.int (l2 + l3), .ref 37]) (by decide +kernel) rfl rfl ?_
    refine ab_fin.s2 (i := .iload_n 1) (k := 1) (pc' := 15) (lv' := [(0, .ref 0), (1, .int l1), (2, .int l2), (3, .int l3)]) (st' := [.int l1, .int (l2 + l3), .ref 37]) (by decide +kernel) rfl rfl ?_
    refine ab_fin.s1i (i := .bipush 24) (k := 2) (pc' := 17) (n := 24) (by decide +kernel) rfl (by decide +kernel) rfl ?_
    refine ab_fin.s1i (i := .bipush 8) (k := 2) (pc' := 19) (n := 8) (by decide +kernel) rfl (by decide +kernel) rfl ?_
    refine ab_fin.s2 (i := .iload_n 3) (k := 1) (pc' := 20) (lv' := [(0, .ref 0), (1, .int l1), (2, .int l2), (3, .int l3)]) (st' := [.int l3, .int 8, .int 24, .int l1, .int (l2 + l3), .ref 37]) (by decide +kernel) rfl rfl ?_
    refine ab_fin.s1 (i := .imul) (k := 1) (pc' := 21) (st' := [.int ((8 : Int32) * l3), .int 24, .int l1, .int (l2 + l3), .ref 37]) (by decide +kernel) rfl rfl ?_
    refine ab_fin.s1 (i := .isub) (k := 1) (pc' := 22) (st' := [.int ((24 : Int32) - ((8 : Int32) * l3)), .int l1, .int (l2 + l3), .ref 37]) (by decide +kernel) rfl rfl ?_
    refine ab_fin.s1 (i := .ishr) (k := 1) (pc' := 23) (st' := [.int (l1 >>> (((24 : Int32) - ((8 : Int32) * l3)) &&& 31)), .int (l2 + l3), .ref 37]) (by decide +kernel) rfl rfl ?_
    refine ab_fin.s1 (i := .i2b) (k := 1) (pc' := 24) (st' := [.int ((Int32.toInt8 (l1 >>> (((24 : Int32) - ((8 : Int32) * l3)) &&& 31))).toInt32), .int (l2 + l3), .ref 37]) (by decide +kernel) rfl rfl ?_
    obtain ⟨e1, w⟩ := w
    refine ab_fin.q_sB (h1 := conc (σ.wi 37 ((l2 + l3).toNatClampNeg) (vp_nar .byte ((Int32.toInt8 (l1 >>> (((24 : Int32) - ((8 : Int32) * l3)) &&& 31))).toInt32)))) (pc' := 25) (by decide +kernel) (c_sB2' (F.s s0_37) e1 rfl) rfl ?_
    refine ab_fin.q_inc (n := 3) (c := 1) (pc' := 28) (lv' := [(3, .int (l3 + 1)), (0, .ref 0), (1, .int l1), (2, .int l2)]) (by decide +kernel) (by decide) rfl rfl rfl rfl ?_
    refine ab_fin.s3 (i := .goto (-26)) (k := 3) (t := 2) (st' := []) (by decide +kernel) (ab_gto (by decide +kernel)) ?_
    exact ab_fin.lv ⟨(List.forall_mem_cons.mpr ⟨(List.Mem.tail _ (List.Mem.head _)), (List.forall_mem_cons.mpr ⟨(List.Mem.tail _ (List.Mem.tail _ (List.Mem.head _))), (List.forall_mem_cons.mpr ⟨(List.Mem.tail _ (List.Mem.tail _ (List.Mem.tail _ (List.Mem.head _)))), (List.forall_mem_cons.mpr ⟨(List.Mem.head _), (fun _ h => absurd h List.not_mem_nil)⟩)⟩)⟩)⟩), (show ([3, 0, 1, 2] : List Nat).Nodup from by decide)⟩ w
theorem S_X23_end_0 {Z : zT} {d : Nat} {σ : Sg} {l1 : Int32} {K : kS} (F : FX ΦR σ.sh σ.r) (w : (l1 < 0 → B_X23_no__0 Z d (σ.wi 0 110 (0 : Int32)) 1 (yI K fun v3 τ1 => K (.inl (some (.int v3))) τ1)) ∧ (¬ l1 < 0 → (l1 ≤ (σ.i 0 15) → K (.inl (some (.int l1))) ((σ.wi 0 110 (0 : Int32)).wi 0 15 l1)) ∧ (¬ l1 ≤ (σ.i 0 15) → B_X23_no__0 Z d (σ.wi 0 110 (0 : Int32)) 1 (yI K fun v6 τ4 => K (.inl (some (.int v6))) τ4)))) : B_X23_end_0 Z (d + 1) σ l1 K := by
  unfold B_X23_end_0
  refine ab_fin.s2 (i := .aload_n 0) (k := 1) (pc' := 1) (lv' := [(0, .ref 0), (1, .int l1)]) (st' := [.ref 0]) (by decide +kernel) rfl rfl ?_
  refine ab_fin.s1i (i := .iconst 0) (k := 1) (pc' := 2) (n := 0) (by decide +kernel) rfl (by decide +kernel) rfl ?_
  refine ab_fin.q_pF (ix := 1000) (ci := 24) (k := 110) (h1 := conc (σ.wi 0 110 (0 : Int32))) (pc' := 5) (by decide +kernel) rfl (c_pI (v := 0) (F.s s0_0) rfl) rfl rfl rfl ?_
  refine ab_fin.s2 (i := .iload_n 1) (k := 1) (pc' := 6) (lv' := [(0, .ref 0), (1, .int l1)]) (st' := [.int l1]) (by decide +kernel) rfl rfl ?_
  refine ab_fin.br (c := l1 < 0) (i := .ifCond .lt 11) (off := 11) (t := 17) (pc' := 9) (r := []) (by decide +kernel) rfl (by decide +kernel) rfl (fun q => ?_) (fun q => ?_)
  · replace w := w.1 q
    refine ab_fin.s2 (i := .aload_n 0) (k := 1) (pc' := 18) (lv' := [(0, .ref 0), (1, .int l1)]) (st' := [.ref 0]) (by decide +kernel) rfl rfl ?_
    refine ab_fin.s1i (i := .iconst 1) (k := 1) (pc' := 19) (n := 1) (by decide +kernel) rfl (by decide +kernel) rfl ?_
    refine ab_fin.q_yI (i := .invokevirtual 1003) (k := 3) (y := 5993) (As := [.ref 0, .int 1]) (rest := []) (M' := (mX23_no_, [])) (lv2 := [(0, .ref 0), (1, .int 1)]) (pc' := 22) (X := K) (by decide +kernel) (ab_cv rfl rfl (conc_get (σ := (σ.wi 0 110 (0 : Int32))) (F.s s0_0)) ⟨(Nat.le_of_ble_eq_true rfl), (Nat.le_of_ble_eq_true rfl)⟩ rfl) rfl (Nat.le_of_ble_eq_true rfl) rfl rfl (hY_no fun E => rfl) w (fun v3 τ1 F2 w => ?_)
    exact ab_fin.q_ret (i := .ireturn) (k := 1) (v := some (.int v3)) (by decide +kernel) rfl F2 w
  · replace w := w.2 q
    refine ab_fin.s2 (i := .iload_n 1) (k := 1) (pc' := 10) (lv' := [(0, .ref 0), (1, .int l1)]) (st' := [.int l1]) (by decide +kernel) rfl rfl ?_
    refine ab_fin.s2 (i := .aload_n 0) (k := 1) (pc' := 11) (lv' := [(0, .ref 0), (1, .int l1)]) (st' := [.ref 0, .int l1]) (by decide +kernel) rfl rfl ?_
    refine ab_fin.q_rI (x := (σ.i 0 15)) (ix := 180) (ci := 24) (k := 15) (pc' := 14) (by decide +kernel) rfl (c_rI (F.s s0_0) rfl) rfl ?_
    refine ab_fin.br (c := l1 ≤ (σ.i 0 15)) (i := .if_icmp .le 9) (off := 9) (t := 23) (pc' := 17) (r := []) (by decide +kernel) rfl (by decide +kernel) rfl (fun q => ?_) (fun q => ?_)
    · replace w := w.1 q
      refine ab_fin.s2 (i := .aload_n 0) (k := 1) (pc' := 24) (lv' := [(0, .ref 0), (1, .int l1)]) (st' := [.ref 0]) (by decide +kernel) rfl rfl ?_
      refine ab_fin.s2 (i := .iload_n 1) (k := 1) (pc' := 25) (lv' := [(0, .ref 0), (1, .int l1)]) (st' := [.int l1, .ref 0]) (by decide +kernel) rfl rfl ?_
      refine ab_fin.q_pF (ix := 180) (ci := 24) (k := 15) (h1 := conc ((σ.wi 0 110 (0 : Int32)).wi 0 15 l1)) (pc' := 28) (by decide +kernel) rfl (c_pI (v := l1) (F.s s0_0) rfl) rfl rfl rfl ?_
      refine ab_fin.s2 (i := .iload_n 1) (k := 1) (pc' := 29) (lv' := [(0, .ref 0), (1, .int l1)]) (st' := [.int l1]) (by decide +kernel) rfl rfl ?_
      exact ab_fin.q_ret (i := .ireturn) (k := 1) (v := some (.int l1)) (by decide +kernel) rfl F w
    · replace w := w.2 q
      refine ab_fin.s2 (i := .aload_n 0) (k := 1) (pc' := 18) (lv' := [(0, .ref 0), (1, .int l1)]) (st' := [.ref 0]) (by decide +kernel) rfl rfl ?_
      refine ab_fin.s1i (i := .iconst 1) (k := 1) (pc' := 19) (n := 1) (by decide +kernel) rfl (by decide +kernel) rfl ?_
      refine ab_fin.q_yI (i := .invokevirtual 1003) (k := 3) (y := 5993) (As := [.ref 0, .int 1]) (rest := []) (M' := (mX23_no_, [])) (lv2 := [(0, .ref 0), (1, .int 1)]) (pc' := 22) (X := K) (by decide +kernel) (ab_cv rfl rfl (conc_get (σ := (σ.wi 0 110 (0 : Int32))) (F.s s0_0)) ⟨(Nat.le_of_ble_eq_true rfl), (Nat.le_of_ble_eq_true rfl)⟩ rfl) rfl (Nat.le_of_ble_eq_true rfl) rfl rfl (hY_no fun E => rfl) w (fun v6 τ4 F5 w => ?_)
      exact ab_fin.q_ret (i := .ireturn) (k := 1) (v := some (.int v6)) (by decide +kernel) rfl F5 w
theorem S_X23_tell_0 {Z : zT} {d : Nat} {σ : Sg}  {K : kS} (F : FX ΦR σ.sh σ.r) (w : B_X23_readText_0 Z d (σ.wi 0 110 (0 : Int32))  (yN (bS ΦR (hb_Gz Z.1 (some Z.2)) hb_GT d (mX23_tell, [(35, 62, 65, 223)]) 36 [(5, .int (σ.i 5 1)), (4, .int (σ.i 0 7)), (3, .int (σ.i 0 6)), (2, .int (σ.i 0 5)), (1, .int (σ.i 0 4)), (0, .ref 0)] K) fun τ1 => (0 ≤ (τ1.i 0 23) → B_X23_tell_59 Z (d + 1) τ1 (σ.i 0 4) (σ.i 0 5) (σ.i 0 6) (σ.i 0 7) (σ.i 5 1) (τ1.i 0 23) (τ1.i 0 24) K) ∧ (¬ 0 ≤ (τ1.i 0 23) → B_X23_tell_59 Z (d + 1) τ1 (σ.i 0 4) (σ.i 0 5) (σ.i 0 6) (σ.i 0 7) (σ.i 5 1) (τ1.i 0 23) 0 K))) : B_X23_tell_0 Z (d + 1) σ  K := by
  unfold B_X23_tell_0
  refine ab_fin.s2 (i := .aload_n 0) (k := 1) (pc' := 1) (lv' := [(0, .ref 0)]) (st' := [.ref 0]) (by decide +kernel) rfl rfl ?_
  refine ab_fin.s1i (i := .iconst 0) (k := 1) (pc' := 2) (n := 0) (by decide +kernel) rfl (by decide +kernel) rfl ?_
  refine ab_fin.q_pF (ix := 1000) (ci := 24) (k := 110) (h1 := conc (σ.wi 0 110 (0 : Int32))) (pc' := 5) (by decide +kernel) rfl (c_pI (v := 0) (F.s s0_0) rfl) rfl rfl rfl ?_
  refine ab_fin.s2 (i := .aload_n 0) (k := 1) (pc' := 6) (lv' := [(0, .ref 0)]) (st' := [.ref 0]) (by decide +kernel) rfl rfl ?_
  refine ab_fin.q_rI (x := (σ.i 0 4)) (ix := 13) (ci := 24) (k := 4) (pc' := 9) (by decide +kernel) rfl (c_rI (F.s s0_0) rfl) rfl ?_
  refine ab_fin.s2 (i := .istore_n 1) (k := 1) (pc' := 10) (lv' := [(1, .int (σ.i 0 4)), (0, .ref 0)]) (st' := []) (by decide +kernel) rfl rfl ?_
  refine ab_fin.s2 (i := .aload_n 0) (k := 1) (pc' := 11) (lv' := [(1, .int (σ.i 0 4)), (0, .ref 0)]) (st' := [.ref 0]) (by decide +kernel) rfl rfl ?_
  refine ab_fin.q_rI (x := (σ.i 0 5)) (ix := 31) (ci := 24) (k := 5) (pc' := 14) (by decide +kernel) rfl (c_rI (F.s s0_0) rfl) rfl ?_
  refine ab_fin.s2 (i := .istore_n 2) (k := 1) (pc' := 15) (lv' := [(2, .int (σ.i 0 5)), (1, .int (σ.i 0 4)), (0, .ref 0)]) (st' := []) (by decide +kernel) rfl rfl ?_
  refine ab_fin.s2 (i := .aload_n 0) (k := 1) (pc' := 16) (lv' := [(2, .int (σ.i 0 5)), (1, .int (σ.i 0 4)), (0, .ref 0)]) (st' := [.ref 0]) (by decide +kernel) rfl rfl ?_
  refine ab_fin.q_rI (x := (σ.i 0 6)) (ix := 312) (ci := 24) (k := 6) (pc' := 19) (by decide +kernel) rfl (c_rI (F.s s0_0) rfl) rfl ?_
  refine ab_fin.s2 (i := .istore_n 3) (k := 1) (pc' := 20) (lv' := [(3, .int (σ.i 0 6)), (2, .int (σ.i 0 5)), (1, .int (σ.i 0 4)), (0, .ref 0)]) (st' := []) (by decide +kernel) rfl rfl ?_
  refine ab_fin.s2 (i := .aload_n 0) (k := 1) (pc' := 21) (lv' := [(3, .int (σ.i 0 6)), (2, .int (σ.i 0 5)), (1, .int (σ.i 0 4)), (0, .ref 0)]) (st' := [.ref 0]) (by decide +kernel) rfl rfl ?_
  refine ab_fin.q_rI (x := (σ.i 0 7)) (ix := 41) (ci := 24) (k := 7) (pc' := 24) (by decide +kernel) rfl (c_rI (F.s s0_0) rfl) rfl ?_
  refine ab_fin.s2 (i := .istore 4) (k := 2) (pc' := 26) (lv' := [(4, .int (σ.i 0 7)), (3, .int (σ.i 0 6)), (2, .int (σ.i 0 5)), (1, .int (σ.i 0 4)), (0, .ref 0)]) (st' := []) (by decide +kernel) rfl rfl ?_
  refine ab_fin.s2 (i := .aload_n 0) (k := 1) (pc' := 27) (lv' := [(4, .int (σ.i 0 7)), (3, .int (σ.i 0 6)), (2, .int (σ.i 0 5)), (1, .int (σ.i 0 4)), (0, .ref 0)]) (st' := [.ref 0]) (by decide +kernel) rfl rfl ?_
  refine ab_fin.q_rA (b := 5) (ix := 349) (ci := 24) (k := 8) (pc' := 30) (by decide +kernel) rfl (c_rA (F.s s0_0) rfl (rM_8 F)) rfl ?_
  refine ab_fin.q_rI (x := (σ.i 5 1)) (ix := 983) (ci := 22) (k := 1) (pc' := 33) (by decide +kernel) rfl (c_rI (F.s s0_5) rfl) rfl ?_
  refine ab_fin.s2 (i := .istore 5) (k := 2) (pc' := 35) (lv' := [(5, .int (σ.i 5 1)), (4, .int (σ.i 0 7)), (3, .int (σ.i 0 6)), (2, .int (σ.i 0 5)), (1, .int (σ.i 0 4)), (0, .ref 0)]) (st' := []) (by decide +kernel) rfl rfl ?_
  refine ab_fin.s2 (i := .aload_n 0) (k := 1) (pc' := 36) (lv' := [(5, .int (σ.i 5 1)), (4, .int (σ.i 0 7)), (3, .int (σ.i 0 6)), (2, .int (σ.i 0 5)), (1, .int (σ.i 0 4)), (0, .ref 0)]) (st' := [.ref 0]) (by decide +kernel) rfl rfl ?_
  refine ab_fin.q_yN (i := .invokevirtual 1007) (k := 3) (y := 5913) (As := [.ref 0]) (rest := []) (M' := (mX23_readText, [])) (lv2 := [(0, .ref 0)]) (pc' := 39) (X := (bS ΦR (hb_Gz Z.1 (some Z.2)) hb_GT d (mX23_tell, [(35, 62, 65, 223)]) 36 [(5, .int (σ.i 5 1)), (4, .int (σ.i 0 7)), (3, .int (σ.i 0 6)), (2, .int (σ.i 0 5)), (1, .int (σ.i 0 4)), (0, .ref 0)] K)) (by decide +kernel) (ab_cv rfl rfl (conc_get (σ := (σ.wi 0 110 (0 : Int32))) (F.s s0_0)) ⟨(Nat.le_of_ble_eq_true rfl), (Nat.le_of_ble_eq_true rfl)⟩ rfl) rfl (Nat.le_of_ble_eq_true rfl) rfl rfl hY_b w (fun τ1 F2 w => ?_)
  refine ab_fin.s2 (i := .aload_n 0) (k := 1) (pc' := 40) (lv' := [(5, .int (σ.i 5 1)), (4, .int (σ.i 0 7)), (3, .int (σ.i 0 6)), (2, .int (σ.i 0 5)), (1, .int (σ.i 0 4)), (0, .ref 0)]) (st' := [.ref 0]) (by decide +kernel) rfl rfl ?_
  refine ab_fin.q_rI (x := (τ1.i 0 23)) (ix := 247) (ci := 24) (k := 23) (pc' := 43) (by decide +kernel) rfl (c_rI (F2.s s0_0) rfl) rfl ?_
  refine ab_fin.s2 (i := .istore 6) (k := 2) (pc' := 45) (lv' := [(6, .int (τ1.i 0 23)), (5, .int (σ.i 5 1)), (4, .int (σ.i 0 7)), (3, .int (σ.i 0 6)), (2, .int (σ.i 0 5)), (1, .int (σ.i 0 4)), (0, .ref 0)]) (st' := []) (by decide +kernel) rfl rfl ?_
  refine ab_fin.s2 (i := .aload_n 0) (k := 1) (pc' := 46) (lv' := [(6, .int (τ1.i 0 23)), (5, .int (σ.i 5 1)), (4, .int (σ.i 0 7)), (3, .int (σ.i 0 6)), (2, .int (σ.i 0 5)), (1, .int (σ.i 0 4)), (0, .ref 0)]) (st' := [.ref 0]) (by decide +kernel) rfl rfl ?_
  refine ab_fin.s2 (i := .iload 6) (k := 2) (pc' := 48) (lv' := [(6, .int (τ1.i 0 23)), (5, .int (σ.i 5 1)), (4, .int (σ.i 0 7)), (3, .int (σ.i 0 6)), (2, .int (σ.i 0 5)), (1, .int (σ.i 0 4)), (0, .ref 0)]) (st' := [.int (τ1.i 0 23), .ref 0]) (by decide +kernel) rfl rfl ?_
  refine ab_fin.br (c := 0 ≤ (τ1.i 0 23)) (i := .ifCond .ge 7) (off := 7) (t := 55) (pc' := 51) (r := [.ref 0]) (by decide +kernel) rfl (by decide +kernel) rfl (fun q => ?_) (fun q => ?_)
  · replace w := w.1 q
    refine ab_fin.s2 (i := .aload_n 0) (k := 1) (pc' := 56) (lv' := [(6, .int (τ1.i 0 23)), (5, .int (σ.i 5 1)), (4, .int (σ.i 0 7)), (3, .int (σ.i 0 6)), (2, .int (σ.i 0 5)), (1, .int (σ.i 0 4)), (0, .ref 0)]) (st' := [.ref 0, .ref 0]) (by decide +kernel) rfl rfl ?_
    refine ab_fin.q_rI (x := (τ1.i 0 24)) (ix := 250) (ci := 24) (k := 24) (pc' := 59) (by decide +kernel) rfl (c_rI (F2.s s0_0) rfl) rfl ?_
    exact ab_fin.lv ⟨(List.forall_mem_cons.mpr ⟨(List.Mem.tail _ (List.Mem.tail _ (List.Mem.tail _ (List.Mem.tail _ (List.Mem.tail _ (List.Mem.tail _ (List.Mem.head _))))))), (List.forall_mem_cons.mpr ⟨(List.Mem.tail _ (List.Mem.tail _ (List.Mem.tail _ (List.Mem.tail _ (List.Mem.tail _ (List.Mem.head _)))))), (List.forall_mem_cons.mpr ⟨(List.Mem.tail _ (List.Mem.tail _ (List.Mem.tail _ (List.Mem.tail _ (List.Mem.head _))))), (List.forall_mem_cons.mpr ⟨(List.Mem.tail _ (List.Mem.tail _ (List.Mem.tail _ (List.Mem.head _)))), (List.forall_mem_cons.mpr ⟨(List.Mem.tail _ (List.Mem.tail _ (List.Mem.head _))), (List.forall_mem_cons.mpr ⟨(List.Mem.tail _ (List.Mem.head _)), (List.forall_mem_cons.mpr ⟨(List.Mem.head _), (fun _ h => absurd h List.not_mem_nil)⟩)⟩)⟩)⟩)⟩)⟩)⟩), (show ([6, 5, 4, 3, 2, 1, 0] : List Nat).Nodup from by decide)⟩ w
  · replace w := w.2 q
    refine ab_fin.s1i (i := .iconst 0) (k := 1) (pc' := 52) (n := 0) (by decide +kernel) rfl (by decide +kernel) rfl ?_
    refine ab_fin.s3 (i := .goto 7) (k := 3) (t := 59) (st' := [.int 0, .ref 0]) (by decide +kernel) (ab_gto (by decide +kernel)) ?_
    exact ab_fin.lv ⟨(List.forall_mem_cons.mpr ⟨(List.Mem.tail _ (List.Mem.tail _ (List.Mem.tail _ (List.Mem.tail _ (List.Mem.tail _ (List.Mem.tail _ (List.Mem.head _))))))), (List.forall_mem_cons.mpr ⟨(List.Mem.tail _ (List.Mem.tail _ (List.Mem.tail _ (List.Mem.tail _ (List.Mem.tail _ (List.Mem.head _)))))), (List.forall_mem_cons.mpr ⟨(List.Mem.tail _ (List.Mem.tail _ (List.Mem.tail _ (List.Mem.tail _ (List.Mem.head _))))), (List.forall_mem_cons.mpr ⟨(List.Mem.tail _ (List.Mem.tail _ (List.Mem.tail _ (List.Mem.head _)))), (List.forall_mem_cons.mpr ⟨(List.Mem.tail _ (List.Mem.tail _ (List.Mem.head _))), (List.forall_mem_cons.mpr ⟨(List.Mem.tail _ (List.Mem.head _)), (List.forall_mem_cons.mpr ⟨(List.Mem.head _), (fun _ h => absurd h List.not_mem_nil)⟩)⟩)⟩)⟩)⟩)⟩)⟩), (show ([6, 5, 4, 3, 2, 1, 0] : List Nat).Nodup from by decide)⟩ w
theorem S_X23_tell_59 {Z : zT} {d : Nat} {σ : Sg} {l1 : Int32} {l2 : Int32} {l3 : Int32} {l4 : Int32} {l5 : Int32} {l6 : Int32} {s1 : Int32} {K : kS} (F : FX ΦR σ.sh σ.r) (w : B_X23_tell_79 Z (d + 1) (σ.wi 0 112 s1) l1 l2 l3 l4 l5 l6 K) : B_X23_tell_59 Z (d + 1) σ l1 l2 l3 l4 l5 l6 s1 K := by
  unfold B_X23_tell_59
  refine ab_fin.q_pF (ix := 1010) (ci := 24) (k := 112) (h1 := conc (σ.wi 0 112 s1)) (pc' := 62) (by decide +kernel) rfl (c_pI (v := s1) (F.s s0_0) rfl) rfl rfl rfl ?_
  refine ab_fin.s3 (i := .goto 17) (k := 3) (t := 79) (st' := []) (by decide +kernel) (ab_gto (by decide +kernel)) ?_
  exact ab_fin.lv ⟨(List.forall_mem_cons.mpr ⟨(List.Mem.head _), (List.forall_mem_cons.mpr ⟨(List.Mem.tail _ (List.Mem.head _)), (List.forall_mem_cons.mpr ⟨(List.Mem.tail _ (List.Mem.tail _ (List.Mem.head _))), (List.forall_mem_cons.mpr ⟨(List.Mem.tail _ (List.Mem.tail _ (List.Mem.tail _ (List.Mem.head _)))), (List.forall_mem_cons.mpr ⟨(List.Mem.tail _ (List.Mem.tail _ (List.Mem.tail _ (List.Mem.tail _ (List.Mem.head _))))), (List.forall_mem_cons.mpr ⟨(List.Mem.tail _ (List.Mem.tail _ (List.Mem.tail _ (List.Mem.tail _ (List.Mem.tail _ (List.Mem.head _)))))), (List.forall_mem_cons.mpr ⟨(List.Mem.tail _ (List.Mem.tail _ (List.Mem.tail _ (List.Mem.tail _ (List.Mem.tail _ (List.Mem.tail _ (List.Mem.head _))))))), (fun _ h => absurd h List.not_mem_nil)⟩)⟩)⟩)⟩)⟩)⟩)⟩), (show ([0, 1, 2, 3, 4, 5, 6] : List Nat).Nodup from by decide)⟩ w
theorem S_X23_tell_79 {Z : zT} {d : Nat} {σ : Sg} {l1 : Int32} {l2 : Int32} {l3 : Int32} {l4 : Int32} {l5 : Int32} {l6 : Int32} {K : kS} (F : FX ΦR σ.sh σ.r) (w : (l6 < 0 → B_X23_rebuild_0 Z d (σ.wi 0 15 (0 : Int32))  (yN K fun τ1 => K (.inl (some (.int l6))) τ1)) ∧ (¬ l6 < 0 → K (.inl (some (.int l6))) ((((((σ.wi 0 15 (0 : Int32)).wi 0 4 l1).wi 0 5 l2).wi 0 6 l3).wi 0 7 l4).wi 5 1 l5))) : B_X23_tell_79 Z (d + 1) σ l1 l2 l3 l4 l5 l6 K := by
  unfold B_X23_tell_79
  refine ab_fin.s2 (i := .aload_n 0) (k := 1) (pc' := 80) (lv' := [(0, .ref 0), (1, .int l1), (2, .int l2), (3, .int l3), (4, .int l4), (5, .int l5), (6, .int l6)]) (st' := [.ref 0]) (by decide +kernel) rfl rfl ?_
  refine ab_fin.s1i (i := .iconst 0) (k := 1) (pc' := 81) (n := 0) (by decide +kernel) rfl (by decide +kernel) rfl ?_
  refine ab_fin.q_pF (ix := 180) (ci := 24) (k := 15) (h1 := conc (σ.wi 0 15 (0 : Int32))) (pc' := 84) (by decide +kernel) rfl (c_pI (v := 0) (F.s s0_0) rfl) rfl rfl rfl ?_
  refine ab_fin.s2 (i := .iload 6) (k := 2) (pc' := 86) (lv' := [(0, .ref 0), (1, .int l1), (2, .int l2), (3, .int l3), (4, .int l4), (5, .int l5), (6, .int l6)]) (st' := [.int l6]) (by decide +kernel) rfl rfl ?_
  refine ab_fin.br (c := l6 < 0) (i := .ifCond .lt 36) (off := 36) (t := 122) (pc' := 89) (r := []) (by decide +kernel) rfl (by decide +kernel) rfl (fun q => ?_) (fun q => ?_)
  · replace w := w.1 q
    refine ab_fin.s2 (i := .aload_n 0) (k := 1) (pc' := 123) (lv' := [(0, .ref 0), (1, .int l1), (2, .int l2), (3, .int l3), (4, .int l4), (5, .int l5), (6, .int l6)]) (st' := [.ref 0]) (by decide +kernel) rfl rfl ?_
    refine ab_fin.q_yN (i := .invokevirtual 995) (k := 3) (y := 5938) (As := [.ref 0]) (rest := []) (M' := (mX23_rebuild, [])) (lv2 := [(0, .ref 0)]) (pc' := 126) (X := K) (by decide +kernel) (ab_cv rfl rfl (conc_get (σ := (σ.wi 0 15 (0 : Int32))) (F.s s0_0)) ⟨(Nat.le_of_ble_eq_true rfl), (Nat.le_of_ble_eq_true rfl)⟩ rfl) rfl (Nat.le_of_ble_eq_true rfl) rfl rfl (hY_no fun E => rfl) w (fun τ1 F2 w => ?_)
    refine ab_fin.s2 (i := .iload 6) (k := 2) (pc' := 128) (lv' := [(0, .ref 0), (1, .int l1), (2, .int l2), (3, .int l3), (4, .int l4), (5, .int l5), (6, .int l6)]) (st' := [.int l6]) (by decide +kernel) rfl rfl ?_
    exact ab_fin.q_ret (i := .ireturn) (k := 1) (v := some (.int l6)) (by decide +kernel) rfl F2 w
  · replace w := w.2 q
    refine ab_fin.s2 (i := .aload_n 0) (k := 1) (pc' := 90) (lv' := [(0, .ref 0), (1, .int l1), (2, .int l2), (3, .int l3), (4, .int l4), (5, .int l5), (6, .int l6)]) (st' := [.ref 0]) (by decide +kernel) rfl rfl ?_
    refine ab_fin.s2 (i := .iload_n 1) (k := 1) (pc' := 91) (lv' := [(0, .ref 0), (1, .int l1), (2, .int l2), (3, .int l3), (4, .int l4), (5, .int l5), (6, .int l6)]) (st' := [.int l1, .ref 0]) (by decide +kernel) rfl rfl ?_
    refine ab_fin.q_pF (ix := 13) (ci := 24) (k := 4) (h1 := conc ((σ.wi 0 15 (0 : Int32)).wi 0 4 l1)) (pc' := 94) (by decide +kernel) rfl (c_pI (v := l1) (F.s s0_0) rfl) rfl rfl rfl ?_
    refine ab_fin.s2 (i := .aload_n 0) (k := 1) (pc' := 95) (lv' := [(0, .ref 0), (1, .int l1), (2, .int l2), (3, .int l3), (4, .int l4), (5, .int l5), (6, .int l6)]) (st' := [.ref 0]) (by decide +kernel) rfl rfl ?_
    refine ab_fin.s2 (i := .iload_n 2) (k := 1) (pc' := 96) (lv' := [(0, .ref 0), (1, .int l1), (2, .int l2), (3, .int l3), (4, .int l4), (5, .int l5), (6, .int l6)]) (st' := [.int l2, .ref 0]) (by decide +kernel) rfl rfl ?_
    refine ab_fin.q_pF (ix := 31) (ci := 24) (k := 5) (h1 := conc (((σ.wi 0 15 (0 : Int32)).wi 0 4 l1).wi 0 5 l2)) (pc' := 99) (by decide +kernel) rfl (c_pI (v := l2) (F.s s0_0) rfl) rfl rfl rfl ?_
    refine ab_fin.s2 (i := .aload_n 0) (k := 1) (pc' := 100) (lv' := [(0, .ref 0), (1, .int l1), (2, .int l2), (3, .int l3), (4, .int l4), (5, .int l5), (6, .int l6)]) (st' := [.ref 0]) (by decide +kernel) rfl rfl ?_
    refine ab_fin.s2 (i := .iload_n 3) (k := 1) (pc' := 101) (lv' := [(0, .ref 0), (1, .int l1), (2, .int l2), (3, .int l3), (4, .int l4), (5, .int l5), (6, .int l6)]) (st' := [.int l3, .ref 0]) (by decide +kernel) rfl rfl ?_
    refine ab_fin.q_pF (ix := 312) (ci := 24) (k := 6) (h1 := conc ((((σ.wi 0 15 (0 : Int32)).wi 0 4 l1).wi 0 5 l2).wi 0 6 l3)) (pc' := 104) (by decide +kernel) rfl (c_pI (v := l3) (F.s s0_0) rfl) rfl rfl rfl ?_
    refine ab_fin.s2 (i := .aload_n 0) (k := 1) (pc' := 105) (lv' := [(0, .ref 0), (1, .int l1), (2, .int l2), (3, .int l3), (4, .int l4), (5, .int l5), (6, .int l6)]) (st' := [.ref 0]) (by decide +kernel) rfl rfl ?_
    refine ab_fin.s2 (i := .iload 4) (k := 2) (pc' := 107) (lv' := [(0, .ref 0), (1, .int l1), (2, .int l2), (3, .int l3), (4, .int l4), (5, .int l5), (6, .int l6)]) (st' := [.int l4, .ref 0]) (by decide +kernel) rfl rfl ?_
    refine ab_fin.q_pF (ix := 41) (ci := 24) (k := 7) (h1 := conc (((((σ.wi 0 15 (0 : Int32)).wi 0 4 l1).wi 0 5 l2).wi 0 6 l3).wi 0 7 l4)) (pc' := 110) (by decide +kernel) rfl (c_pI (v := l4) (F.s s0_0) rfl) rfl rfl rfl ?_
    refine ab_fin.s2 (i := .aload_n 0) (k := 1) (pc' := 111) (lv' := [(0, .ref 0), (1, .int l1), (2, .int l2), (3, .int l3), (4, .int l4), (5, .int l5), (6, .int l6)]) (st' := [.ref 0]) (by decide +kernel) rfl rfl ?_
    refine ab_fin.q_rA (b := 5) (ix := 349) (ci := 24) (k := 8) (pc' := 114) (by decide +kernel) rfl (c_rA (F.s s0_0) rfl (rM_8 F)) rfl ?_
    refine ab_fin.s2 (i := .iload 5) (k := 2) (pc' := 116) (lv' := [(0, .ref 0), (1, .int l1), (2, .int l2), (3, .int l3), (4, .int l4), (5, .int l5), (6, .int l6)]) (st' := [.int l5, .ref 5]) (by decide +kernel) rfl rfl ?_
    refine ab_fin.q_pF (ix := 983) (ci := 22) (k := 1) (h1 := conc ((((((σ.wi 0 15 (0 : Int32)).wi 0 4 l1).wi 0 5 l2).wi 0 6 l3).wi 0 7 l4).wi 5 1 l5)) (pc' := 119) (by decide +kernel) rfl (c_pI (v := l5) (F.s s0_5) rfl) rfl rfl rfl ?_
    refine ab_fin.s3 (i := .goto 7) (k := 3) (t := 126) (st' := []) (by decide +kernel) (ab_gto (by decide +kernel)) ?_
    refine ab_fin.s2 (i := .iload 6) (k := 2) (pc' := 128) (lv' := [(0, .ref 0), (1, .int l1), (2, .int l2), (3, .int l3), (4, .int l4), (5, .int l5), (6, .int l6)]) (st' := [.int l6]) (by decide +kernel) rfl rfl ?_
    exact ab_fin.q_ret (i := .ireturn) (k := 1) (v := some (.int l6)) (by decide +kernel) rfl F w
theorem S_X23_program_0 {Z : zT} {d : Nat} {σ : Sg}  {K : kS} (F : FX ΦR σ.sh σ.r) (w : B_X23_start_0 Z d (((((((σ.wi 0 110 (0 : Int32)).wr 0 10 Rf.nul).wi 7 1 (0 : Int32)).wr 0 34 (Rf.ptr 7)).wi 0 33 (-1 : Int32)).wi 0 32 (0 : Int32)).wi 0 21 (0 : Int32))  (yN (bS ΦR (hb_Gz Z.1 (some Z.2)) hb_GT d (mX23_program, [(43, 85, 88, 223)]) 44 [(2, .null), (0, .ref 0)] K) fun τ3 => B_X23_e_0 Z d τ3  (yW (bS ΦR (hb_Gz Z.1 (some Z.2)) hb_GT d (mX23_program, [(43, 85, 88, 223)]) 48 [(2, .null), (0, .ref 0)] K) fun v7 τ5 => ((τ5.i 0 17) = 0 → (0 ≤ (τ5.i 0 23) → B_X23_program_82 Z (d + 1) τ5 (τ5.i 0 23) v7 (τ5.i 0 24) K) ∧ (¬ 0 ≤ (τ5.i 0 23) → B_X23_program_82 Z (d + 1) τ5 (τ5.i 0 23) v7 0 K)) ∧ (¬ (τ5.i 0 17) = 0 → B_X23_no_0 Z d τ5  (yR (bS ΦR (hb_Gz Z.1 (some Z.2)) hb_GT d (mX23_program, [(43, 85, 88, 223)]) 60 [(2, rv v7), (0, .ref 0)] K) fun v10 τ8 => ∃ x12, aT τ8 v10 x12 ∧ (bS ΦR (hb_Gz Z.1 (some Z.2)) hb_GT d (mX23_program, [(43, 85, 88, 223)]) 63 [(2, rv v7), (0, .ref 0)] K) (.inr (x12, v10)) τ8))))) : B_X23_program_0 Z (d + 1) σ  K := by
  unfold B_X23_program_0
  refine ab_fin.s2 (i := .aload_n 0) (k := 1) (pc' := 1) (lv' := [(0, .ref 0)]) (st' := [.ref 0]) (by decide +kernel) rfl rfl ?_
  refine ab_fin.s1i (i := .iconst 0) (k := 1) (pc' := 2) (n := 0) (by decide +kernel) rfl (by decide +kernel) rfl ?_
  refine ab_fin.q_pF (ix := 1000) (ci := 24) (k := 110) (h1 := conc (σ.wi 0 110 (0 : Int32))) (pc' := 5) (by decide +kernel) rfl (c_pI (v := 0) (F.s s0_0) rfl) rfl rfl rfl ?_
  refine ab_fin.s2 (i := .aload_n 0) (k := 1) (pc' := 6) (lv' := [(0, .ref 0)]) (st' := [.ref 0]) (by decide +kernel) rfl rfl ?_
  refine ab_fin.s1 (i := .aconst_null) (k := 1) (pc' := 7) (st' := [.null, .ref 0]) (by decide +kernel) rfl rfl ?_
  have F1 := FX.w (Φ := ΦR) (a := 0) (k := 10) (v := Rf.nul) F (cM_10)
  refine ab_fin.q_pF (ix := 885) (ci := 24) (k := 10) (h1 := conc ((σ.wi 0 110 (0 : Int32)).wr 0 10 Rf.nul)) (pc' := 10) (by decide +kernel) rfl (c_pR (v := Rf.nul) (F.s s0_0) rfl) rfl rfl rfl ?_
  refine ab_fin.s2 (i := .aload_n 0) (k := 1) (pc' := 11) (lv' := [(0, .ref 0)]) (st' := [.ref 0]) (by decide +kernel) rfl rfl ?_
  refine ab_fin.q_rA (b := 7) (ix := 957) (ci := 24) (k := 9) (pc' := 14) (by decide +kernel) rfl (c_rA (F1.s s0_0) rfl (rM_9 F1)) rfl ?_
  refine ab_fin.s1i (i := .iconst 0) (k := 1) (pc' := 15) (n := 0) (by decide +kernel) rfl (by decide +kernel) rfl ?_
  refine ab_fin.q_pF (ix := 983) (ci := 22) (k := 1) (h1 := conc (((σ.wi 0 110 (0 : Int32)).wr 0 10 Rf.nul).wi 7 1 (0 : Int32))) (pc' := 18) (by decide +kernel) rfl (c_pI (v := 0) (F1.s s0_7) rfl) rfl rfl rfl ?_
  refine ab_fin.s2 (i := .aload_n 0) (k := 1) (pc' := 19) (lv' := [(0, .ref 0)]) (st' := [.ref 0]) (by decide +kernel) rfl rfl ?_
  refine ab_fin.s2 (i := .aload_n 0) (k := 1) (pc' := 20) (lv' := [(0, .ref 0)]) (st' := [.ref 0, .ref 0]) (by decide +kernel) rfl rfl ?_
  refine ab_fin.q_rA (b := 7) (ix := 957) (ci := 24) (k := 9) (pc' := 23) (by decide +kernel) rfl (c_rA (F1.s s0_0) rfl (rM_9 F1)) rfl ?_
  have F2 := FX.w (Φ := ΦR) (a := 0) (k := 34) (v := (Rf.ptr 7)) F1 (cM_34)
  refine ab_fin.q_pF (ix := 353) (ci := 24) (k := 34) (h1 := conc ((((σ.wi 0 110 (0 : Int32)).wr 0 10 Rf.nul).wi 7 1 (0 : Int32)).wr 0 34 (Rf.ptr 7))) (pc' := 26) (by decide +kernel) rfl (c_pR (v := (Rf.ptr 7)) (F1.s s0_0) rfl) rfl rfl rfl ?_
  refine ab_fin.s2 (i := .aload_n 0) (k := 1) (pc' := 27) (lv' := [(0, .ref 0)]) (st' := [.ref 0]) (by decide +kernel) rfl rfl ?_
  refine ab_fin.s1i (i := .iconst (-1)) (k := 1) (pc' := 28) (n := (-1)) (by decide +kernel) rfl (by decide +kernel) rfl ?_
  refine ab_fin.q_pF (ix := 369) (ci := 24) (k := 33) (h1 := conc (((((σ.wi 0 110 (0 : Int32)).wr 0 10 Rf.nul).wi 7 1 (0 : Int32)).wr 0 34 (Rf.ptr 7)).wi 0 33 (-1 : Int32))) (pc' := 31) (by decide +kernel) rfl (c_pI (v := (-1)) (F2.s s0_0) rfl) rfl rfl rfl ?_
  refine ab_fin.s2 (i := .aload_n 0) (k := 1) (pc' := 32) (lv' := [(0, .ref 0)]) (st' := [.ref 0]) (by decide +kernel) rfl rfl ?_
  refine ab_fin.s1i (i := .iconst 0) (k := 1) (pc' := 33) (n := 0) (by decide +kernel) rfl (by decide +kernel) rfl ?_
  refine ab_fin.q_pF (ix := 339) (ci := 24) (k := 32) (h1 := conc ((((((σ.wi 0 110 (0 : Int32)).wr 0 10 Rf.nul).wi 7 1 (0 : Int32)).wr 0 34 (Rf.ptr 7)).wi 0 33 (-1 : Int32)).wi 0 32 (0 : Int32))) (pc' := 36) (by decide +kernel) rfl (c_pI (v := 0) (F2.s s0_0) rfl) rfl rfl rfl ?_
  refine ab_fin.s2 (i := .aload_n 0) (k := 1) (pc' := 37) (lv' := [(0, .ref 0)]) (st' := [.ref 0]) (by decide +kernel) rfl rfl ?_
  refine ab_fin.s1i (i := .iconst 0) (k := 1) (pc' := 38) (n := 0) (by decide +kernel) rfl (by decide +kernel) rfl ?_
  refine ab_fin.q_pF (ix := 256) (ci := 24) (k := 21) (h1 := conc (((((((σ.wi 0 110 (0 : Int32)).wr 0 10 Rf.nul).wi 7 1 (0 : Int32)).wr 0 34 (Rf.ptr 7)).wi 0 33 (-1 : Int32)).wi 0 32 (0 : Int32)).wi 0 21 (0 : Int32))) (pc' := 41) (by decide +kernel) rfl (c_pI (v := 0) (F2.s s0_0) rfl) rfl rfl rfl ?_
  refine ab_fin.s1 (i := .aconst_null) (k := 1) (pc' := 42) (st' := [.null]) (by decide +kernel) rfl rfl ?_
  refine ab_fin.s2 (i := .astore_n 2) (k := 1) (pc' := 43) (lv' := [(2, .null), (0, .ref 0)]) (st' := []) (by decide +kernel) rfl rfl ?_
  refine ab_fin.s2 (i := .aload_n 0) (k := 1) (pc' := 44) (lv' := [(2, .null), (0, .ref 0)]) (st' := [.ref 0]) (by decide +kernel) rfl rfl ?_
  refine ab_fin.q_yN (i := .invokevirtual 263) (k := 3) (y := 5914) (As := [.ref 0]) (rest := []) (M' := (mX23_start, [])) (lv2 := [(0, .ref 0)]) (pc' := 47) (X := (bS ΦR (hb_Gz Z.1 (some Z.2)) hb_GT d (mX23_program, [(43, 85, 88, 223)]) 44 [(2, .null), (0, .ref 0)] K)) (by decide +kernel) (ab_cv rfl rfl (conc_get (σ := (((((((σ.wi 0 110 (0 : Int32)).wr 0 10 Rf.nul).wi 7 1 (0 : Int32)).wr 0 34 (Rf.ptr 7)).wi 0 33 (-1 : Int32)).wi 0 32 (0 : Int32)).wi 0 21 (0 : Int32))) (F2.s s0_0)) ⟨(Nat.le_of_ble_eq_true rfl), (Nat.le_of_ble_eq_true rfl)⟩ rfl) rfl (Nat.le_of_ble_eq_true rfl) rfl rfl hY_b w (fun τ3 F4 w => ?_)
  refine ab_fin.s2 (i := .aload_n 0) (k := 1) (pc' := 48) (lv' := [(2, .null), (0, .ref 0)]) (st' := [.ref 0]) (by decide +kernel) rfl rfl ?_
  refine ab_fin.q_yW (i := .invokevirtual 372) (k := 3) (y := 5930) (As := [.ref 0]) (rest := []) (M' := (mX23_e, [])) (lv2 := [(0, .ref 0)]) (pc' := 51) (X := (bS ΦR (hb_Gz Z.1 (some Z.2)) hb_GT d (mX23_program, [(43, 85, 88, 223)]) 48 [(2, .null), (0, .ref 0)] K)) (by decide +kernel) (ab_cv rfl rfl (conc_get (σ := τ3) (F4.s s0_0)) ⟨(Nat.le_of_ble_eq_true rfl), (Nat.le_of_ble_eq_true rfl)⟩ rfl) rfl (Nat.le_of_ble_eq_true rfl) rfl rfl hY_b w (fun v7 τ5 F6 w => ?_)
  refine ab_fin.q_stA (i := .astore_n 2) (n := 2) (k := 1) (pc' := 52) (lv' := [(2, rv v7), (0, .ref 0)]) (Or.inl ⟨_, rfl, rfl, rfl⟩) (by decide +kernel) (by decide) (oR_rv _) rfl rfl ?_
  refine ab_fin.s2 (i := .aload_n 0) (k := 1) (pc' := 53) (lv' := [(2, rv v7), (0, .ref 0)]) (st' := [.ref 0]) (by decide +kernel) rfl rfl ?_
  refine ab_fin.q_rI (x := (τ5.i 0 17)) (ix := 183) (ci := 24) (k := 17) (pc' := 56) (by decide +kernel) rfl (c_rI (F6.s s0_0) rfl) rfl ?_
  refine ab_fin.br (c := (τ5.i 0 17) = 0) (i := .ifCond .eq 8) (off := 8) (t := 64) (pc' := 59) (r := []) (by decide +kernel) rfl (by decide +kernel) rfl (fun q => ?_) (fun q => ?_)
  · replace w := w.1 q
    refine ab_fin.s2 (i := .aload_n 0) (k := 1) (pc' := 65) (lv' := [(2, rv v7), (0, .ref 0)]) (st' := [.ref 0]) (by decide +kernel) rfl rfl ?_
    refine ab_fin.q_rI (x := (τ5.i 0 23)) (ix := 247) (ci := 24) (k := 23) (pc' := 68) (by decide +kernel) rfl (c_rI (F6.s s0_0) rfl) rfl ?_
    refine ab_fin.s2 (i := .istore_n 1) (k := 1) (pc' := 69) (lv' := [(1, .int (τ5.i 0 23)), (2, rv v7), (0, .ref 0)]) (st' := []) (by decide +kernel) rfl rfl ?_
    refine ab_fin.s2 (i := .aload_n 0) (k := 1) (pc' := 70) (lv' := [(1, .int (τ5.i 0 23)), (2, rv v7), (0, .ref 0)]) (st' := [.ref 0]) (by decide +kernel) rfl rfl ?_
    refine ab_fin.s2 (i := .iload_n 1) (k := 1) (pc' := 71) (lv' := [(1, .int (τ5.i 0 23)), (2, rv v7), (0, .ref 0)]) (st' := [.int (τ5.i 0 23), .ref 0]) (by decide +kernel) rfl rfl ?_
    refine ab_fin.br (c := 0 ≤ (τ5.i 0 23)) (i := .ifCond .ge 7) (off := 7) (t := 78) (pc' := 74) (r := [.ref 0]) (by decide +kernel) rfl (by decide +kernel) rfl (fun q => ?_) (fun q => ?_)
    · replace w := w.1 q
      refine ab_fin.s2 (i := .aload_n 0) (k := 1) (pc' := 79) (lv' := [(1, .int (τ5.i 0 23)), (2, rv v7), (0, .ref 0)]) (st' := [.ref 0, .ref 0]) (by decide +kernel) rfl rfl ?_
      refine ab_fin.q_rI (x := (τ5.i 0 24)) (ix := 250) (ci := 24) (k := 24) (pc' := 82) (by decide +kernel) rfl (c_rI (F6.s s0_0) rfl) rfl ?_
      exact ab_fin.lv ⟨(List.forall_mem_cons.mpr ⟨(List.Mem.tail _ (List.Mem.tail _ (List.Mem.head _))), (List.forall_mem_cons.mpr ⟨(List.Mem.head _), (List.forall_mem_cons.mpr ⟨(List.Mem.tail _ (List.Mem.head _)), (fun _ h => absurd h List.not_mem_nil)⟩)⟩)⟩), (show ([1, 2, 0] : List Nat).Nodup from by decide)⟩ w
    · replace w := w.2 q
      refine ab_fin.s1i (i := .iconst 0) (k := 1) (pc' := 75) (n := 0) (by decide +kernel) rfl (by decide +kernel) rfl ?_
      refine ab_fin.s3 (i := .goto 7) (k := 3) (t := 82) (st' := [.int 0, .ref 0]) (by decide +kernel) (ab_gto (by decide +kernel)) ?_
      exact ab_fin.lv ⟨(List.forall_mem_cons.mpr ⟨(List.Mem.tail _ (List.Mem.tail _ (List.Mem.head _))), (List.forall_mem_cons.mpr ⟨(List.Mem.head _), (List.forall_mem_cons.mpr ⟨(List.Mem.tail _ (List.Mem.head _)), (fun _ h => absurd h List.not_mem_nil)⟩)⟩)⟩), (show ([1, 2, 0] : List Nat).Nodup from by decide)⟩ w
  · replace w := w.2 q
    refine ab_fin.s2 (i := .aload_n 0) (k := 1) (pc' := 60) (lv' := [(2, rv v7), (0, .ref 0)]) (st' := [.ref 0]) (by decide +kernel) rfl rfl ?_
    refine ab_fin.q_yR (i := .invokevirtual 235) (k := 3) (y := 5903) (As := [.ref 0]) (rest := []) (M' := (mX23_no, [])) (lv2 := [(0, .ref 0)]) (pc' := 63) (X := (bS ΦR (hb_Gz Z.1 (some Z.2)) hb_GT d (mX23_program, [(43, 85, 88, 223)]) 60 [(2, rv v7), (0, .ref 0)] K)) (by decide +kernel) (ab_cv rfl rfl (conc_get (σ := τ5) (F6.s s0_0)) ⟨(Nat.le_of_ble_eq_true rfl), (Nat.le_of_ble_eq_true rfl)⟩ rfl) rfl (Nat.le_of_ble_eq_true rfl) rfl rfl hY_b w (fun v10 τ8 F9 w => ?_)
    obtain ⟨x12, e11, w⟩ := w
    exact ab_fin.q_ath (X := fun r h => ∃ τ, h = conc τ ∧ FX ΦR τ.sh τ.r ∧ (bS ΦR (hb_Gz Z.1 (some Z.2)) hb_GT d (mX23_program, [(43, 85, 88, 223)]) 63 [(2, rv v7), (0, .ref 0)] K) r τ) (by decide +kernel) (aT_ok e11) (fun p h ⟨τ, q, f, z⟩ => by subst q; exact (hY_b : hY ΦR _ _ _ _ _ _ _ _ _ _) p τ f z) ⟨_, rfl, F9, w⟩
theorem S_X23_program_82 {Z : zT} {d : Nat} {σ : Sg} {l1 : Int32} {l2 : Rf} {s1 : Int32} {K : kS} (F : FX ΦR σ.sh σ.r) (w : B_X23_program_99 Z (d + 1) (σ.wi 0 112 s1) l1 l2 K) : B_X23_program_82 Z (d + 1) σ l1 l2 s1 K := by
  unfold B_X23_program_82
  refine ab_fin.q_pF (ix := 1010) (ci := 24) (k := 112) (h1 := conc (σ.wi 0 112 s1)) (pc' := 85) (by decide +kernel) rfl (c_pI (v := s1) (F.s s0_0) rfl) rfl rfl rfl ?_
  refine ab_fin.s3 (i := .goto 14) (k := 3) (t := 99) (st' := []) (by decide +kernel) (ab_gto (by decide +kernel)) ?_
  exact ab_fin.lv ⟨(List.forall_mem_cons.mpr ⟨(List.Mem.head _), (List.forall_mem_cons.mpr ⟨(List.Mem.tail _ (List.Mem.head _)), (List.forall_mem_cons.mpr ⟨(List.Mem.tail _ (List.Mem.tail _ (List.Mem.head _))), (fun _ h => absurd h List.not_mem_nil)⟩)⟩)⟩), (show ([0, 1, 2] : List Nat).Nodup from by decide)⟩ w
theorem S_X23_program_99 {Z : zT} {d : Nat} {σ : Sg} {l1 : Int32} {l2 : Rf} {K : kS} (F : FX ΦR σ.sh σ.r) (w : (0 ≤ l1 → K (.inl (some (.int l1))) (σ.wi 0 15 (0 : Int32))) ∧ (¬ 0 ≤ l1 → K (.inl (some (.int l1))) ((σ.wi 0 15 (0 : Int32)).wr 0 10 l2))) : B_X23_program_99 Z (d + 1) σ l1 l2 K := by
  unfold B_X23_program_99
  refine ab_fin.s2 (i := .aload_n 0) (k := 1) (pc' := 100) (lv' := [(0, .ref 0), (1, .int l1), (2, rv l2)]) (st' := [.ref 0]) (by decide +kernel) rfl rfl ?_
  refine ab_fin.s1i (i := .iconst 0) (k := 1) (pc' := 101) (n := 0) (by decide +kernel) rfl (by decide +kernel) rfl ?_
  refine ab_fin.q_pF (ix := 180) (ci := 24) (k := 15) (h1 := conc (σ.wi 0 15 (0 : Int32))) (pc' := 104) (by decide +kernel) rfl (c_pI (v := 0) (F.s s0_0) rfl) rfl rfl rfl ?_
  refine ab_fin.s2 (i := .iload_n 1) (k := 1) (pc' := 105) (lv' := [(0, .ref 0), (1, .int l1), (2, rv l2)]) (st' := [.int l1]) (by decide +kernel) rfl rfl ?_
  refine ab_fin.br (c := 0 ≤ l1) (i := .ifCond .ge 8) (off := 8) (t := 113) (pc' := 108) (r := []) (by decide +kernel) rfl (by decide +kernel) rfl (fun q => ?_) (fun q => ?_)
  · replace w := w.1 q
    refine ab_fin.s2 (i := .iload_n 1) (k := 1) (pc' := 114) (lv' := [(0, .ref 0), (1, .int l1), (2, rv l2)]) (st' := [.int l1]) (by decide +kernel) rfl rfl ?_
    exact ab_fin.q_ret (i := .ireturn) (k := 1) (v := some (.int l1)) (by decide +kernel) rfl F w
  · replace w := w.2 q
    refine ab_fin.s2 (i := .aload_n 0) (k := 1) (pc' := 109) (lv' := [(0, .ref 0), (1, .int l1), (2, rv l2)]) (st' := [.ref 0]) (by decide +kernel) rfl rfl ?_
    refine ab_fin.ald (i := .aload_n 2) (n := 2) (k := 1) (pc' := 110) (Or.inl ⟨_, rfl, rfl, rfl⟩) (by decide +kernel) rfl (oR_rv _) rfl ?_
    have F1 := FX.w (Φ := ΦR) (a := 0) (k := 10) (v := l2) F (cM_10)
    refine ab_fin.q_pF (ix := 885) (ci := 24) (k := 10) (h1 := conc ((σ.wi 0 15 (0 : Int32)).wr 0 10 l2)) (pc' := 113) (by decide +kernel) rfl (c_pR (v := l2) (F.s s0_0) rfl) nRv_n nRv_f rfl ?_
    refine ab_fin.s2 (i := .iload_n 1) (k := 1) (pc' := 114) (lv' := [(0, .ref 0), (1, .int l1), (2, rv l2)]) (st' := [.int l1]) (by decide +kernel) rfl rfl ?_
    exact ab_fin.q_ret (i := .ireturn) (k := 1) (v := some (.int l1)) (by decide +kernel) rfl F1 w
theorem S_X23_clear_0 {Z : zT} {d : Nat} {σ : Sg}  {K : kS} (F : FX ΦR σ.sh σ.r) (w : B_X23_beginning_0 Z d (σ.wi 0 110 (0 : Int32))  (yN K fun τ1 => K (.inl none) τ1)) : B_X23_clear_0 Z (d + 1) σ  K := by
  unfold B_X23_clear_0
  refine ab_fin.s2 (i := .aload_n 0) (k := 1) (pc' := 1) (lv' := [(0, .ref 0)]) (st' := [.ref 0]) (by decide +kernel) rfl rfl ?_
  refine ab_fin.s1i (i := .iconst 0) (k := 1) (pc' := 2) (n := 0) (by decide +kernel) rfl (by decide +kernel) rfl ?_
  refine ab_fin.q_pF (ix := 1000) (ci := 24) (k := 110) (h1 := conc (σ.wi 0 110 (0 : Int32))) (pc' := 5) (by decide +kernel) rfl (c_pI (v := 0) (F.s s0_0) rfl) rfl rfl rfl ?_
  refine ab_fin.s2 (i := .aload_n 0) (k := 1) (pc' := 6) (lv' := [(0, .ref 0)]) (st' := [.ref 0]) (by decide +kernel) rfl rfl ?_
  refine ab_fin.q_yN (i := .invokevirtual 980) (k := 3) (y := 5990) (As := [.ref 0]) (rest := []) (M' := (mX23_beginning, [])) (lv2 := [(0, .ref 0)]) (pc' := 9) (X := K) (by decide +kernel) (ab_cv rfl rfl (conc_get (σ := (σ.wi 0 110 (0 : Int32))) (F.s s0_0)) ⟨(Nat.le_of_ble_eq_true rfl), (Nat.le_of_ble_eq_true rfl)⟩ rfl) rfl (Nat.le_of_ble_eq_true rfl) rfl rfl (hY_no fun E => rfl) w (fun τ1 F2 w => ?_)
  exact ab_fin.q_ret (i := .return_) (k := 1) (v := none) (by decide +kernel) rfl F2 w
theorem S_X23_drop_0 {Z : zT} {d : Nat} {σ : Sg} {l1 : Int32} {K : kS} (F : FX ΦR σ.sh σ.r) (w : (l1 < 1 → B_X23_no__0 Z d (σ.wi 0 110 (0 : Int32)) 1 (yI K fun v3 τ1 => (v3 ≤ 0 → K (.inl (some (.int 0))) τ1) ∧ (¬ v3 ≤ 0 → K (.inl (some (.int 1))) τ1))) ∧ (¬ l1 < 1 → (l1 ≤ (σ.i 0 6) → ib l1 121 ∧ ((¬ ((σ.wi 0 110 (0 : Int32)).i (2497 + 4 * l1.toNatClampNeg) 10) = 0 → B_X23_drop_49 Z (d + 1) (σ.wi 0 110 (0 : Int32)) l1 0 K) ∧ (((σ.wi 0 110 (0 : Int32)).i (2497 + 4 * l1.toNatClampNeg) 10) = 0 → B_X23_drop_49 Z (d + 1) (σ.wi 0 110 (0 : Int32)) l1 1 K))) ∧ (¬ l1 ≤ (σ.i 0 6) → B_X23_no__0 Z d (σ.wi 0 110 (0 : Int32)) 1 (yI K fun v7 τ5 => (v7 ≤ 0 → K (.inl (some (.int 0))) τ5) ∧ (¬ v7 ≤ 0 → K (.inl (some (.int 1))) τ5))))) : B_X23_drop_0 Z (d + 1) σ l1 K := by
  unfold B_X23_drop_0
  refine ab_fin.s2 (i := .aload_n 0) (k := 1) (pc' := 1) (lv' := [(0, .ref 0), (1, .int l1)]) (st' := [.ref 0]) (by decide +kernel) rfl rfl ?_
  refine ab_fin.s1i (i := .iconst 0) (k := 1) (pc' := 2) (n := 0) (by decide +kernel) rfl (by decide +kernel) rfl ?_
  refine ab_fin.q_pF (ix := 1000) (ci := 24) (k := 110) (h1 := conc (σ.wi 0 110 (0 : Int32))) (pc' := 5) (by decide +kernel) rfl (c_pI (v := 0) (F.s s0_0) rfl) rfl rfl rfl ?_
  refine ab_fin.s2 (i := .iload_n 1) (k := 1) (pc' := 6) (lv' := [(0, .ref 0), (1, .int l1)]) (st' := [.int l1]) (by decide +kernel) rfl rfl ?_
  refine ab_fin.s1i (i := .iconst 1) (k := 1) (pc' := 7) (n := 1) (by decide +kernel) rfl (by decide +kernel) rfl ?_
  refine ab_fin.br (c := l1 < 1) (i := .if_icmp .lt 11) (off := 11) (t := 18) (pc' := 10) (r := []) (by decide +kernel) rfl (by decide +kernel) rfl (fun q => ?_) (fun q => ?_)
  · replace w := w.1 q
    refine ab_fin.s2 (i := .aload_n 0) (k := 1) (pc' := 19) (lv' := [(0, .ref 0), (1, .int l1)]) (st' := [.ref 0]) (by decide +kernel) rfl rfl ?_
    refine ab_fin.s1i (i := .iconst 1) (k := 1) (pc' := 20) (n := 1) (by decide +kernel) rfl (by decide +kernel) rfl ?_
    refine ab_fin.q_yI (i := .invokevirtual 1003) (k := 3) (y := 5993) (As := [.ref 0, .int 1]) (rest := []) (M' := (mX23_no_, [])) (lv2 := [(0, .ref 0), (1, .int 1)]) (pc' := 23) (X := K) (by decide +kernel) (ab_cv rfl rfl (conc_get (σ := (σ.wi 0 110 (0 : Int32))) (F.s s0_0)) ⟨(Nat.le_of_ble_eq_true rfl), (Nat.le_of_ble_eq_true rfl)⟩ rfl) rfl (Nat.le_of_ble_eq_true rfl) rfl rfl (hY_no fun E => rfl) w (fun v3 τ1 F2 w => ?_)
    refine ab_fin.br (c := v3 ≤ 0) (i := .ifCond .le 7) (off := 7) (t := 30) (pc' := 26) (r := []) (by decide +kernel) rfl (by decide +kernel) rfl (fun q => ?_) (fun q => ?_)
    · replace w := w.1 q
      refine ab_fin.s1i (i := .iconst 0) (k := 1) (pc' := 31) (n := 0) (by decide +kernel) rfl (by decide +kernel) rfl ?_
      exact ab_fin.q_ret (i := .ireturn) (k := 1) (v := some (.int 0)) (by decide +kernel) rfl F2 w
    · replace w := w.2 q
      refine ab_fin.s1i (i := .iconst 1) (k := 1) (pc' := 27) (n := 1) (by decide +kernel) rfl (by decide +kernel) rfl ?_
      refine ab_fin.s3 (i := .goto 4) (k := 3) (t := 31) (st' := [.int 1]) (by decide +kernel) (ab_gto (by decide +kernel)) ?_
      exact ab_fin.q_ret (i := .ireturn) (k := 1) (v := some (.int 1)) (by decide +kernel) rfl F2 w
  · replace w := w.2 q
    refine ab_fin.s2 (i := .iload_n 1) (k := 1) (pc' := 11) (lv' := [(0, .ref 0), (1, .int l1)]) (st' := [.int l1]) (by decide +kernel) rfl rfl ?_
    refine ab_fin.s2 (i := .aload_n 0) (k := 1) (pc' := 12) (lv' := [(0, .ref 0), (1, .int l1)]) (st' := [.ref 0, .int l1]) (by decide +kernel) rfl rfl ?_
    refine ab_fin.q_rI (x := (σ.i 0 6)) (ix := 312) (ci := 24) (k := 6) (pc' := 15) (by decide +kernel) rfl (c_rI (F.s s0_0) rfl) rfl ?_
    refine ab_fin.br (c := l1 ≤ (σ.i 0 6)) (i := .if_icmp .le 17) (off := 17) (t := 32) (pc' := 18) (r := []) (by decide +kernel) rfl (by decide +kernel) rfl (fun q => ?_) (fun q => ?_)
    · replace w := w.1 q
      refine ab_fin.s2 (i := .aload_n 0) (k := 1) (pc' := 33) (lv' := [(0, .ref 0), (1, .int l1)]) (st' := [.ref 0]) (by decide +kernel) rfl rfl ?_
      refine ab_fin.q_rA (b := 3) (ix := 315) (ci := 24) (k := 2) (pc' := 36) (by decide +kernel) rfl (c_rA (F.s s0_0) rfl (rM_2 F)) rfl ?_
      refine ab_fin.s2 (i := .iload_n 1) (k := 1) (pc' := 37) (lv' := [(0, .ref 0), (1, .int l1)]) (st' := [.int l1, .ref 3]) (by decide +kernel) rfl rfl ?_
      obtain ⟨e4, w⟩ := w
      refine ab_fin.q_eA (b := (2497 + 4 * l1.toNatClampNeg)) (pc' := 38) (by decide +kernel) (c_eA' (F.s s0_3) (by decide) rfl e4 rfl (rE_6 F s0_3 (by decide))) rfl ?_
      refine ab_fin.q_rI (x := ((σ.wi 0 110 (0 : Int32)).i (2497 + 4 * l1.toNatClampNeg) 10)) (ix := 330) (ci := 19) (k := 10) (pc' := 41) (by decide +kernel) rfl (c_rI (F.s (kE_3 e4.2)) rfl) rfl ?_
      refine ab_fin.br (c := ¬ ((σ.wi 0 110 (0 : Int32)).i (2497 + 4 * l1.toNatClampNeg) 10) = 0) (i := .ifCond .ne 7) (off := 7) (t := 48) (pc' := 44) (r := []) (by decide +kernel) rfl (by decide +kernel) rfl (fun q => ?_) (fun q => ?_)
      · replace w := w.1 q
        refine ab_fin.s1i (i := .iconst 0) (k := 1) (pc' := 49) (n := 0) (by decide +kernel) rfl (by decide +kernel) rfl ?_
        exact ab_fin.lv ⟨(List.forall_mem_cons.mpr ⟨(List.Mem.head _), (List.forall_mem_cons.mpr ⟨(List.Mem.tail _ (List.Mem.head _)), (fun _ h => absurd h List.not_mem_nil)⟩)⟩), (show ([0, 1] : List Nat).Nodup from by decide)⟩ w
      · replace w := w.2 (Decidable.of_not_not q)
        refine ab_fin.s1i (i := .iconst 1) (k := 1) (pc' := 45) (n := 1) (by decide +kernel) rfl (by decide +kernel) rfl ?_
        refine ab_fin.s3 (i := .goto 4) (k := 3) (t := 49) (st' := [.int 1]) (by decide +kernel) (ab_gto (by decide +kernel)) ?_
        exact ab_fin.lv ⟨(List.forall_mem_cons.mpr ⟨(List.Mem.head _), (List.forall_mem_cons.mpr ⟨(List.Mem.tail _ (List.Mem.head _)), (fun _ h => absurd h List.not_mem_nil)⟩)⟩), (show ([0, 1] : List Nat).Nodup from by decide)⟩ w
    · replace w := w.2 q
      refine ab_fin.s2 (i := .aload_n 0) (k := 1) (pc' := 19) (lv' := [(0, .ref 0), (1, .int l1)]) (st' := [.ref 0]) (by decide +kernel) rfl rfl ?_
      refine ab_fin.s1i (i := .iconst 1) (k := 1) (pc' := 20) (n := 1) (by decide +kernel) rfl (by decide +kernel) rfl ?_
      refine ab_fin.q_yI (i := .invokevirtual 1003) (k := 3) (y := 5993) (As := [.ref 0, .int 1]) (rest := []) (M' := (mX23_no_, [])) (lv2 := [(0, .ref 0), (1, .int 1)]) (pc' := 23) (X := K) (by decide +kernel) (ab_cv rfl rfl (conc_get (σ := (σ.wi 0 110 (0 : Int32))) (F.s s0_0)) ⟨(Nat.le_of_ble_eq_true rfl), (Nat.le_of_ble_eq_true rfl)⟩ rfl) rfl (Nat.le_of_ble_eq_true rfl) rfl rfl (hY_no fun E => rfl) w (fun v7 τ5 F6 w => ?_)
      refine ab_fin.br (c := v7 ≤ 0) (i := .ifCond .le 7) (off := 7) (t := 30) (pc' := 26) (r := []) (by decide +kernel) rfl (by decide +kernel) rfl (fun q => ?_) (fun q => ?_)
      · replace w := w.1 q
        refine ab_fin.s1i (i := .iconst 0) (k := 1) (pc' := 31) (n := 0) (by decide +kernel) rfl (by decide +kernel) rfl ?_
        exact ab_fin.q_ret (i := .ireturn) (k := 1) (v := some (.int 0)) (by decide +kernel) rfl F6 w
      · replace w := w.2 q
        refine ab_fin.s1i (i := .iconst 1) (k := 1) (pc' := 27) (n := 1) (by decide +kernel) rfl (by decide +kernel) rfl ?_
        refine ab_fin.s3 (i := .goto 4) (k := 3) (t := 31) (st' := [.int 1]) (by decide +kernel) (ab_gto (by decide +kernel)) ?_
        exact ab_fin.q_ret (i := .ireturn) (k := 1) (v := some (.int 1)) (by decide +kernel) rfl F6 w
theorem S_X23_drop_49 {Z : zT} {d : Nat} {σ : Sg} {l1 : Int32} {s0 : Int32} {K : kS} (F : FX ΦR σ.sh σ.r) (w : ib l1 121 ∧ ((s0 = 0 → narrow .boolean (.int s0) = .int s0 ∧ K (.inl (some (.int s0))) (σ.wi (2497 + 4 * l1.toNatClampNeg) 10 (1 : Int32))) ∧ (¬ s0 = 0 → B_X23_rebuild_0 Z d (σ.wi (2497 + 4 * l1.toNatClampNeg) 10 (1 : Int32))  (yN K fun τ2 => narrow .boolean (.int s0) = .int s0 ∧ K (.inl (some (.int s0))) τ2)))) : B_X23_drop_49 Z (d + 1) σ l1 s0 K := by
  unfold B_X23_drop_49
  refine ab_fin.s2 (i := .istore_n 2) (k := 1) (pc' := 50) (lv' := [(2, .int s0), (0, .ref 0), (1, .int l1)]) (st' := []) (by decide +kernel) rfl rfl ?_
  refine ab_fin.s2 (i := .aload_n 0) (k := 1) (pc' := 51) (lv' := [(2, .int s0), (0, .ref 0), (1, .int l1)]) (st' := [.ref 0]) (by decide +kernel) rfl rfl ?_
  refine ab_fin.q_rA (b := 3) (ix := 315) (ci := 24) (k := 2) (pc' := 54) (by decide +kernel) rfl (c_rA (F.s s0_0) rfl (rM_2 F)) rfl ?_
  refine ab_fin.s2 (i := .iload_n 1) (k := 1) (pc' := 55) (lv' := [(2, .int s0), (0, .ref 0), (1, .int l1)]) (st' := [.int l1, .ref 3]) (by decide +kernel) rfl rfl ?_
  obtain ⟨e1, w⟩ := w
  refine ab_fin.q_eA (b := (2497 + 4 * l1.toNatClampNeg)) (pc' := 56) (by decide +kernel) (c_eA' (F.s s0_3) (by decide) rfl e1 rfl (rE_6 F s0_3 (by decide))) rfl ?_
  refine ab_fin.s1i (i := .iconst 1) (k := 1) (pc' := 57) (n := 1) (by decide +kernel) rfl (by decide +kernel) rfl ?_
  refine ab_fin.q_pF (ix := 330) (ci := 19) (k := 10) (h1 := conc (σ.wi (2497 + 4 * l1.toNatClampNeg) 10 (1 : Int32))) (pc' := 60) (by decide +kernel) rfl (c_pI (v := 1) (F.s (kE_3 e1.2)) rfl) rfl rfl rfl ?_
  refine ab_fin.s2 (i := .iload_n 2) (k := 1) (pc' := 61) (lv' := [(2, .int s0), (0, .ref 0), (1, .int l1)]) (st' := [.int s0]) (by decide +kernel) rfl rfl ?_
  refine ab_fin.br (c := s0 = 0) (i := .ifCond .eq 7) (off := 7) (t := 68) (pc' := 64) (r := []) (by decide +kernel) rfl (by decide +kernel) rfl (fun q => ?_) (fun q => ?_)
  · replace w := w.1 q
    refine ab_fin.s2 (i := .iload_n 2) (k := 1) (pc' := 69) (lv' := [(2, .int s0), (0, .ref 0), (1, .int l1)]) (st' := [.int s0]) (by decide +kernel) rfl rfl ?_
    exact ab_fin.q_rtN (ty := .boolean) (by decide +kernel) rfl w.1 F w.2
  · replace w := w.2 q
    refine ab_fin.s2 (i := .aload_n 0) (k := 1) (pc' := 65) (lv' := [(2, .int s0), (0, .ref 0), (1, .int l1)]) (st' := [.ref 0]) (by decide +kernel) rfl rfl ?_
    refine ab_fin.q_yN (i := .invokevirtual 995) (k := 3) (y := 5938) (As := [.ref 0]) (rest := []) (M' := (mX23_rebuild, [])) (lv2 := [(0, .ref 0)]) (pc' := 68) (X := K) (by decide +kernel) (ab_cv rfl rfl (conc_get (σ := (σ.wi (2497 + 4 * l1.toNatClampNeg) 10 (1 : Int32))) (F.s s0_0)) ⟨(Nat.le_of_ble_eq_true rfl), (Nat.le_of_ble_eq_true rfl)⟩ rfl) rfl (Nat.le_of_ble_eq_true rfl) rfl rfl (hY_no fun E => rfl) w (fun τ2 F3 w => ?_)
    refine ab_fin.s2 (i := .iload_n 2) (k := 1) (pc' := 69) (lv' := [(2, .int s0), (0, .ref 0), (1, .int l1)]) (st' := [.int s0]) (by decide +kernel) rfl rfl ?_
    exact ab_fin.q_rtN (ty := .boolean) (by decide +kernel) rfl w.1 F3 w.2
theorem S_X23_set_0 {Z : zT} {d : Nat} {σ : Sg} {l1 : Int32} {l2 : Int32} {K : kS} (F : FX ΦR σ.sh σ.r) (w : (¬ l1 = 0 → B_X23_set_31 Z (d + 1) (σ.wi 0 110 (0 : Int32)) l1 l2 K) ∧ (l1 = 0 → (l2 < 0 → B_X23_set_31 Z (d + 1) (σ.wi 0 110 (0 : Int32)) l1 l2 K) ∧ (¬ l2 < 0 → (3 < l2 → B_X23_set_31 Z (d + 1) (σ.wi 0 110 (0 : Int32)) l1 l2 K) ∧ (¬ 3 < l2 → K (.inl (some (.int (σ.i 0 82)))) ((σ.wi 0 110 (0 : Int32)).wi 0 82 l2))))) : B_X23_set_0 Z (d + 1) σ l1 l2 K := by
  unfold B_X23_set_0
  refine ab_fin.s2 (i := .aload_n 0) (k := 1) (pc' := 1) (lv' := [(0, .ref 0), (1, .int l1), (2, .int l2)]) (st' := [.ref 0]) (by decide +kernel) rfl rfl ?_
  refine ab_fin.s1i (i := .iconst 0) (k := 1) (pc' := 2) (n := 0) (by decide +kernel) rfl (by decide +kernel) rfl ?_
  refine ab_fin.q_pF (ix := 1000) (ci := 24) (k := 110) (h1 := conc (σ.wi 0 110 (0 : Int32))) (pc' := 5) (by decide +kernel) rfl (c_pI (v := 0) (F.s s0_0) rfl) rfl rfl rfl ?_
  refine ab_fin.s2 (i := .iload_n 1) (k := 1) (pc' := 6) (lv' := [(0, .ref 0), (1, .int l1), (2, .int l2)]) (st' := [.int l1]) (by decide +kernel) rfl rfl ?_
  refine ab_fin.br (c := ¬ l1 = 0) (i := .ifCond .ne 25) (off := 25) (t := 31) (pc' := 9) (r := []) (by decide +kernel) rfl (by decide +kernel) rfl (fun q => ?_) (fun q => ?_)
  · replace w := w.1 q
    exact ab_fin.lv ⟨(List.forall_mem_cons.mpr ⟨(List.Mem.head _), (List.forall_mem_cons.mpr ⟨(List.Mem.tail _ (List.Mem.head _)), (List.forall_mem_cons.mpr ⟨(List.Mem.tail _ (List.Mem.tail _ (List.Mem.head _))), (fun _ h => absurd h List.not_mem_nil)⟩)⟩)⟩), (show ([0, 1, 2] : List Nat).Nodup from by decide)⟩ w
  · replace w := w.2 (Decidable.of_not_not q)
    refine ab_fin.s2 (i := .iload_n 2) (k := 1) (pc' := 10) (lv' := [(0, .ref 0), (1, .int l1), (2, .int l2)]) (st' := [.int l2]) (by decide +kernel) rfl rfl ?_
    refine ab_fin.br (c := l2 < 0) (i := .ifCond .lt 21) (off := 21) (t := 31) (pc' := 13) (r := []) (by decide +kernel) rfl (by decide +kernel) rfl (fun q => ?_) (fun q => ?_)
    · replace w := w.1 q
      exact ab_fin.lv ⟨(List.forall_mem_cons.mpr ⟨(List.Mem.head _), (List.forall_mem_cons.mpr ⟨(List.Mem.tail _ (List.Mem.head _)), (List.forall_mem_cons.mpr ⟨(List.Mem.tail _ (List.Mem.tail _ (List.Mem.head _))), (fun _ h => absurd h List.not_mem_nil)⟩)⟩)⟩), (show ([0, 1, 2] : List Nat).Nodup from by decide)⟩ w
    · replace w := w.2 q
      refine ab_fin.s2 (i := .iload_n 2) (k := 1) (pc' := 14) (lv' := [(0, .ref 0), (1, .int l1), (2, .int l2)]) (st' := [.int l2]) (by decide +kernel) rfl rfl ?_
      refine ab_fin.s1i (i := .iconst 3) (k := 1) (pc' := 15) (n := 3) (by decide +kernel) rfl (by decide +kernel) rfl ?_
      refine ab_fin.br (c := 3 < l2) (i := .if_icmp .gt 16) (off := 16) (t := 31) (pc' := 18) (r := []) (by decide +kernel) rfl (by decide +kernel) rfl (fun q => ?_) (fun q => ?_)
      · replace w := w.1 q
        exact ab_fin.lv ⟨(List.forall_mem_cons.mpr ⟨(List.Mem.head _), (List.forall_mem_cons.mpr ⟨(List.Mem.tail _ (List.Mem.head _)), (List.forall_mem_cons.mpr ⟨(List.Mem.tail _ (List.Mem.tail _ (List.Mem.head _))), (fun _ h => absurd h List.not_mem_nil)⟩)⟩)⟩), (show ([0, 1, 2] : List Nat).Nodup from by decide)⟩ w
      · replace w := w.2 q
        refine ab_fin.s2 (i := .aload_n 0) (k := 1) (pc' := 19) (lv' := [(0, .ref 0), (1, .int l1), (2, .int l2)]) (st' := [.ref 0]) (by decide +kernel) rfl rfl ?_
        refine ab_fin.q_rI (x := (σ.i 0 82)) (ix := 683) (ci := 24) (k := 82) (pc' := 22) (by decide +kernel) rfl (c_rI (F.s s0_0) rfl) rfl ?_
        refine ab_fin.s2 (i := .istore_n 3) (k := 1) (pc' := 23) (lv' := [(3, .int (σ.i 0 82)), (0, .ref 0), (1, .int l1), (2, .int l2)]) (st' := []) (by decide +kernel) rfl rfl ?_
        refine ab_fin.s2 (i := .aload_n 0) (k := 1) (pc' := 24) (lv' := [(3, .int (σ.i 0 82)), (0, .ref 0), (1, .int l1), (2, .int l2)]) (st' := [.ref 0]) (by decide +kernel) rfl rfl ?_
        refine ab_fin.s2 (i := .iload_n 2) (k := 1) (pc' := 25) (lv' := [(3, .int (σ.i 0 82)), (0, .ref 0), (1, .int l1), (2, .int l2)]) (st' := [.int l2, .ref 0]) (by decide +kernel) rfl rfl ?_
        refine ab_fin.q_pF (ix := 683) (ci := 24) (k := 82) (h1 := conc ((σ.wi 0 110 (0 : Int32)).wi 0 82 l2)) (pc' := 28) (by decide +kernel) rfl (c_pI (v := l2) (F.s s0_0) rfl) rfl rfl rfl ?_
        refine ab_fin.s3 (i := .goto 70) (k := 3) (t := 98) (st' := []) (by decide +kernel) (ab_gto (by decide +kernel)) ?_
        refine ab_fin.s2 (i := .iload_n 3) (k := 1) (pc' := 99) (lv' := [(3, .int (σ.i 0 82)), (0, .ref 0), (1, .int l1), (2, .int l2)]) (st' := [.int (σ.i 0 82)]) (by decide +kernel) rfl rfl ?_
        exact ab_fin.q_ret (i := .ireturn) (k := 1) (v := some (.int (σ.i 0 82))) (by decide +kernel) rfl F w
theorem S_X23_set_31 {Z : zT} {d : Nat} {σ : Sg} {l1 : Int32} {l2 : Int32} {K : kS} (F : FX ΦR σ.sh σ.r) (w : (¬ l1 = 1 → B_X23_set_62 Z (d + 1) σ l1 l2 K) ∧ (l1 = 1 → (l2 < 0 → B_X23_set_62 Z (d + 1) σ l1 l2 K) ∧ (¬ l2 < 0 → (2 < l2 → B_X23_set_62 Z (d + 1) σ l1 l2 K) ∧ (¬ 2 < l2 → B_X23_forget_0 Z d (σ.wi 0 83 l2)  (yN K fun τ1 => K (.inl (some (.int (σ.i 0 83)))) τ1))))) : B_X23_set_31 Z (d + 1) σ l1 l2 K := by
  unfold B_X23_set_31
  refine ab_fin.s2 (i := .iload_n 1) (k := 1) (pc' := 32) (lv' := [(0, .ref 0), (1, .int l1), (2, .int l2)]) (st' := [.int l1]) (by decide +kernel) rfl rfl ?_
  refine ab_fin.s1i (i := .iconst 1) (k := 1) (pc' := 33) (n := 1) (by decide +kernel) rfl (by decide +kernel) rfl ?_
  refine ab_fin.br (c := ¬ l1 = 1) (i := .if_icmp .ne 29) (off := 29) (t := 62) (pc' := 36) (r := []) (by decide +kernel) rfl (by decide +kernel) rfl (fun q => ?_) (fun q => ?_)
  · replace w := w.1 q
    exact ab_fin.lv ⟨(List.forall_mem_cons.mpr ⟨(List.Mem.head _), (List.forall_mem_cons.mpr ⟨(List.Mem.tail _ (List.Mem.head _)), (List.forall_mem_cons.mpr ⟨(List.Mem.tail _ (List.Mem.tail _ (List.Mem.head _))), (fun _ h => absurd h List.not_mem_nil)⟩)⟩)⟩), (show ([0, 1, 2] : List Nat).Nodup from by decide)⟩ w
  · replace w := w.2 (Decidable.of_not_not q)
    refine ab_fin.s2 (i := .iload_n 2) (k := 1) (pc' := 37) (lv' := [(0, .ref 0), (1, .int l1), (2, .int l2)]) (st' := [.int l2]) (by decide +kernel) rfl rfl ?_
    refine ab_fin.br (c := l2 < 0) (i := .ifCond .lt 25) (off := 25) (t := 62) (pc' := 40) (r := []) (by decide +kernel) rfl (by decide +kernel) rfl (fun q => ?_) (fun q => ?_)
    · replace w := w.1 q
      exact ab_fin.lv ⟨(List.forall_mem_cons.mpr ⟨(List.Mem.head _), (List.forall_mem_cons.mpr ⟨(List.Mem.tail _ (List.Mem.head _)), (List.forall_mem_cons.mpr ⟨(List.Mem.tail _ (List.Mem.tail _ (List.Mem.head _))), (fun _ h => absurd h List.not_mem_nil)⟩)⟩)⟩), (show ([0, 1, 2] : List Nat).Nodup from by decide)⟩ w
    · replace w := w.2 q
      refine ab_fin.s2 (i := .iload_n 2) (k := 1) (pc' := 41) (lv' := [(0, .ref 0), (1, .int l1), (2, .int l2)]) (st' := [.int l2]) (by decide +kernel) rfl rfl ?_
      refine ab_fin.s1i (i := .iconst 2) (k := 1) (pc' := 42) (n := 2) (by decide +kernel) rfl (by decide +kernel) rfl ?_
      refine ab_fin.br (c := 2 < l2) (i := .if_icmp .gt 20) (off := 20) (t := 62) (pc' := 45) (r := []) (by decide +kernel) rfl (by decide +kernel) rfl (fun q => ?_) (fun q => ?_)
      · replace w := w.1 q
        exact ab_fin.lv ⟨(List.forall_mem_cons.mpr ⟨(List.Mem.head _), (List.forall_mem_cons.mpr ⟨(List.Mem.tail _ (List.Mem.head _)), (List.forall_mem_cons.mpr ⟨(List.Mem.tail _ (List.Mem.tail _ (List.Mem.head _))), (fun _ h => absurd h List.not_mem_nil)⟩)⟩)⟩), (show ([0, 1, 2] : List Nat).Nodup from by decide)⟩ w
      · replace w := w.2 q
        refine ab_fin.s2 (i := .aload_n 0) (k := 1) (pc' := 46) (lv' := [(0, .ref 0), (1, .int l1), (2, .int l2)]) (st' := [.ref 0]) (by decide +kernel) rfl rfl ?_
        refine ab_fin.q_rI (x := (σ.i 0 83)) (ix := 612) (ci := 24) (k := 83) (pc' := 49) (by decide +kernel) rfl (c_rI (F.s s0_0) rfl) rfl ?_
        refine ab_fin.s2 (i := .istore_n 3) (k := 1) (pc' := 50) (lv' := [(3, .int (σ.i 0 83)), (0, .ref 0), (1, .int l1), (2, .int l2)]) (st' := []) (by decide +kernel) rfl rfl ?_
        refine ab_fin.s2 (i := .aload_n 0) (k := 1) (pc' := 51) (lv' := [(3, .int (σ.i 0 83)), (0, .ref 0), (1, .int l1), (2, .int l2)]) (st' := [.ref 0]) (by decide +kernel) rfl rfl ?_
        refine ab_fin.s2 (i := .iload_n 2) (k := 1) (pc' := 52) (lv' := [(3, .int (σ.i 0 83)), (0, .ref 0), (1, .int l1), (2, .int l2)]) (st' := [.int l2, .ref 0]) (by decide +kernel) rfl rfl ?_
        refine ab_fin.q_pF (ix := 612) (ci := 24) (k := 83) (h1 := conc (σ.wi 0 83 l2)) (pc' := 55) (by decide +kernel) rfl (c_pI (v := l2) (F.s s0_0) rfl) rfl rfl rfl ?_
        refine ab_fin.s2 (i := .aload_n 0) (k := 1) (pc' := 56) (lv' := [(3, .int (σ.i 0 83)), (0, .ref 0), (1, .int l1), (2, .int l2)]) (st' := [.ref 0]) (by decide +kernel) rfl rfl ?_
        refine ab_fin.q_yN (i := .invokevirtual 520) (k := 3) (y := 5949) (As := [.ref 0]) (rest := []) (M' := (mX23_forget, [])) (lv2 := [(0, .ref 0)]) (pc' := 59) (X := K) (by decide +kernel) (ab_cv rfl rfl (conc_get (σ := (σ.wi 0 83 l2)) (F.s s0_0)) ⟨(Nat.le_of_ble_eq_true rfl), (Nat.le_of_ble_eq_true rfl)⟩ rfl) rfl (Nat.le_of_ble_eq_true rfl) rfl rfl (hY_no fun E => rfl) w (fun τ1 F2 w => ?_)
        refine ab_fin.s3 (i := .goto 39) (k := 3) (t := 98) (st' := []) (by decide +kernel) (ab_gto (by decide +kernel)) ?_
        refine ab_fin.s2 (i := .iload_n 3) (k := 1) (pc' := 99) (lv' := [(3, .int (σ.i 0 83)), (0, .ref 0), (1, .int l1), (2, .int l2)]) (st' := [.int (σ.i 0 83)]) (by decide +kernel) rfl rfl ?_
        exact ab_fin.q_ret (i := .ireturn) (k := 1) (v := some (.int (σ.i 0 83))) (by decide +kernel) rfl F2 w
theorem S_X23_set_62 {Z : zT} {d : Nat} {σ : Sg} {l1 : Int32} {l2 : Int32} {K : kS} (F : FX ΦR σ.sh σ.r) (w : (¬ l1 = 2 → B_X23_no__0 Z d σ 1 (yI K fun v3 τ1 => K (.inl (some (.int v3))) τ1)) ∧ (l1 = 2 → (l2 < 1 → B_X23_no__0 Z d σ 1 (yI K fun v6 τ4 => K (.inl (some (.int v6))) τ4)) ∧ (¬ l2 < 1 → (100000 < l2 → B_X23_no__0 Z d σ 1 (yI K fun v9 τ7 => K (.inl (some (.int v9))) τ7)) ∧ (¬ 100000 < l2 → K (.inl (some (.int (σ.i 0 81)))) (σ.wi 0 81 l2))))) : B_X23_set_62 Z (d + 1) σ l1 l2 K := by
  unfold B_X23_set_62
  refine ab_fin.s2 (i := .iload_n 1) (k := 1) (pc' := 63) (lv' := [(0, .ref 0), (1, .int l1), (2, .int l2)]) (st' := [.int l1]) (by decide +kernel) rfl rfl ?_
  refine ab_fin.s1i (i := .iconst 2) (k := 1) (pc' := 64) (n := 2) (by decide +kernel) rfl (by decide +kernel) rfl ?_
  refine ab_fin.br (c := ¬ l1 = 2) (i := .if_icmp .ne 28) (off := 28) (t := 92) (pc' := 67) (r := []) (by decide +kernel) rfl (by decide +kernel) rfl (fun q => ?_) (fun q => ?_)
  · replace w := w.1 q
    refine ab_fin.s2 (i := .aload_n 0) (k := 1) (pc' := 93) (lv' := [(0, .ref 0), (1, .int l1), (2, .int l2)]) (st' := [.ref 0]) (by decide +kernel) rfl rfl ?_
    refine ab_fin.s1i (i := .iconst 1) (k := 1) (pc' := 94) (n := 1) (by decide +kernel) rfl (by decide +kernel) rfl ?_
    refine ab_fin.q_yI (i := .invokevirtual 1003) (k := 3) (y := 5993) (As := [.ref 0, .int 1]) (rest := []) (M' := (mX23_no_, [])) (lv2 := [(0, .ref 0), (1, .int 1)]) (pc' := 97) (X := K) (by decide +kernel) (ab_cv rfl rfl (conc_get (σ := σ) (F.s s0_0)) ⟨(Nat.le_of_ble_eq_true rfl), (Nat.le_of_ble_eq_true rfl)⟩ rfl) rfl (Nat.le_of_ble_eq_true rfl) rfl rfl (hY_no fun E => rfl) w (fun v3 τ1 F2 w => ?_)
    exact ab_fin.q_ret (i := .ireturn) (k := 1) (v := some (.int v3)) (by decide +kernel) rfl F2 w
  · replace w := w.2 (Decidable.of_not_not q)
    refine ab_fin.s2 (i := .iload_n 2) (k := 1) (pc' := 68) (lv' := [(0, .ref 0), (1, .int l1), (2, .int l2)]) (st' := [.int l2]) (by decide +kernel) rfl rfl ?_
    refine ab_fin.s1i (i := .iconst 1) (k := 1) (pc' := 69) (n := 1) (by decide +kernel) rfl (by decide +kernel) rfl ?_
    refine ab_fin.br (c := l2 < 1) (i := .if_icmp .lt 23) (off := 23) (t := 92) (pc' := 72) (r := []) (by decide +kernel) rfl (by decide +kernel) rfl (fun q => ?_) (fun q => ?_)
    · replace w := w.1 q
      refine ab_fin.s2 (i := .aload_n 0) (k := 1) (pc' := 93) (lv' := [(0, .ref 0), (1, .int l1), (2, .int l2)]) (st' := [.ref 0]) (by decide +kernel) rfl rfl ?_
      refine ab_fin.s1i (i := .iconst 1) (k := 1) (pc' := 94) (n := 1) (by decide +kernel) rfl (by decide +kernel) rfl ?_
      refine ab_fin.q_yI (i := .invokevirtual 1003) (k := 3) (y := 5993) (As := [.ref 0, .int 1]) (rest := []) (M' := (mX23_no_, [])) (lv2 := [(0, .ref 0), (1, .int 1)]) (pc' := 97) (X := K) (by decide +kernel) (ab_cv rfl rfl (conc_get (σ := σ) (F.s s0_0)) ⟨(Nat.le_of_ble_eq_true rfl), (Nat.le_of_ble_eq_true rfl)⟩ rfl) rfl (Nat.le_of_ble_eq_true rfl) rfl rfl (hY_no fun E => rfl) w (fun v6 τ4 F5 w => ?_)
      exact ab_fin.q_ret (i := .ireturn) (k := 1) (v := some (.int v6)) (by decide +kernel) rfl F5 w
    · replace w := w.2 q
      refine ab_fin.s2 (i := .iload_n 2) (k := 1) (pc' := 73) (lv' := [(0, .ref 0), (1, .int l1), (2, .int l2)]) (st' := [.int l2]) (by decide +kernel) rfl rfl ?_
      refine ab_fin.s7 (i := .ldc_w 1014) (k := 3) (pc' := 76) (st' := [.int 100000, .int l2]) (by decide +kernel) rfl rfl ?_
      refine ab_fin.br (c := 100000 < l2) (i := .if_icmp .gt 16) (off := 16) (t := 92) (pc' := 79) (r := []) (by decide +kernel) rfl (by decide +kernel) rfl (fun q => ?_) (fun q => ?_)
      · replace w := w.1 q
        refine ab_fin.s2 (i := .aload_n 0) (k := 1) (pc' := 93) (lv' := [(0, .ref 0), (1, .int l1), (2, .int l2)]) (st' := [.ref 0]) (by decide +kernel) rfl rfl ?_
        refine ab_fin.s1i (i := .iconst 1) (k := 1) (pc' := 94) (n := 1) (by decide +kernel) rfl (by decide +kernel) rfl ?_
        refine ab_fin.q_yI (i := .invokevirtual 1003) (k := 3) (y := 5993) (As := [.ref 0, .int 1]) (rest := []) (M' := (mX23_no_, [])) (lv2 := [(0, .ref 0), (1, .int 1)]) (pc' := 97) (X := K) (by decide +kernel) (ab_cv rfl rfl (conc_get (σ := σ) (F.s s0_0)) ⟨(Nat.le_of_ble_eq_true rfl), (Nat.le_of_ble_eq_true rfl)⟩ rfl) rfl (Nat.le_of_ble_eq_true rfl) rfl rfl (hY_no fun E => rfl) w (fun v9 τ7 F8 w => ?_)
        exact ab_fin.q_ret (i := .ireturn) (k := 1) (v := some (.int v9)) (by decide +kernel) rfl F8 w
      · replace w := w.2 q
        refine ab_fin.s2 (i := .aload_n 0) (k := 1) (pc' := 80) (lv' := [(0, .ref 0), (1, .int l1), (2, .int l2)]) (st' := [.ref 0]) (by decide +kernel) rfl rfl ?_
        refine ab_fin.q_rI (x := (σ.i 0 81)) (ix := 765) (ci := 24) (k := 81) (pc' := 83) (by decide +kernel) rfl (c_rI (F.s s0_0) rfl) rfl ?_
        refine ab_fin.s2 (i := .istore_n 3) (k := 1) (pc' := 84) (lv' := [(3, .int (σ.i 0 81)), (0, .ref 0), (1, .int l1), (2, .int l2)]) (st' := []) (by decide +kernel) rfl rfl ?_
        refine ab_fin.s2 (i := .aload_n 0) (k := 1) (pc' := 85) (lv' := [(3, .int (σ.i 0 81)), (0, .ref 0), (1, .int l1), (2, .int l2)]) (st' := [.ref 0]) (by decide +kernel) rfl rfl ?_
        refine ab_fin.s2 (i := .iload_n 2) (k := 1) (pc' := 86) (lv' := [(3, .int (σ.i 0 81)), (0, .ref 0), (1, .int l1), (2, .int l2)]) (st' := [.int l2, .ref 0]) (by decide +kernel) rfl rfl ?_
        refine ab_fin.q_pF (ix := 765) (ci := 24) (k := 81) (h1 := conc (σ.wi 0 81 l2)) (pc' := 89) (by decide +kernel) rfl (c_pI (v := l2) (F.s s0_0) rfl) rfl rfl rfl ?_
        refine ab_fin.s3 (i := .goto 9) (k := 3) (t := 98) (st' := []) (by decide +kernel) (ab_gto (by decide +kernel)) ?_
        refine ab_fin.s2 (i := .iload_n 3) (k := 1) (pc' := 99) (lv' := [(3, .int (σ.i 0 81)), (0, .ref 0), (1, .int l1), (2, .int l2)]) (st' := [.int (σ.i 0 81)]) (by decide +kernel) rfl rfl ?_
        exact ab_fin.q_ret (i := .ireturn) (k := 1) (v := some (.int (σ.i 0 81))) (by decide +kernel) rfl F w
theorem S_X23_count_0 {Z : zT} {d : Nat} {σ : Sg} {l1 : Int32} {K : kS} (F : FX ΦR σ.sh σ.r) (w : (l1 = 0 → K (.inl (some (.int (σ.i 0 4)))) (σ.wi 0 110 (0 : Int32))) ∧ (l1 = 1 → K (.inl (some (.int (σ.i 0 5)))) (σ.wi 0 110 (0 : Int32))) ∧ (l1 = 2 → K (.inl (some (.int (σ.i 0 6)))) (σ.wi 0 110 (0 : Int32))) ∧ (l1 = 3 → K (.inl (some (.int (σ.i 0 7)))) (σ.wi 0 110 (0 : Int32))) ∧ (l1 = 4 → K (.inl (some (.int (σ.i 0 112)))) (σ.wi 0 110 (0 : Int32))) ∧ (l1 = 5 → K (.inl (some (.int (σ.i 0 111)))) (σ.wi 0 110 (0 : Int32))) ∧ (l1 = 6 → K (.inl (some (.int (σ.i 0 15)))) (σ.wi 0 110 (0 : Int32))) ∧ (¬ l1 = 0 → ¬ l1 = 1 → ¬ l1 = 2 → ¬ l1 = 3 → ¬ l1 = 4 → ¬ l1 = 5 → ¬ l1 = 6 → B_X23_no__0 Z d (σ.wi 0 110 (0 : Int32)) 1 (yI K fun v3 τ1 => K (.inl (some (.int v3))) τ1))) : B_X23_count_0 Z (d + 1) σ l1 K := by
  unfold B_X23_count_0
  refine ab_fin.s2 (i := .aload_n 0) (k := 1) (pc' := 1) (lv' := [(0, .ref 0), (1, .int l1)]) (st' := [.ref 0]) (by decide +kernel) rfl rfl ?_
  refine ab_fin.s1i (i := .iconst 0) (k := 1) (pc' := 2) (n := 0) (by decide +kernel) rfl (by decide +kernel) rfl ?_
  refine ab_fin.q_pF (ix := 1000) (ci := 24) (k := 110) (h1 := conc (σ.wi 0 110 (0 : Int32))) (pc' := 5) (by decide +kernel) rfl (c_pI (v := 0) (F.s s0_0) rfl) rfl rfl rfl ?_
  refine ab_fin.s2 (i := .iload_n 1) (k := 1) (pc' := 6) (lv' := [(0, .ref 0), (1, .int l1)]) (st' := [.int l1]) (by decide +kernel) rfl rfl ?_
  by_cases q0 : l1 = 0
  · refine ab_fin.s3 (i := .tableswitch 77 0 6 #[42, 47, 52, 57, 62, 67, 72]) (k := 42) (t := 48) (st' := []) (by decide +kernel) (by rw [q0]; exact ab_swI (off := 42) (by decide +kernel) (by decide +kernel) (by decide +kernel)) ?_
    replace w := w.1 q0
    refine ab_fin.s2 (i := .aload_n 0) (k := 1) (pc' := 49) (lv' := [(0, .ref 0), (1, .int l1)]) (st' := [.ref 0]) (by decide +kernel) rfl rfl ?_
    refine ab_fin.q_rI (x := (σ.i 0 4)) (ix := 13) (ci := 24) (k := 4) (pc' := 52) (by decide +kernel) rfl (c_rI (F.s s0_0) rfl) rfl ?_
    exact ab_fin.q_ret (i := .ireturn) (k := 1) (v := some (.int (σ.i 0 4))) (by decide +kernel) rfl F w
  by_cases q1 : l1 = 1
  · refine ab_fin.s3 (i := .tableswitch 77 0 6 #[42, 47, 52, 57, 62, 67, 72]) (k := 42) (t := 53) (st' := []) (by decide +kernel) (by rw [q1]; exact ab_swI (off := 47) (by decide +kernel) (by decide +kernel) (by decide +kernel)) ?_
    replace w := w.2.1 q1
    refine ab_fin.s2 (i := .aload_n 0) (k := 1) (pc' := 54) (lv' := [(0, .ref 0), (1, .int l1)]) (st' := [.ref 0]) (by decide +kernel) rfl rfl ?_
    refine ab_fin.q_rI (x := (σ.i 0 5)) (ix := 31) (ci := 24) (k := 5) (pc' := 57) (by decide +kernel) rfl (c_rI (F.s s0_0) rfl) rfl ?_
    exact ab_fin.q_ret (i := .ireturn) (k := 1) (v := some (.int (σ.i 0 5))) (by decide +kernel) rfl F w
  by_cases q2 : l1 = 2
  · refine ab_fin.s3 (i := .tableswitch 77 0 6 #[42, 47, 52, 57, 62, 67, 72]) (k := 42) (t := 58) (st' := []) (by decide +kernel) (by rw [q2]; exact ab_swI (off := 52) (by decide +kernel) (by decide +kernel) (by decide +kernel)) ?_
    replace w := w.2.2.1 q2
    refine ab_fin.s2 (i := .aload_n 0) (k := 1) (pc' := 59) (lv' := [(0, .ref 0), (1, .int l1)]) (st' := [.ref 0]) (by decide +kernel) rfl rfl ?_
    refine ab_fin.q_rI (x := (σ.i 0 6)) (ix := 312) (ci := 24) (k := 6) (pc' := 62) (by decide +kernel) rfl (c_rI (F.s s0_0) rfl) rfl ?_
    exact ab_fin.q_ret (i := .ireturn) (k := 1) (v := some (.int (σ.i 0 6))) (by decide +kernel) rfl F w
  by_cases q3 : l1 = 3
  · refine ab_fin.s3 (i := .tableswitch 77 0 6 #[42, 47, 52, 57, 62, 67, 72]) (k := 42) (t := 63) (st' := []) (by decide +kernel) (by rw [q3]; exact ab_swI (off := 57) (by decide +kernel) (by decide +kernel) (by decide +kernel)) ?_
    replace w := w.2.2.2.1 q3
    refine ab_fin.s2 (i := .aload_n 0) (k := 1) (pc' := 64) (lv' := [(0, .ref 0), (1, .int l1)]) (st' := [.ref 0]) (by decide +kernel) rfl rfl ?_
    refine ab_fin.q_rI (x := (σ.i 0 7)) (ix := 41) (ci := 24) (k := 7) (pc' := 67) (by decide +kernel) rfl (c_rI (F.s s0_0) rfl) rfl ?_
    exact ab_fin.q_ret (i := .ireturn) (k := 1) (v := some (.int (σ.i 0 7))) (by decide +kernel) rfl F w
  by_cases q4 : l1 = 4
  · refine ab_fin.s3 (i := .tableswitch 77 0 6 #[42, 47, 52, 57, 62, 67, 72]) (k := 42) (t := 68) (st' := []) (by decide +kernel) (by rw [q4]; exact ab_swI (off := 62) (by decide +kernel) (by decide +kernel) (by decide +kernel)) ?_
    replace w := w.2.2.2.2.1 q4
    refine ab_fin.s2 (i := .aload_n 0) (k := 1) (pc' := 69) (lv' := [(0, .ref 0), (1, .int l1)]) (st' := [.ref 0]) (by decide +kernel) rfl rfl ?_
    refine ab_fin.q_rI (x := (σ.i 0 112)) (ix := 1010) (ci := 24) (k := 112) (pc' := 72) (by decide +kernel) rfl (c_rI (F.s s0_0) rfl) rfl ?_
    exact ab_fin.q_ret (i := .ireturn) (k := 1) (v := some (.int (σ.i 0 112))) (by decide +kernel) rfl F w
  by_cases q5 : l1 = 5
  · refine ab_fin.s3 (i := .tableswitch 77 0 6 #[42, 47, 52, 57, 62, 67, 72]) (k := 42) (t := 73) (st' := []) (by decide +kernel) (by rw [q5]; exact ab_swI (off := 67) (by decide +kernel) (by decide +kernel) (by decide +kernel)) ?_
    replace w := w.2.2.2.2.2.1 q5
    refine ab_fin.s2 (i := .aload_n 0) (k := 1) (pc' := 74) (lv' := [(0, .ref 0), (1, .int l1)]) (st' := [.ref 0]) (by decide +kernel) rfl rfl ?_
    refine ab_fin.q_rI (x := (σ.i 0 111)) (ix := 1015) (ci := 24) (k := 111) (pc' := 77) (by decide +kernel) rfl (c_rI (F.s s0_0) rfl) rfl ?_
    exact ab_fin.q_ret (i := .ireturn) (k := 1) (v := some (.int (σ.i 0 111))) (by decide +kernel) rfl F w
  by_cases q6 : l1 = 6
  · refine ab_fin.s3 (i := .tableswitch 77 0 6 #[42, 47, 52, 57, 62, 67, 72]) (k := 42) (t := 78) (st' := []) (by decide +kernel) (by rw [q6]; exact ab_swI (off := 72) (by decide +kernel) (by decide +kernel) (by decide +kernel)) ?_
    replace w := w.2.2.2.2.2.2.1 q6
    refine ab_fin.s2 (i := .aload_n 0) (k := 1) (pc' := 79) (lv' := [(0, .ref 0), (1, .int l1)]) (st' := [.ref 0]) (by decide +kernel) rfl rfl ?_
    refine ab_fin.q_rI (x := (σ.i 0 15)) (ix := 180) (ci := 24) (k := 15) (pc' := 82) (by decide +kernel) rfl (c_rI (F.s s0_0) rfl) rfl ?_
    exact ab_fin.q_ret (i := .ireturn) (k := 1) (v := some (.int (σ.i 0 15))) (by decide +kernel) rfl F w
  have hsw : ab_s3 (.tableswitch 77 0 6 #[42, 47, 52, 57, 62, 67, 72]) 42 6 (.int l1 :: []) = some (83, []) := by
    clear w
    have qd : Int32.toInt l1 < 0 ∨ 6 < Int32.toInt l1 := by
      simp only [← Int32.toInt_inj, show (0 : Int32).toInt = 0 from rfl, show (1 : Int32).toInt = 1 from rfl, show (2 : Int32).toInt = 2 from rfl, show (3 : Int32).toInt = 3 from rfl, show (4 : Int32).toInt = 4 from rfl, show (5 : Int32).toInt = 5 from rfl, show (6 : Int32).toInt = 6 from rfl] at q0 q1 q2 q3 q4 q5 q6 
      omega
    exact ab_swD qd (by decide +kernel)
  refine ab_fin.s3 (i := .tableswitch 77 0 6 #[42, 47, 52, 57, 62, 67, 72]) (k := 42) (t := 83) (st' := []) (by decide +kernel) hsw ?_
  replace w := w.2.2.2.2.2.2.2 q0 q1 q2 q3 q4 q5 q6
  refine ab_fin.s2 (i := .aload_n 0) (k := 1) (pc' := 84) (lv' := [(0, .ref 0), (1, .int l1)]) (st' := [.ref 0]) (by decide +kernel) rfl rfl ?_
  refine ab_fin.s1i (i := .iconst 1) (k := 1) (pc' := 85) (n := 1) (by decide +kernel) rfl (by decide +kernel) rfl ?_
  refine ab_fin.q_yI (i := .invokevirtual 1003) (k := 3) (y := 5993) (As := [.ref 0, .int 1]) (rest := []) (M' := (mX23_no_, [])) (lv2 := [(0, .ref 0), (1, .int 1)]) (pc' := 88) (X := K) (by decide +kernel) (ab_cv rfl rfl (conc_get (σ := (σ.wi 0 110 (0 : Int32))) (F.s s0_0)) ⟨(Nat.le_of_ble_eq_true rfl), (Nat.le_of_ble_eq_true rfl)⟩ rfl) rfl (Nat.le_of_ble_eq_true rfl) rfl rfl (hY_no fun E => rfl) w (fun v3 τ1 F2 w => ?_)
  exact ab_fin.q_ret (i := .ireturn) (k := 1) (v := some (.int v3)) (by decide +kernel) rfl F2 w
theorem S_X23_isKind_0 {Z : zT} {d : Nat} {σ : Sg} {l1 : Int32} {K : kS} (F : FX ΦR σ.sh σ.r) (w : (l1 < 0 → K (.inl (some (.int 0))) σ) ∧ (¬ l1 < 0 → ((σ.i 0 4) ≤ l1 → K (.inl (some (.int 0))) σ) ∧ (¬ (σ.i 0 4) ≤ l1 → K (.inl (some (.int 1))) σ))) : B_X23_isKind_0 Z (d + 1) σ l1 K := by
  unfold B_X23_isKind_0
  refine ab_fin.s2 (i := .iload_n 1) (k := 1) (pc' := 1) (lv' := [(0, .ref 0), (1, .int l1)]) (st' := [.int l1]) (by decide +kernel) rfl rfl ?_
  refine ab_fin.br (c := l1 < 0) (i := .ifCond .lt 15) (off := 15) (t := 16) (pc' := 4) (r := []) (by decide +kernel) rfl (by decide +kernel) rfl (fun q => ?_) (fun q => ?_)
  · replace w := w.1 q
    refine ab_fin.s1i (i := .iconst 0) (k := 1) (pc' := 17) (n := 0) (by decide +kernel) rfl (by decide +kernel) rfl ?_
    exact ab_fin.q_ret (i := .ireturn) (k := 1) (v := some (.int 0)) (by decide +kernel) rfl F w
  · replace w := w.2 q
    refine ab_fin.s2 (i := .iload_n 1) (k := 1) (pc' := 5) (lv' := [(0, .ref 0), (1, .int l1)]) (st' := [.int l1]) (by decide +kernel) rfl rfl ?_
    refine ab_fin.s2 (i := .aload_n 0) (k := 1) (pc' := 6) (lv' := [(0, .ref 0), (1, .int l1)]) (st' := [.ref 0, .int l1]) (by decide +kernel) rfl rfl ?_
    refine ab_fin.q_rI (x := (σ.i 0 4)) (ix := 13) (ci := 24) (k := 4) (pc' := 9) (by decide +kernel) rfl (c_rI (F.s s0_0) rfl) rfl ?_
    refine ab_fin.br (c := (σ.i 0 4) ≤ l1) (i := .if_icmp .ge 7) (off := 7) (t := 16) (pc' := 12) (r := []) (by decide +kernel) rfl (by decide +kernel) rfl (fun q => ?_) (fun q => ?_)
    · replace w := w.1 q
      refine ab_fin.s1i (i := .iconst 0) (k := 1) (pc' := 17) (n := 0) (by decide +kernel) rfl (by decide +kernel) rfl ?_
      exact ab_fin.q_ret (i := .ireturn) (k := 1) (v := some (.int 0)) (by decide +kernel) rfl F w
    · replace w := w.2 q
      refine ab_fin.s1i (i := .iconst 1) (k := 1) (pc' := 13) (n := 1) (by decide +kernel) rfl (by decide +kernel) rfl ?_
      refine ab_fin.s3 (i := .goto 4) (k := 3) (t := 17) (st' := [.int 1]) (by decide +kernel) (ab_gto (by decide +kernel)) ?_
      exact ab_fin.q_ret (i := .ireturn) (k := 1) (v := some (.int 1)) (by decide +kernel) rfl F w
theorem S_X23_below_0 {Z : zT} {d : Nat} {σ : Sg} {l1 : Int32} {l2 : Int32} {K : kS} (F : FX ΦR σ.sh σ.r) (w : B_X23_isKind_0 Z d (σ.wi 0 110 (0 : Int32)) l1 (yI K fun v3 τ1 => (v3 = 0 → B_X23_no__0 Z d τ1 1 (yI K fun v6 τ4 => (v6 ≤ 0 → K (.inl (some (.int 0))) τ4) ∧ (¬ v6 ≤ 0 → K (.inl (some (.int 1))) τ4))) ∧ (¬ v3 = 0 → B_X23_isKind_0 Z d τ1 l2 (yI K fun v9 τ7 => (¬ v9 = 0 → ib l1 24 ∧ (ib l2 24 ∧ (narrow .boolean (.int (τ7.i (1880 + 1 + l1.toNatClampNeg) l2.toNatClampNeg)) = .int (τ7.i (1880 + 1 + l1.toNatClampNeg) l2.toNatClampNeg) ∧ K (.inl (some (.int (τ7.i (1880 + 1 + l1.toNatClampNeg) l2.toNatClampNeg)))) τ7))) ∧ (v9 = 0 → B_X23_no__0 Z d τ7 1 (yI K fun v14 τ12 => (v14 ≤ 0 → K (.inl (some (.int 0))) τ12) ∧ (¬ v14 ≤ 0 → K (.inl (some (.int 1))) τ12))))))) : B_X23_below_0 Z (d + 1) σ l1 l2 K := by
  unfold B_X23_below_0
  refine ab_fin.s2 (i := .aload_n 0) (k := 1) (pc' := 1) (lv' := [(0, .ref 0), (1, .int l1), (2, .int l2)]) (st' := [.ref 0]) (by decide +kernel) rfl rfl ?_
  refine ab_fin.s1i (i := .iconst 0) (k := 1) (pc' := 2) (n := 0) (by decide +kernel) rfl (by decide +kernel) rfl ?_
  refine ab_fin.q_pF (ix := 1000) (ci := 24) (k := 110) (h1 := conc (σ.wi 0 110 (0 : Int32))) (pc' := 5) (by decide +kernel) rfl (c_pI (v := 0) (F.s s0_0) rfl) rfl rfl rfl ?_
  refine ab_fin.s2 (i := .aload_n 0) (k := 1) (pc' := 6) (lv' := [(0, .ref 0), (1, .int l1), (2, .int l2)]) (st' := [.ref 0]) (by decide +kernel) rfl rfl ?_
  refine ab_fin.s2 (i := .iload_n 1) (k := 1) (pc' := 7) (lv' := [(0, .ref 0), (1, .int l1), (2, .int l2)]) (st' := [.int l1, .ref 0]) (by decide +kernel) rfl rfl ?_
  refine ab_fin.q_yI (i := .invokevirtual 1018) (k := 3) (y := 6001) (As := [.ref 0, .int l1]) (rest := []) (M' := (mX23_isKind, [])) (lv2 := [(0, .ref 0), (1, .int l1)]) (pc' := 10) (X := K) (by decide +kernel) (ab_cv rfl rfl (conc_get (σ := (σ.wi 0 110 (0 : Int32))) (F.s s0_0)) ⟨(Nat.le_of_ble_eq_true rfl), (Nat.le_of_ble_eq_true rfl)⟩ rfl) rfl (Nat.le_of_ble_eq_true rfl) rfl rfl (hY_no fun E => rfl) w (fun v3 τ1 F2 w => ?_)
  refine ab_fin.br (c := v3 = 0) (i := .ifCond .eq 11) (off := 11) (t := 21) (pc' := 13) (r := []) (by decide +kernel) rfl (by decide +kernel) rfl (fun q => ?_) (fun q => ?_)
  · replace w := w.1 q
    refine ab_fin.s2 (i := .aload_n 0) (k := 1) (pc' := 22) (lv' := [(0, .ref 0), (1, .int l1), (2, .int l2)]) (st' := [.ref 0]) (by decide +kernel) rfl rfl ?_
    refine ab_fin.s1i (i := .iconst 1) (k := 1) (pc' := 23) (n := 1) (by decide +kernel) rfl (by decide +kernel) rfl ?_
    refine ab_fin.q_yI (i := .invokevirtual 1003) (k := 3) (y := 5993) (As := [.ref 0, .int 1]) (rest := []) (M' := (mX23_no_, [])) (lv2 := [(0, .ref 0), (1, .int 1)]) (pc' := 26) (X := K) (by decide +kernel) (ab_cv rfl rfl (conc_get (σ := τ1) (F2.s s0_0)) ⟨(Nat.le_of_ble_eq_true rfl), (Nat.le_of_ble_eq_true rfl)⟩ rfl) rfl (Nat.le_of_ble_eq_true rfl) rfl rfl (hY_no fun E => rfl) w (fun v6 τ4 F5 w => ?_)
    refine ab_fin.br (c := v6 ≤ 0) (i := .ifCond .le 7) (off := 7) (t := 33) (pc' := 29) (r := []) (by decide +kernel) rfl (by decide +kernel) rfl (fun q => ?_) (fun q => ?_)
    · replace w := w.1 q
      refine ab_fin.s1i (i := .iconst 0) (k := 1) (pc' := 34) (n := 0) (by decide +kernel) rfl (by decide +kernel) rfl ?_
      exact ab_fin.q_ret (i := .ireturn) (k := 1) (v := some (.int 0)) (by decide +kernel) rfl F5 w
    · replace w := w.2 q
      refine ab_fin.s1i (i := .iconst 1) (k := 1) (pc' := 30) (n := 1) (by decide +kernel) rfl (by decide +kernel) rfl ?_
      refine ab_fin.s3 (i := .goto 4) (k := 3) (t := 34) (st' := [.int 1]) (by decide +kernel) (ab_gto (by decide +kernel)) ?_
      exact ab_fin.q_ret (i := .ireturn) (k := 1) (v := some (.int 1)) (by decide +kernel) rfl F5 w
  · replace w := w.2 q
    refine ab_fin.s2 (i := .aload_n 0) (k := 1) (pc' := 14) (lv' := [(0, .ref 0), (1, .int l1), (2, .int l2)]) (st' := [.ref 0]) (by decide +kernel) rfl rfl ?_
    refine ab_fin.s2 (i := .iload_n 2) (k := 1) (pc' := 15) (lv' := [(0, .ref 0), (1, .int l1), (2, .int l2)]) (st' := [.int l2, .ref 0]) (by decide +kernel) rfl rfl ?_
    refine ab_fin.q_yI (i := .invokevirtual 1018) (k := 3) (y := 6001) (As := [.ref 0, .int l2]) (rest := []) (M' := (mX23_isKind, [])) (lv2 := [(0, .ref 0), (1, .int l2)]) (pc' := 18) (X := K) (by decide +kernel) (ab_cv rfl rfl (conc_get (σ := τ1) (F2.s s0_0)) ⟨(Nat.le_of_ble_eq_true rfl), (Nat.le_of_ble_eq_true rfl)⟩ rfl) rfl (Nat.le_of_ble_eq_true rfl) rfl rfl (hY_no fun E => rfl) w (fun v9 τ7 F8 w => ?_)
    refine ab_fin.br (c := ¬ v9 = 0) (i := .ifCond .ne 17) (off := 17) (t := 35) (pc' := 21) (r := []) (by decide +kernel) rfl (by decide +kernel) rfl (fun q => ?_) (fun q => ?_)
    · replace w := w.1 q
      refine ab_fin.s2 (i := .aload_n 0) (k := 1) (pc' := 36) (lv' := [(0, .ref 0), (1, .int l1), (2, .int l2)]) (st' := [.ref 0]) (by decide +kernel) rfl rfl ?_
      refine ab_fin.q_rA (b := 1880) (ix := 490) (ci := 24) (k := 36) (pc' := 39) (by decide +kernel) rfl (c_rA (F8.s s0_0) rfl (rM_36 F8)) rfl ?_
      refine ab_fin.s2 (i := .iload_n 1) (k := 1) (pc' := 40) (lv' := [(0, .ref 0), (1, .int l1), (2, .int l2)]) (st' := [.int l1, .ref 1880]) (by decide +kernel) rfl rfl ?_
      obtain ⟨e10, w⟩ := w
      refine ab_fin.q_eA (b := (1880 + 1 + l1.toNatClampNeg)) (pc' := 41) (by decide +kernel) (c_eA' (F8.s s0_1880) (by decide) rfl e10 rfl (rE_12 F8 s0_1880)) rfl ?_
      refine ab_fin.s2 (i := .iload_n 2) (k := 1) (pc' := 42) (lv' := [(0, .ref 0), (1, .int l1), (2, .int l2)]) (st' := [.int l2, .ref (1880 + 1 + l1.toNatClampNeg)]) (by decide +kernel) rfl rfl ?_
      obtain ⟨e11, w⟩ := w
      refine ab_fin.q_eB (x := (τ7.i (1880 + 1 + l1.toNatClampNeg) l2.toNatClampNeg)) (pc' := 43) (by decide +kernel) (c_eB3' (F8.s (kE_1880 e10.2)) e11 rfl) rfl ?_
      exact ab_fin.q_rtN (ty := .boolean) (by decide +kernel) rfl w.1 F8 w.2
    · replace w := w.2 (Decidable.of_not_not q)
      refine ab_fin.s2 (i := .aload_n 0) (k := 1) (pc' := 22) (lv' := [(0, .ref 0), (1, .int l1), (2, .int l2)]) (st' := [.ref 0]) (by decide +kernel) rfl rfl ?_
      refine ab_fin.s1i (i := .iconst 1) (k := 1) (pc' := 23) (n := 1) (by decide +kernel) rfl (by decide +kernel) rfl ?_
      refine ab_fin.q_yI (i := .invokevirtual 1003) (k := 3) (y := 5993) (As := [.ref 0, .int 1]) (rest := []) (M' := (mX23_no_, [])) (lv2 := [(0, .ref 0), (1, .int 1)]) (pc' := 26) (X := K) (by decide +kernel) (ab_cv rfl rfl (conc_get (σ := τ7) (F8.s s0_0)) ⟨(Nat.le_of_ble_eq_true rfl), (Nat.le_of_ble_eq_true rfl)⟩ rfl) rfl (Nat.le_of_ble_eq_true rfl) rfl rfl (hY_no fun E => rfl) w (fun v14 τ12 F13 w => ?_)
      refine ab_fin.br (c := v14 ≤ 0) (i := .ifCond .le 7) (off := 7) (t := 33) (pc' := 29) (r := []) (by decide +kernel) rfl (by decide +kernel) rfl (fun q => ?_) (fun q => ?_)
      · replace w := w.1 q
        refine ab_fin.s1i (i := .iconst 0) (k := 1) (pc' := 34) (n := 0) (by decide +kernel) rfl (by decide +kernel) rfl ?_
        exact ab_fin.q_ret (i := .ireturn) (k := 1) (v := some (.int 0)) (by decide +kernel) rfl F13 w
      · replace w := w.2 q
        refine ab_fin.s1i (i := .iconst 1) (k := 1) (pc' := 30) (n := 1) (by decide +kernel) rfl (by decide +kernel) rfl ?_
        refine ab_fin.s3 (i := .goto 4) (k := 3) (t := 34) (st' := [.int 1]) (by decide +kernel) (ab_gto (by decide +kernel)) ?_
        exact ab_fin.q_ret (i := .ireturn) (k := 1) (v := some (.int 1)) (by decide +kernel) rfl F13 w
theorem S_X23_row_0 {Z : zT} {d : Nat} {σ : Sg} {l1 : Int32} {l2 : Int32} {l3 : Int32} {K : kS} (F : FX ΦR σ.sh σ.r) (w : B_X23_isKind_0 Z d (σ.wi 0 110 (0 : Int32)) l1 (yI K fun v3 τ1 => (v3 = 0 → B_X23_no__0 Z d τ1 1 (yI K fun v6 τ4 => K (.inl (some (.int v6))) τ4)) ∧ (¬ v3 = 0 → (0 ≤ l3 → (l2 < 0 → B_X23_no__0 Z d τ1 2 (yI K fun v9 τ7 => K (.inl (some (.int v9))) τ7)) ∧ (¬ l2 < 0 → (l2 ≤ 2 → ib l1 24 ∧ (ib l2 3 ∧ (((τ1.i ((2193 + 9 * l1.toNatClampNeg) + 8) l2.toNatClampNeg) ≤ l3 → K (.inl (some (.int (-1)))) τ1) ∧ (¬ (τ1.i ((2193 + 9 * l1.toNatClampNeg) + 8) l2.toNatClampNeg) ≤ l3 → ib l1 24 ∧ (ib l2 3 ∧ (ib l3 24 ∧ (K (.inl (some (.int (τ1.i ((2193 + 9 * l1.toNatClampNeg) + 4 + 1 + l2.toNatClampNeg) l3.toNatClampNeg)))) τ1))))))) ∧ (¬ l2 ≤ 2 → B_X23_no__0 Z d τ1 2 (yI K fun v17 τ15 => K (.inl (some (.int v17))) τ15)))) ∧ (¬ 0 ≤ l3 → B_X23_no__0 Z d τ1 1 (yI K fun v20 τ18 => K (.inl (some (.int v20))) τ18))))) : B_X23_row_0 Z (d + 1) σ l1 l2 l3 K := by
  unfold B_X23_row_0
  refine ab_fin.s2 (i := .aload_n 0) (k := 1) (pc' := 1) (lv' := [(0, .ref 0), (1, .int l1), (2, .int l2), (3, .int l3)]) (st' := [.ref 0]) (by decide +kernel) rfl rfl ?_
  refine ab_fin.s1i (i := .iconst 0) (k := 1) (pc' := 2) (n := 0) (by decide +kernel) rfl (by decide +kernel) rfl ?_
  refine ab_fin.q_pF (ix := 1000) (ci := 24) (k := 110) (h1 := conc (σ.wi 0 110 (0 : Int32))) (pc' := 5) (by decide +kernel) rfl (c_pI (v := 0) (F.s s0_0) rfl) rfl rfl rfl ?_
  refine ab_fin.s2 (i := .aload_n 0) (k := 1) (pc' := 6) (lv' := [(0, .ref 0), (1, .int l1), (2, .int l2), (3, .int l3)]) (st' := [.ref 0]) (by decide +kernel) rfl rfl ?_
  refine ab_fin.s2 (i := .iload_n 1) (k := 1) (pc' := 7) (lv' := [(0, .ref 0), (1, .int l1), (2, .int l2), (3, .int l3)]) (st' := [.int l1, .ref 0]) (by decide +kernel) rfl rfl ?_
  refine ab_fin.q_yI (i := .invokevirtual 1018) (k := 3) (y := 6001) (As := [.ref 0, .int l1]) (rest := []) (M' := (mX23_isKind, [])) (lv2 := [(0, .ref 0), (1, .int l1)]) (pc' := 10) (X := K) (by decide +kernel) (ab_cv rfl rfl (conc_get (σ := (σ.wi 0 110 (0 : Int32))) (F.s s0_0)) ⟨(Nat.le_of_ble_eq_true rfl), (Nat.le_of_ble_eq_true rfl)⟩ rfl) rfl (Nat.le_of_ble_eq_true rfl) rfl rfl (hY_no fun E => rfl) w (fun v3 τ1 F2 w => ?_)
  refine ab_fin.br (c := v3 = 0) (i := .ifCond .eq 7) (off := 7) (t := 17) (pc' := 13) (r := []) (by decide +kernel) rfl (by decide +kernel) rfl (fun q => ?_) (fun q => ?_)
  · replace w := w.1 q
    refine ab_fin.s2 (i := .aload_n 0) (k := 1) (pc' := 18) (lv' := [(0, .ref 0), (1, .int l1), (2, .int l2), (3, .int l3)]) (st' := [.ref 0]) (by decide +kernel) rfl rfl ?_
    refine ab_fin.s1i (i := .iconst 1) (k := 1) (pc' := 19) (n := 1) (by decide +kernel) rfl (by decide +kernel) rfl ?_
    refine ab_fin.q_yI (i := .invokevirtual 1003) (k := 3) (y := 5993) (As := [.ref 0, .int 1]) (rest := []) (M' := (mX23_no_, [])) (lv2 := [(0, .ref 0), (1, .int 1)]) (pc' := 22) (X := K) (by decide +kernel) (ab_cv rfl rfl (conc_get (σ := τ1) (F2.s s0_0)) ⟨(Nat.le_of_ble_eq_true rfl), (Nat.le_of_ble_eq_true rfl)⟩ rfl) rfl (Nat.le_of_ble_eq_true rfl) rfl rfl (hY_no fun E => rfl) w (fun v6 τ4 F5 w => ?_)
    exact ab_fin.q_ret (i := .ireturn) (k := 1) (v := some (.int v6)) (by decide +kernel) rfl F5 w
  · replace w := w.2 q
    refine ab_fin.s2 (i := .iload_n 3) (k := 1) (pc' := 14) (lv' := [(0, .ref 0), (1, .int l1), (2, .int l2), (3, .int l3)]) (st' := [.int l3]) (by decide +kernel) rfl rfl ?_
    refine ab_fin.br (c := 0 ≤ l3) (i := .ifCond .ge 9) (off := 9) (t := 23) (pc' := 17) (r := []) (by decide +kernel) rfl (by decide +kernel) rfl (fun q => ?_) (fun q => ?_)
    · replace w := w.1 q
      refine ab_fin.s2 (i := .iload_n 2) (k := 1) (pc' := 24) (lv' := [(0, .ref 0), (1, .int l1), (2, .int l2), (3, .int l3)]) (st' := [.int l2]) (by decide +kernel) rfl rfl ?_
      refine ab_fin.br (c := l2 < 0) (i := .ifCond .lt 8) (off := 8) (t := 32) (pc' := 27) (r := []) (by decide +kernel) rfl (by decide +kernel) rfl (fun q => ?_) (fun q => ?_)
      · replace w := w.1 q
        refine ab_fin.s2 (i := .aload_n 0) (k := 1) (pc' := 33) (lv' := [(0, .ref 0), (1, .int l1), (2, .int l2), (3, .int l3)]) (st' := [.ref 0]) (by decide +kernel) rfl rfl ?_
        refine ab_fin.s1i (i := .iconst 2) (k := 1) (pc' := 34) (n := 2) (by decide +kernel) rfl (by decide +kernel) rfl ?_
        refine ab_fin.q_yI (i := .invokevirtual 1003) (k := 3) (y := 5993) (As := [.ref 0, .int 2]) (rest := []) (M' := (mX23_no_, [])) (lv2 := [(0, .ref 0), (1, .int 2)]) (pc' := 37) (X := K) (by decide +kernel) (ab_cv rfl rfl (conc_get (σ := τ1) (F2.s s0_0)) ⟨(Nat.le_of_ble_eq_true rfl), (Nat.le_of_ble_eq_true rfl)⟩ rfl) rfl (Nat.le_of_ble_eq_true rfl) rfl rfl (hY_no fun E => rfl) w (fun v9 τ7 F8 w => ?_)
        exact ab_fin.q_ret (i := .ireturn) (k := 1) (v := some (.int v9)) (by decide +kernel) rfl F8 w
      · replace w := w.2 q
        refine ab_fin.s2 (i := .iload_n 2) (k := 1) (pc' := 28) (lv' := [(0, .ref 0), (1, .int l1), (2, .int l2), (3, .int l3)]) (st' := [.int l2]) (by decide +kernel) rfl rfl ?_
        refine ab_fin.s1i (i := .iconst 2) (k := 1) (pc' := 29) (n := 2) (by decide +kernel) rfl (by decide +kernel) rfl ?_
        refine ab_fin.br (c := l2 ≤ 2) (i := .if_icmp .le 9) (off := 9) (t := 38) (pc' := 32) (r := []) (by decide +kernel) rfl (by decide +kernel) rfl (fun q => ?_) (fun q => ?_)
        · replace w := w.1 q
          refine ab_fin.s2 (i := .iload_n 3) (k := 1) (pc' := 39) (lv' := [(0, .ref 0), (1, .int l1), (2, .int l2), (3, .int l3)]) (st' := [.int l3]) (by decide +kernel) rfl rfl ?_
          refine ab_fin.s2 (i := .aload_n 0) (k := 1) (pc' := 40) (lv' := [(0, .ref 0), (1, .int l1), (2, .int l2), (3, .int l3)]) (st' := [.ref 0, .int l3]) (by decide +kernel) rfl rfl ?_
          refine ab_fin.q_rA (b := 1) (ix := 17) (ci := 24) (k := 0) (pc' := 43) (by decide +kernel) rfl (c_rA (F2.s s0_0) rfl (rM_0 F2)) rfl ?_
          refine ab_fin.s2 (i := .iload_n 1) (k := 1) (pc' := 44) (lv' := [(0, .ref 0), (1, .int l1), (2, .int l2), (3, .int l3)]) (st' := [.int l1, .ref 1, .int l3]) (by decide +kernel) rfl rfl ?_
          obtain ⟨e10, w⟩ := w
          refine ab_fin.q_eA (b := (2193 + 9 * l1.toNatClampNeg)) (pc' := 45) (by decide +kernel) (c_eA' (F2.s s0_1) (by decide) rfl e10 rfl (rE_4 F2 s0_1)) rfl ?_
          refine ab_fin.q_rA (b := ((2193 + 9 * l1.toNatClampNeg) + 8)) (ix := 79) (ci := 18) (k := 5) (pc' := 48) (by decide +kernel) rfl (c_rA (F2.s (kE_1 e10.2)) rfl (rO_18_5 F2 (kE_1 e10.2))) rfl ?_
          refine ab_fin.s2 (i := .iload_n 2) (k := 1) (pc' := 49) (lv' := [(0, .ref 0), (1, .int l1), (2, .int l2), (3, .int l3)]) (st' := [.int l2, .ref ((2193 + 9 * l1.toNatClampNeg) + 8), .int l3]) (by decide +kernel) rfl rfl ?_
          obtain ⟨e11, w⟩ := w
          refine ab_fin.q_eI (x := (τ1.i ((2193 + 9 * l1.toNatClampNeg) + 8) l2.toNatClampNeg)) (pc' := 50) (by decide +kernel) (c_eI' (F2.s (kF_18_8 (kE_1 e10.2))) e11 rfl) rfl ?_
          refine ab_fin.br (c := (τ1.i ((2193 + 9 * l1.toNatClampNeg) + 8) l2.toNatClampNeg) ≤ l3) (i := .if_icmp .ge 19) (off := 19) (t := 69) (pc' := 53) (r := []) (by decide +kernel) rfl (by decide +kernel) rfl (fun q => ?_) (fun q => ?_)
          · replace w := w.1 q
            refine ab_fin.s1i (i := .iconst (-1)) (k := 1) (pc' := 70) (n := (-1)) (by decide +kernel) rfl (by decide +kernel) rfl ?_
            exact ab_fin.q_ret (i := .ireturn) (k := 1) (v := some (.int (-1))) (by decide +kernel) rfl F2 w
          · replace w := w.2 q
            refine ab_fin.s2 (i := .aload_n 0) (k := 1) (pc' := 54) (lv' := [(0, .ref 0), (1, .int l1), (2, .int l2), (3, .int l3)]) (st' := [.ref 0]) (by decide +kernel) rfl rfl ?_
            refine ab_fin.q_rA (b := 1) (ix := 17) (ci := 24) (k := 0) (pc' := 57) (by decide +kernel) rfl (c_rA (F2.s s0_0) rfl (rM_0 F2)) rfl ?_
            refine ab_fin.s2 (i := .iload_n 1) (k := 1) (pc' := 58) (lv' := [(0, .ref 0), (1, .int l1), (2, .int l2), (3, .int l3)]) (st' := [.int l1, .ref 1]) (by decide +kernel) rfl rfl ?_
            obtain ⟨e12, w⟩ := w
            refine ab_fin.q_eA (b := (2193 + 9 * l1.toNatClampNeg)) (pc' := 59) (by decide +kernel) (c_eA' (F2.s s0_1) (by decide) rfl e12 rfl (rE_4 F2 s0_1)) rfl ?_
            refine ab_fin.q_rA (b := ((2193 + 9 * l1.toNatClampNeg) + 4)) (ix := 86) (ci := 18) (k := 4) (pc' := 62) (by decide +kernel) rfl (c_rA (F2.s (kE_1 e12.2)) rfl (rO_18_4 F2 (kE_1 e12.2))) rfl ?_
            refine ab_fin.s2 (i := .iload_n 2) (k := 1) (pc' := 63) (lv' := [(0, .ref 0), (1, .int l1), (2, .int l2), (3, .int l3)]) (st' := [.int l2, .ref ((2193 + 9 * l1.toNatClampNeg) + 4)]) (by decide +kernel) rfl rfl ?_
            obtain ⟨e13, w⟩ := w
            refine ab_fin.q_eA (b := ((2193 + 9 * l1.toNatClampNeg) + 4 + 1 + l2.toNatClampNeg)) (pc' := 64) (by decide +kernel) (c_eA' (F2.s (kF_18_4 (kE_1 e12.2))) (by decide) rfl e13 rfl (rE_8 F2 (kF_18_4 (kE_1 e12.2)))) rfl ?_
            refine ab_fin.s2 (i := .iload_n 3) (k := 1) (pc' := 65) (lv' := [(0, .ref 0), (1, .int l1), (2, .int l2), (3, .int l3)]) (st' := [.int l3, .ref ((2193 + 9 * l1.toNatClampNeg) + 4 + 1 + l2.toNatClampNeg)]) (by decide +kernel) rfl rfl ?_
            obtain ⟨e14, w⟩ := w
            refine ab_fin.q_eI (x := (τ1.i ((2193 + 9 * l1.toNatClampNeg) + 4 + 1 + l2.toNatClampNeg) l3.toNatClampNeg)) (pc' := 66) (by decide +kernel) (c_eI' (F2.s (kE_18_4 (kE_1 e12.2) e13.2)) e14 rfl) rfl ?_
            refine ab_fin.s3 (i := .goto 4) (k := 3) (t := 70) (st' := [.int (τ1.i ((2193 + 9 * l1.toNatClampNeg) + 4 + 1 + l2.toNatClampNeg) l3.toNatClampNeg)]) (by decide +kernel) (ab_gto (by decide +kernel)) ?_
            exact ab_fin.q_ret (i := .ireturn) (k := 1) (v := some (.int (τ1.i ((2193 + 9 * l1.toNatClampNeg) + 4 + 1 + l2.toNatClampNeg) l3.toNatClampNeg))) (by decide +kernel) rfl F2 w
        · replace w := w.2 q
          refine ab_fin.s2 (i := .aload_n 0) (k := 1) (pc' := 33) (lv' := [(0, .ref 0), (1, .int l1), (2, .int l2), (3, .int l3)]) (st' := [.ref 0]) (by decide +kernel) rfl rfl ?_
          refine ab_fin.s1i (i := .iconst 2) (k := 1) (pc' := 34) (n := 2) (by decide +kernel) rfl (by decide +kernel) rfl ?_
          refine ab_fin.q_yI (i := .invokevirtual 1003) (k := 3) (y := 5993) (As := [.ref 0, .int 2]) (rest := []) (M' := (mX23_no_, [])) (lv2 := [(0, .ref 0), (1, .int 2)]) (pc' := 37) (X := K) (by decide +kernel) (ab_cv rfl rfl (conc_get (σ := τ1) (F2.s s0_0)) ⟨(Nat.le_of_ble_eq_true rfl), (Nat.le_of_ble_eq_true rfl)⟩ rfl) rfl (Nat.le_of_ble_eq_true rfl) rfl rfl (hY_no fun E => rfl) w (fun v17 τ15 F16 w => ?_)
          exact ab_fin.q_ret (i := .ireturn) (k := 1) (v := some (.int v17)) (by decide +kernel) rfl F16 w
    · replace w := w.2 q
      refine ab_fin.s2 (i := .aload_n 0) (k := 1) (pc' := 18) (lv' := [(0, .ref 0), (1, .int l1), (2, .int l2), (3, .int l3)]) (st' := [.ref 0]) (by decide +kernel) rfl rfl ?_
      refine ab_fin.s1i (i := .iconst 1) (k := 1) (pc' := 19) (n := 1) (by decide +kernel) rfl (by decide +kernel) rfl ?_
      refine ab_fin.q_yI (i := .invokevirtual 1003) (k := 3) (y := 5993) (As := [.ref 0, .int 1]) (rest := []) (M' := (mX23_no_, [])) (lv2 := [(0, .ref 0), (1, .int 1)]) (pc' := 22) (X := K) (by decide +kernel) (ab_cv rfl rfl (conc_get (σ := τ1) (F2.s s0_0)) ⟨(Nat.le_of_ble_eq_true rfl), (Nat.le_of_ble_eq_true rfl)⟩ rfl) rfl (Nat.le_of_ble_eq_true rfl) rfl rfl (hY_no fun E => rfl) w (fun v20 τ18 F19 w => ?_)
      exact ab_fin.q_ret (i := .ireturn) (k := 1) (v := some (.int v20)) (by decide +kernel) rfl F19 w
theorem S_X23_nearer__0 {Z : zT} {d : Nat} {σ : Sg} {l1 : Int32} {l2 : Int32} {l3 : Int32} {l4 : Int32} {l5 : Int32} {K : kS} (F : FX ΦR σ.sh σ.r) (w : (l1 < 1 → B_X23_no__0 Z d (σ.wi 0 110 (0 : Int32)) 1 (yI K fun v3 τ1 => K (.inl (some (.int v3))) τ1)) ∧ (¬ l1 < 1 → ((σ.i 0 6) < l1 → B_X23_no__0 Z d (σ.wi 0 110 (0 : Int32)) 1 (yI K fun v6 τ4 => K (.inl (some (.int v6))) τ4)) ∧ (¬ (σ.i 0 6) < l1 → ib l1 121 ∧ ((¬ ((σ.wi 0 110 (0 : Int32)).i (2497 + 4 * l1.toNatClampNeg) 10) = 0 → B_X23_no__0 Z d (σ.wi 0 110 (0 : Int32)) 1 (yI K fun v10 τ8 => K (.inl (some (.int v10))) τ8)) ∧ (((σ.wi 0 110 (0 : Int32)).i (2497 + 4 * l1.toNatClampNeg) 10) = 0 → (l2 < 1 → B_X23_no__0 Z d (σ.wi 0 110 (0 : Int32)) 1 (yI K fun v13 τ11 => K (.inl (some (.int v13))) τ11)) ∧ (¬ l2 < 1 → ((σ.i 0 6) < l2 → B_X23_no__0 Z d (σ.wi 0 110 (0 : Int32)) 1 (yI K fun v16 τ14 => K (.inl (some (.int v16))) τ14)) ∧ (¬ (σ.i 0 6) < l2 → ib l2 121 ∧ ((((σ.wi 0 110 (0 : Int32)).i (2497 + 4 * l2.toNatClampNeg) 10) = 0 → ib l1 121 ∧ (ib ((σ.wi 0 110 (0 : Int32)).i (2497 + 4 * l1.toNatClampNeg) 0) 24 ∧ (B_X23_nearer__106 Z (d + 1) ((((σ.wi 0 110 (0 : Int32)).wi 2192 0 l3).wi 2192 1 l4).wi 2192 2 l5) l1 l2 ((σ.wi 0 110 (0 : Int32)).i (2409 + 3 * (((σ.wi 0 110 (0 : Int32)).i (2497 + 4 * l1.toNatClampNeg) 0).toNatClampNeg)) 1) 0 K))) ∧ (¬ ((σ.wi 0 110 (0 : Int32)).i (2497 + 4 * l2.toNatClampNeg) 10) = 0 → B_X23_no__0 Z d (σ.wi 0 110 (0 : Int32)) 1 (yI K fun v22 τ20 => K (.inl (some (.int v22))) τ20)))))))))) : B_X23_nearer__0 Z (d + 1) σ l1 l2 l3 l4 l5 K := by
  unfold B_X23_nearer__0
  refine ab_fin.s2 (i := .aload_n 0) (k := 1) (pc' := 1) (lv' := [(0, .ref 0), (1, .int l1), (2, .int l2), (3, .int l3), (4, .int l4), (5, .int l5)]) (st' := [.ref 0]) (by decide +kernel) rfl rfl ?_
  refine ab_fin.s1i (i := .iconst 0) (k := 1) (pc' := 2) (n := 0) (by decide +kernel) rfl (by decide +kernel) rfl ?_
  refine ab_fin.q_pF (ix := 1000) (ci := 24) (k := 110) (h1 := conc (σ.wi 0 110 (0 : Int32))) (pc' := 5) (by decide +kernel) rfl (c_pI (v := 0) (F.s s0_0) rfl) rfl rfl rfl ?_
  refine ab_fin.s2 (i := .iload_n 1) (k := 1) (pc' := 6) (lv' := [(0, .ref 0), (1, .int l1), (2, .int l2), (3, .int l3), (4, .int l4), (5, .int l5)]) (st' := [.int l1]) (by decide +kernel) rfl rfl ?_
  refine ab_fin.s1i (i := .iconst 1) (k := 1) (pc' := 7) (n := 1) (by decide +kernel) rfl (by decide +kernel) rfl ?_
  refine ab_fin.br (c := l1 < 1) (i := .if_icmp .lt 48) (off := 48) (t := 55) (pc' := 10) (r := []) (by decide +kernel) rfl (by decide +kernel) rfl (fun q => ?_) (fun q => ?_)
  · replace w := w.1 q
    refine ab_fin.s2 (i := .aload_n 0) (k := 1) (pc' := 56) (lv' := [(0, .ref 0), (1, .int l1), (2, .int l2), (3, .int l3), (4, .int l4), (5, .int l5)]) (st' := [.ref 0]) (by decide +kernel) rfl rfl ?_
    refine ab_fin.s1i (i := .iconst 1) (k := 1) (pc' := 57) (n := 1) (by decide +kernel) rfl (by decide +kernel) rfl ?_
    refine ab_fin.q_yI (i := .invokevirtual 1003) (k := 3) (y := 5993) (As := [.ref 0, .int 1]) (rest := []) (M' := (mX23_no_, [])) (lv2 := [(0, .ref 0), (1, .int 1)]) (pc' := 60) (X := K) (by decide +kernel) (ab_cv rfl rfl (conc_get (σ := (σ.wi 0 110 (0 : Int32))) (F.s s0_0)) ⟨(Nat.le_of_ble_eq_true rfl), (Nat.le_of_ble_eq_true rfl)⟩ rfl) rfl (Nat.le_of_ble_eq_true rfl) rfl rfl (hY_no fun E => rfl) w (fun v3 τ1 F2 w => ?_)
    exact ab_fin.q_ret (i := .ireturn) (k := 1) (v := some (.int v3)) (by decide +kernel) rfl F2 w
  · replace w := w.2 q
    refine ab_fin.s2 (i := .iload_n 1) (k := 1) (pc' := 11) (lv' := [(0, .ref 0), (1, .int l1), (2, .int l2), (3, .int l3), (4, .int l4), (5, .int l5)]) (st' := [.int l1]) (by decide +kernel) rfl rfl ?_
    refine ab_fin.s2 (i := .aload_n 0) (k := 1) (pc' := 12) (lv' := [(0, .ref 0), (1, .int l1), (2, .int l2), (3, .int l3), (4, .int l4), (5, .int l5)]) (st' := [.ref 0, .int l1]) (by decide +kernel) rfl rfl ?_
    refine ab_fin.q_rI (x := (σ.i 0 6)) (ix := 312) (ci := 24) (k := 6) (pc' := 15) (by decide +kernel) rfl (c_rI (F.s s0_0) rfl) rfl ?_
    refine ab_fin.br (c := (σ.i 0 6) < l1) (i := .if_icmp .gt 40) (off := 40) (t := 55) (pc' := 18) (r := []) (by decide +kernel) rfl (by decide +kernel) rfl (fun q => ?_) (fun q => ?_)
    · replace w := w.1 q
      refine ab_fin.s2 (i := .aload_n 0) (k := 1) (pc' := 56) (lv' := [(0, .ref 0), (1, .int l1), (2, .int l2), (3, .int l3), (4, .int l4), (5, .int l5)]) (st' := [.ref 0]) (by decide +kernel) rfl rfl ?_
      refine ab_fin.s1i (i := .iconst 1) (k := 1) (pc' := 57) (n := 1) (by decide +kernel) rfl (by decide +kernel) rfl ?_
      refine ab_fin.q_yI (i := .invokevirtual 1003) (k := 3) (y := 5993) (As := [.ref 0, .int 1]) (rest := []) (M' := (mX23_no_, [])) (lv2 := [(0, .ref 0), (1, .int 1)]) (pc' := 60) (X := K) (by decide +kernel) (ab_cv rfl rfl (conc_get (σ := (σ.wi 0 110 (0 : Int32))) (F.s s0_0)) ⟨(Nat.le_of_ble_eq_true rfl), (Nat.le_of_ble_eq_true rfl)⟩ rfl) rfl (Nat.le_of_ble_eq_true rfl) rfl rfl (hY_no fun E => rfl) w (fun v6 τ4 F5 w => ?_)
      exact ab_fin.q_ret (i := .ireturn) (k := 1) (v := some (.int v6)) (by decide +kernel) rfl F5 w
    · replace w := w.2 q
      refine ab_fin.s2 (i := .aload_n 0) (k := 1) (pc' := 19) (lv' := [(0, .ref 0), (1, .int l1), (2, .int l2), (3, .int l3), (4, .int l4), (5, .int l5)]) (st' := [.ref 0]) (by decide +kernel) rfl rfl ?_
      refine ab_fin.q_rA (b := 3) (ix := 315) (ci := 24) (k := 2) (pc' := 22) (by decide +kernel) rfl (c_rA (F.s s0_0) rfl (rM_2 F)) rfl ?_
      refine ab_fin.s2 (i := .iload_n 1) (k := 1) (pc' := 23) (lv' := [(0, .ref 0), (1, .int l1), (2, .int l2), (3, .int l3), (4, .int l4), (5, .int l5)]) (st' := [.int l1, .ref 3]) (by decide +kernel) rfl rfl ?_
      obtain ⟨e7, w⟩ := w
      refine ab_fin.q_eA (b := (2497 + 4 * l1.toNatClampNeg)) (pc' := 24) (by decide +kernel) (c_eA' (F.s s0_3) (by decide) rfl e7 rfl (rE_6 F s0_3 (by decide))) rfl ?_
      refine ab_fin.q_rI (x := ((σ.wi 0 110 (0 : Int32)).i (2497 + 4 * l1.toNatClampNeg) 10)) (ix := 330) (ci := 19) (k := 10) (pc' := 27) (by decide +kernel) rfl (c_rI (F.s (kE_3 e7.2)) rfl) rfl ?_
      refine ab_fin.br (c := ¬ ((σ.wi 0 110 (0 : Int32)).i (2497 + 4 * l1.toNatClampNeg) 10) = 0) (i := .ifCond .ne 28) (off := 28) (t := 55) (pc' := 30) (r := []) (by decide +kernel) rfl (by decide +kernel) rfl (fun q => ?_) (fun q => ?_)
      · replace w := w.1 q
        refine ab_fin.s2 (i := .aload_n 0) (k := 1) (pc' := 56) (lv' := [(0, .ref 0), (1, .int l1), (2, .int l2), (3, .int l3), (4, .int l4), (5, .int l5)]) (st' := [.ref 0]) (by decide +kernel) rfl rfl ?_
        refine ab_fin.s1i (i := .iconst 1) (k := 1) (pc' := 57) (n := 1) (by decide +kernel) rfl (by decide +kernel) rfl ?_
        refine ab_fin.q_yI (i := .invokevirtual 1003) (k := 3) (y := 5993) (As := [.ref 0, .int 1]) (rest := []) (M' := (mX23_no_, [])) (lv2 := [(0, .ref 0), (1, .int 1)]) (pc' := 60) (X := K) (by decide +kernel) (ab_cv rfl rfl (conc_get (σ := (σ.wi 0 110 (0 : Int32))) (F.s s0_0)) ⟨(Nat.le_of_ble_eq_true rfl), (Nat.le_of_ble_eq_true rfl)⟩ rfl) rfl (Nat.le_of_ble_eq_true rfl) rfl rfl (hY_no fun E => rfl) w (fun v10 τ8 F9 w => ?_)
        exact ab_fin.q_ret (i := .ireturn) (k := 1) (v := some (.int v10)) (by decide +kernel) rfl F9 w
      · replace w := w.2 (Decidable.of_not_not q)
        refine ab_fin.s2 (i := .iload_n 2) (k := 1) (pc' := 31) (lv' := [(0, .ref 0), (1, .int l1), (2, .int l2), (3, .int l3), (4, .int l4), (5, .int l5)]) (st' := [.int l2]) (by decide +kernel) rfl rfl ?_
        refine ab_fin.s1i (i := .iconst 1) (k := 1) (pc' := 32) (n := 1) (by decide +kernel) rfl (by decide +kernel) rfl ?_
        refine ab_fin.br (c := l2 < 1) (i := .if_icmp .lt 23) (off := 23) (t := 55) (pc' := 35) (r := []) (by decide +kernel) rfl (by decide +kernel) rfl (fun q => ?_) (fun q => ?_)
        · replace w := w.1 q
          refine ab_fin.s2 (i := .aload_n 0) (k := 1) (pc' := 56) (lv' := [(0, .ref 0), (1, .int l1), (2, .int l2), (3, .int l3), (4, .int l4), (5, .int l5)]) (st' := [.ref 0]) (by decide +kernel) rfl rfl ?_
          refine ab_fin.s1i (i := .iconst 1) (k := 1) (pc' := 57) (n := 1) (by decide +kernel) rfl (by decide +kernel) rfl ?_
          refine ab_fin.q_yI (i := .invokevirtual 1003) (k := 3) (y := 5993) (As := [.ref 0, .int 1]) (rest := []) (M' := (mX23_no_, [])) (lv2 := [(0, .ref 0), (1, .int 1)]) (pc' := 60) (X := K) (by decide +kernel) (ab_cv rfl rfl (conc_get (σ := (σ.wi 0 110 (0 : Int32))) (F.s s0_0)) ⟨(Nat.le_of_ble_eq_true rfl), (Nat.le_of_ble_eq_true rfl)⟩ rfl) rfl (Nat.le_of_ble_eq_true rfl) rfl rfl (hY_no fun E => rfl) w (fun v13 τ11 F12 w => ?_)
          exact ab_fin.q_ret (i := .ireturn) (k := 1) (v := some (.int v13)) (by decide +kernel) rfl F12 w
        · replace w := w.2 q
          refine ab_fin.s2 (i := .iload_n 2) (k := 1) (pc' := 36) (lv' := [(0, .ref 0), (1, .int l1), (2, .int l2), (3, .int l3), (4, .int l4), (5, .int l5)]) (st' := [.int l2]) (by decide +kernel) rfl rfl ?_
          refine ab_fin.s2 (i := .aload_n 0) (k := 1) (pc' := 37) (lv' := [(0, .ref 0), (1, .int l1), (2, .int l2), (3, .int l3), (4, .int l4), (5, .int l5)]) (st' := [.ref 0, .int l2]) (by decide +kernel) rfl rfl ?_
          refine ab_fin.q_rI (x := (σ.i 0 6)) (ix := 312) (ci := 24) (k := 6) (pc' := 40) (by decide +kernel) rfl (c_rI (F.s s0_0) rfl) rfl ?_
          refine ab_fin.br (c := (σ.i 0 6) < l2) (i := .if_icmp .gt 15) (off := 15) (t := 55) (pc' := 43) (r := []) (by decide +kernel) rfl (by decide +kernel) rfl (fun q => ?_) (fun q => ?_)
          · replace w := w.1 q
            refine ab_fin.s2 (i := .aload_n 0) (k := 1) (pc' := 56) (lv' := [(0, .ref 0), (1, .int l1), (2, .int l2), (3, .int l3), (4, .int l4), (5, .int l5)]) (st' := [.ref 0]) (by decide +kernel) rfl rfl ?_
            refine ab_fin.s1i (i := .iconst 1) (k := 1) (pc' := 57) (n := 1) (by decide +kernel) rfl (by decide +kernel) rfl ?_
            refine ab_fin.q_yI (i := .invokevirtual 1003) (k := 3) (y := 5993) (As := [.ref 0, .int 1]) (rest := []) (M' := (mX23_no_, [])) (lv2 := [(0, .ref 0), (1, .int 1)]) (pc' := 60) (X := K) (by decide +kernel) (ab_cv rfl rfl (conc_get (σ := (σ.wi 0 110 (0 : Int32))) (F.s s0_0)) ⟨(Nat.le_of_ble_eq_true rfl), (Nat.le_of_ble_eq_true rfl)⟩ rfl) rfl (Nat.le_of_ble_eq_true rfl) rfl rfl (hY_no fun E => rfl) w (fun v16 τ14 F15 w => ?_)
            exact ab_fin.q_ret (i := .ireturn) (k := 1) (v := some (.int v16)) (by decide +kernel) rfl F15 w
          · replace w := w.2 q
            refine ab_fin.s2 (i := .aload_n 0) (k := 1) (pc' := 44) (lv' := [(0, .ref 0), (1, .int l1), (2, .int l2), (3, .int l3), (4, .int l4), (5, .int l5)]) (st' := [.ref 0]) (by decide +kernel) rfl rfl ?_
            refine ab_fin.q_rA (b := 3) (ix := 315) (ci := 24) (k := 2) (pc' := 47) (by decide +kernel) rfl (c_rA (F.s s0_0) rfl (rM_2 F)) rfl ?_
            refine ab_fin.s2 (i := .iload_n 2) (k := 1) (pc' := 48) (lv' := [(0, .ref 0), (1, .int l1), (2, .int l2), (3, .int l3), (4, .int l4), (5, .int l5)]) (st' := [.int l2, .ref 3]) (by decide +kernel) rfl rfl ?_
            obtain ⟨e17, w⟩ := w
            refine ab_fin.q_eA (b := (2497 + 4 * l2.toNatClampNeg)) (pc' := 49) (by decide +kernel) (c_eA' (F.s s0_3) (by decide) rfl e17 rfl (rE_6 F s0_3 (by decide))) rfl ?_
            refine ab_fin.q_rI (x := ((σ.wi 0 110 (0 : Int32)).i (2497 + 4 * l2.toNatClampNeg) 10)) (ix := 330) (ci := 19) (k := 10) (pc' := 52) (by decide +kernel) rfl (c_rI (F.s (kE_3 e17.2)) rfl) rfl ?_
            refine ab_fin.br (c := ((σ.wi 0 110 (0 : Int32)).i (2497 + 4 * l2.toNatClampNeg) 10) = 0) (i := .ifCond .eq 9) (off := 9) (t := 61) (pc' := 55) (r := []) (by decide +kernel) rfl (by decide +kernel) rfl (fun q => ?_) (fun q => ?_)
            · replace w := w.1 q
              refine ab_fin.s2 (i := .aload_n 0) (k := 1) (pc' := 62) (lv' := [(0, .ref 0), (1, .int l1), (2, .int l2), (3, .int l3), (4, .int l4), (5, .int l5)]) (st' := [.ref 0]) (by decide +kernel) rfl rfl ?_
              refine ab_fin.q_rA (b := 2) (ix := 34) (ci := 24) (k := 1) (pc' := 65) (by decide +kernel) rfl (c_rA (F.s s0_0) rfl (rM_1 F)) rfl ?_
              refine ab_fin.s2 (i := .aload_n 0) (k := 1) (pc' := 66) (lv' := [(0, .ref 0), (1, .int l1), (2, .int l2), (3, .int l3), (4, .int l4), (5, .int l5)]) (st' := [.ref 0, .ref 2]) (by decide +kernel) rfl rfl ?_
              refine ab_fin.q_rA (b := 3) (ix := 315) (ci := 24) (k := 2) (pc' := 69) (by decide +kernel) rfl (c_rA (F.s s0_0) rfl (rM_2 F)) rfl ?_
              refine ab_fin.s2 (i := .iload_n 1) (k := 1) (pc' := 70) (lv' := [(0, .ref 0), (1, .int l1), (2, .int l2), (3, .int l3), (4, .int l4), (5, .int l5)]) (st' := [.int l1, .ref 3, .ref 2]) (by decide +kernel) rfl rfl ?_
              obtain ⟨e18, w⟩ := w
              refine ab_fin.q_eA (b := (2497 + 4 * l1.toNatClampNeg)) (pc' := 71) (by decide +kernel) (c_eA' (F.s s0_3) (by decide) rfl e18 rfl (rE_6 F s0_3 (by decide))) rfl ?_
              refine ab_fin.q_rI (x := ((σ.wi 0 110 (0 : Int32)).i (2497 + 4 * l1.toNatClampNeg) 0)) (ix := 323) (ci := 19) (k := 0) (pc' := 74) (by decide +kernel) rfl (c_rI (F.s (kE_3 e18.2)) rfl) rfl ?_
              obtain ⟨e19, w⟩ := w
              refine ab_fin.q_eA (b := (2409 + 3 * (((σ.wi 0 110 (0 : Int32)).i (2497 + 4 * l1.toNatClampNeg) 0).toNatClampNeg))) (pc' := 75) (by decide +kernel) (c_eA' (F.s s0_2) (by decide) rfl e19 rfl (rE_5 F s0_2)) rfl ?_
              refine ab_fin.q_rI (x := ((σ.wi 0 110 (0 : Int32)).i (2409 + 3 * (((σ.wi 0 110 (0 : Int32)).i (2497 + 4 * l1.toNatClampNeg) 0).toNatClampNeg)) 1)) (ix := 303) (ci := 14) (k := 1) (pc' := 78) (by decide +kernel) rfl (c_rI (F.s (kE_2 e19.2)) rfl) rfl ?_
              refine ab_fin.s2 (i := .istore 6) (k := 2) (pc' := 80) (lv' := [(6, .int ((σ.wi 0 110 (0 : Int32)).i (2409 + 3 * (((σ.wi 0 110 (0 : Int32)).i (2497 + 4 * l1.toNatClampNeg) 0).toNatClampNeg)) 1)), (0, .ref 0), (1, .int l1), (2, .int l2), (3, .int l3), (4, .int l4), (5, .int l5)]) (st' := []) (by decide +kernel) rfl rfl ?_
              refine ab_fin.s2 (i := .aload_n 0) (k := 1) (pc' := 81) (lv' := [(6, .int ((σ.wi 0 110 (0 : Int32)).i (2409 + 3 * (((σ.wi 0 110 (0 : Int32)).i (2497 + 4 * l1.toNatClampNeg) 0).toNatClampNeg)) 1)), (0, .ref 0), (1, .int l1), (2, .int l2), (3, .int l3), (4, .int l4), (5, .int l5)]) (st' := [.ref 0]) (by decide +kernel) rfl rfl ?_
              refine ab_fin.q_rA (b := 2192) (ix := 975) (ci := 24) (k := 114) (pc' := 84) (by decide +kernel) rfl (c_rA (F.s s0_0) rfl (rM_114 F)) rfl ?_
              refine ab_fin.s1i (i := .iconst 0) (k := 1) (pc' := 85) (n := 0) (by decide +kernel) rfl (by decide +kernel) rfl ?_
              refine ab_fin.s2 (i := .iload_n 3) (k := 1) (pc' := 86) (lv' := [(6, .int ((σ.wi 0 110 (0 : Int32)).i (2409 + 3 * (((σ.wi 0 110 (0 : Int32)).i (2497 + 4 * l1.toNatClampNeg) 0).toNatClampNeg)) 1)), (0, .ref 0), (1, .int l1), (2, .int l2), (3, .int l3), (4, .int l4), (5, .int l5)]) (st' := [.int l3, .int 0, .ref 2192]) (by decide +kernel) rfl rfl ?_
              refine ab_fin.q_sI (h1 := conc ((σ.wi 0 110 (0 : Int32)).wi 2192 0 l3)) (pc' := 87) (by decide +kernel) (c_sI' (F.s s0_2192) (show ib (0 : Int32) 3 by decide +kernel) (by decide +kernel)) rfl ?_
              refine ab_fin.s2 (i := .aload_n 0) (k := 1) (pc' := 88) (lv' := [(6, .int ((σ.wi 0 110 (0 : Int32)).i (2409 + 3 * (((σ.wi 0 110 (0 : Int32)).i (2497 + 4 * l1.toNatClampNeg) 0).toNatClampNeg)) 1)), (0, .ref 0), (1, .int l1), (2, .int l2), (3, .int l3), (4, .int l4), (5, .int l5)]) (st' := [.ref 0]) (by decide +kernel) rfl rfl ?_
              refine ab_fin.q_rA (b := 2192) (ix := 975) (ci := 24) (k := 114) (pc' := 91) (by decide +kernel) rfl (c_rA (F.s s0_0) rfl (rM_114 F)) rfl ?_
              refine ab_fin.s1i (i := .iconst 1) (k := 1) (pc' := 92) (n := 1) (by decide +kernel) rfl (by decide +kernel) rfl ?_
              refine ab_fin.s2 (i := .iload 4) (k := 2) (pc' := 94) (lv' := [(6, .int ((σ.wi 0 110 (0 : Int32)).i (2409 + 3 * (((σ.wi 0 110 (0 : Int32)).i (2497 + 4 * l1.toNatClampNeg) 0).toNatClampNeg)) 1)), (0, .ref 0), (1, .int l1), (2, .int l2), (3, .int l3), (4, .int l4), (5, .int l5)]) (st' := [.int l4, .int 1, .ref 2192]) (by decide +kernel) rfl rfl ?_
              refine ab_fin.q_sI (h1 := conc (((σ.wi 0 110 (0 : Int32)).wi 2192 0 l3).wi 2192 1 l4)) (pc' := 95) (by decide +kernel) (c_sI' (F.s s0_2192) (show ib (1 : Int32) 3 by decide +kernel) (by decide +kernel)) rfl ?_
              refine ab_fin.s2 (i := .aload_n 0) (k := 1) (pc' := 96) (lv' := [(6, .int ((σ.wi 0 110 (0 : Int32)).i (2409 + 3 * (((σ.wi 0 110 (0 : Int32)).i (2497 + 4 * l1.toNatClampNeg) 0).toNatClampNeg)) 1)), (0, .ref 0), (1, .int l1), (2, .int l2), (3, .int l3), (4, .int l4), (5, .int l5)]) (st' := [.ref 0]) (by decide +kernel) rfl rfl ?_
              refine ab_fin.q_rA (b := 2192) (ix := 975) (ci := 24) (k := 114) (pc' := 99) (by decide +kernel) rfl (c_rA (F.s s0_0) rfl (rM_114 F)) rfl ?_
              refine ab_fin.s1i (i := .iconst 2) (k := 1) (pc' := 100) (n := 2) (by decide +kernel) rfl (by decide +kernel) rfl ?_
              refine ab_fin.s2 (i := .iload 5) (k := 2) (pc' := 102) (lv' := [(6, .int ((σ.wi 0 110 (0 : Int32)).i (2409 + 3 * (((σ.wi 0 110 (0 : Int32)).i (2497 + 4 * l1.toNatClampNeg) 0).toNatClampNeg)) 1)), (0, .ref 0), (1, .int l1), (2, .int l2), (3, .int l3), (4, .int l4), (5, .int l5)]) (st' := [.int l5, .int 2, .ref 2192]) (by decide +kernel) rfl rfl ?_
              refine ab_fin.q_sI (h1 := conc ((((σ.wi 0 110 (0 : Int32)).wi 2192 0 l3).wi 2192 1 l4).wi 2192 2 l5)) (pc' := 103) (by decide +kernel) (c_sI' (F.s s0_2192) (show ib (2 : Int32) 3 by decide +kernel) (by decide +kernel)) rfl ?_
              refine ab_fin.s1i (i := .iconst 0) (k := 1) (pc' := 104) (n := 0) (by decide +kernel) rfl (by decide +kernel) rfl ?_
              refine ab_fin.s2 (i := .istore 7) (k := 2) (pc' := 106) (lv' := [(7, .int 0), (6, .int ((σ.wi 0 110 (0 : Int32)).i (2409 + 3 * (((σ.wi 0 110 (0 : Int32)).i (2497 + 4 * l1.toNatClampNeg) 0).toNatClampNeg)) 1)), (0, .ref 0), (1, .int l1), (2, .int l2), (3, .int l3), (4, .int l4), (5, .int l5)]) (st' := []) (by decide +kernel) rfl rfl ?_
              exact ab_fin.lv ⟨(List.forall_mem_cons.mpr ⟨(List.Mem.tail _ (List.Mem.tail _ (List.Mem.head _))), (List.forall_mem_cons.mpr ⟨(List.Mem.tail _ (List.Mem.tail _ (List.Mem.tail _ (List.Mem.head _)))), (List.forall_mem_cons.mpr ⟨(List.Mem.tail _ (List.Mem.tail _ (List.Mem.tail _ (List.Mem.tail _ (List.Mem.head _))))), (List.forall_mem_cons.mpr ⟨(List.Mem.tail _ (List.Mem.head _)), (List.forall_mem_cons.mpr ⟨(List.Mem.head _), (fun _ h => absurd h List.not_mem_nil)⟩)⟩)⟩)⟩)⟩), (show ([7, 6, 0, 1, 2, 3, 4, 5] : List Nat).Nodup from by decide)⟩ w
            · replace w := w.2 q
              refine ab_fin.s2 (i := .aload_n 0) (k := 1) (pc' := 56) (lv' := [(0, .ref 0), (1, .int l1), (2, .int l2), (3, .int l3), (4, .int l4), (5, .int l5)]) (st' := [.ref 0]) (by decide +kernel) rfl rfl ?_
              refine ab_fin.s1i (i := .iconst 1) (k := 1) (pc' := 57) (n := 1) (by decide +kernel) rfl (by decide +kernel) rfl ?_
              refine ab_fin.q_yI (i := .invokevirtual 1003) (k := 3) (y := 5993) (As := [.ref 0, .int 1]) (rest := []) (M' := (mX23_no_, [])) (lv2 := [(0, .ref 0), (1, .int 1)]) (pc' := 60) (X := K) (by decide +kernel) (ab_cv rfl rfl (conc_get (σ := (σ.wi 0 110 (0 : Int32))) (F.s s0_0)) ⟨(Nat.le_of_ble_eq_true rfl), (Nat.le_of_ble_eq_true rfl)⟩ rfl) rfl (Nat.le_of_ble_eq_true rfl) rfl rfl (hY_no fun E => rfl) w (fun v22 τ20 F21 w => ?_)
              exact ab_fin.q_ret (i := .ireturn) (k := 1) (v := some (.int v22)) (by decide +kernel) rfl F21 w
theorem S_X23_nearer__106 {Z : zT} {d : Nat} {σ : Sg} {l1 : Int32} {l2 : Int32} {l6 : Int32} {l7 : Int32} {K : kS} (F : FX ΦR σ.sh σ.r) (w : (l6 ≤ l7 → ib l2 121 ∧ (ib l1 121 ∧ ((¬ (σ.i (2497 + 4 * l2.toNatClampNeg) 0) = (σ.i (2497 + 4 * l1.toNatClampNeg) 0) → B_X23_no__0 Z d σ 2 (yI K fun v5 τ3 => K (.inl (some (.int v5))) τ3)) ∧ ((σ.i (2497 + 4 * l2.toNatClampNeg) 0) = (σ.i (2497 + 4 * l1.toNatClampNeg) 0) → B_X23_fits_0 Z d σ l1 2192 (yI K fun v8 τ6 => (v8 = 0 → B_X23_no__0 Z d τ6 2 (yI K fun v11 τ9 => K (.inl (some (.int v11))) τ9)) ∧ (¬ v8 = 0 → B_X23_fits_0 Z d τ6 l2 2192 (yI K fun v14 τ12 => (¬ v14 = 0 → B_X23_nearer_0 Z d τ12 l1 l2 2192 (yI K fun v17 τ15 => K (.inl (some (.int v17))) τ15)) ∧ (v14 = 0 → B_X23_no__0 Z d τ12 2 (yI K fun v20 τ18 => K (.inl (some (.int v20))) τ18))))))))) ∧ (¬ l6 ≤ l7 → ib l7 3 ∧ (B_X23_isKind_0 Z d σ (σ.i 2192 l7.toNatClampNeg) (yI K fun v24 τ22 => (¬ v24 = 0 → B_X23_nearer__106 Z (d + 1) τ22 l1 l2 l6 (l7 + 1) K) ∧ (v24 = 0 → B_X23_no__0 Z d τ22 1 (yI K fun v27 τ25 => K (.inl (some (.int v27))) τ25)))))) : B_X23_nearer__106 Z (d + 1) σ l1 l2 l6 l7 K := by
  unfold B_X23_nearer__106
  refine ab_fin.s2 (i := .iload 7) (k := 2) (pc' := 108) (lv' := [(0, .ref 0), (1, .int l1), (2, .int l2), (6, .int l6), (7, .int l7)]) (st' := [.int l7]) (by decide +kernel) rfl rfl ?_
  refine ab_fin.s2 (i := .iload 6) (k := 2) (pc' := 110) (lv' := [(0, .ref 0), (1, .int l1), (2, .int l2), (6, .int l6), (7, .int l7)]) (st' := [.int l6, .int l7]) (by decide +kernel) rfl rfl ?_
  refine ab_fin.br (c := l6 ≤ l7) (i := .if_icmp .ge 29) (off := 29) (t := 139) (pc' := 113) (r := []) (by decide +kernel) rfl (by decide +kernel) rfl (fun q => ?_) (fun q => ?_)
  · replace w := w.1 q
    refine ab_fin.s2 (i := .aload_n 0) (k := 1) (pc' := 140) (lv' := [(0, .ref 0), (1, .int l1), (2, .int l2), (6, .int l6), (7, .int l7)]) (st' := [.ref 0]) (by decide +kernel) rfl rfl ?_
    refine ab_fin.q_rA (b := 3) (ix := 315) (ci := 24) (k := 2) (pc' := 143) (by decide +kernel) rfl (c_rA (F.s s0_0) rfl (rM_2 F)) rfl ?_
    refine ab_fin.s2 (i := .iload_n 2) (k := 1) (pc' := 144) (lv' := [(0, .ref 0), (1, .int l1), (2, .int l2), (6, .int l6), (7, .int l7)]) (st' := [.int l2, .ref 3]) (by decide +kernel) rfl rfl ?_
    obtain ⟨e1, w⟩ := w
    refine ab_fin.q_eA (b := (2497 + 4 * l2.toNatClampNeg)) (pc' := 145) (by decide +kernel) (c_eA' (F.s s0_3) (by decide) rfl e1 rfl (rE_6 F s0_3 (by decide))) rfl ?_
    refine ab_fin.q_rI (x := (σ.i (2497 + 4 * l2.toNatClampNeg) 0)) (ix := 323) (ci := 19) (k := 0) (pc' := 148) (by decide +kernel) rfl (c_rI (F.s (kE_3 e1.2)) rfl) rfl ?_
    refine ab_fin.s2 (i := .aload_n 0) (k := 1) (pc' := 149) (lv' := [(0, .ref 0), (1, .int l1), (2, .int l2), (6, .int l6), (7, .int l7)]) (st' := [.ref 0, .int (σ.i (2497 + 4 * l2.toNatClampNeg) 0)]) (by decide +kernel) rfl rfl ?_
    refine ab_fin.q_rA (b := 3) (ix := 315) (ci := 24) (k := 2) (pc' := 152) (by decide +kernel) rfl (c_rA (F.s s0_0) rfl (rM_2 F)) rfl ?_
    refine ab_fin.s2 (i := .iload_n 1) (k := 1) (pc' := 153) (lv' := [(0, .ref 0), (1, .int l1), (2, .int l2), (6, .int l6), (7, .int l7)]) (st' := [.int l1, .ref 3, .int (σ.i (2497 + 4 * l2.toNatClampNeg) 0)]) (by decide +kernel) rfl rfl ?_
    obtain ⟨e2, w⟩ := w
    refine ab_fin.q_eA (b := (2497 + 4 * l1.toNatClampNeg)) (pc' := 154) (by decide +kernel) (c_eA' (F.s s0_3) (by decide) rfl e2 rfl (rE_6 F s0_3 (by decide))) rfl ?_
    refine ab_fin.q_rI (x := (σ.i (2497 + 4 * l1.toNatClampNeg) 0)) (ix := 323) (ci := 19) (k := 0) (pc' := 157) (by decide +kernel) rfl (c_rI (F.s (kE_3 e2.2)) rfl) rfl ?_
    refine ab_fin.br (c := ¬ (σ.i (2497 + 4 * l2.toNatClampNeg) 0) = (σ.i (2497 + 4 * l1.toNatClampNeg) 0)) (i := .if_icmp .ne 27) (off := 27) (t := 184) (pc' := 160) (r := []) (by decide +kernel) rfl (by decide +kernel) rfl (fun q => ?_) (fun q => ?_)
    · replace w := w.1 q
      refine ab_fin.s2 (i := .aload_n 0) (k := 1) (pc' := 185) (lv' := [(0, .ref 0), (1, .int l1), (2, .int l2), (6, .int l6), (7, .int l7)]) (st' := [.ref 0]) (by decide +kernel) rfl rfl ?_
      refine ab_fin.s1i (i := .iconst 2) (k := 1) (pc' := 186) (n := 2) (by decide +kernel) rfl (by decide +kernel) rfl ?_
      refine ab_fin.q_yI (i := .invokevirtual 1003) (k := 3) (y := 5993) (As := [.ref 0, .int 2]) (rest := []) (M' := (mX23_no_, [])) (lv2 := [(0, .ref 0), (1, .int 2)]) (pc' := 189) (X := K) (by decide +kernel) (ab_cv rfl rfl (conc_get (σ := σ) (F.s s0_0)) ⟨(Nat.le_of_ble_eq_true rfl), (Nat.le_of_ble_eq_true rfl)⟩ rfl) rfl (Nat.le_of_ble_eq_true rfl) rfl rfl (hY_no fun E => rfl) w (fun v5 τ3 F4 w => ?_)
      exact ab_fin.q_ret (i := .ireturn) (k := 1) (v := some (.int v5)) (by decide +kernel) rfl F4 w
    · replace w := w.2 (Decidable.of_not_not q)
      refine ab_fin.s2 (i := .aload_n 0) (k := 1) (pc' := 161) (lv' := [(0, .ref 0), (1, .int l1), (2, .int l2), (6, .int l6), (7, .int l7)]) (st' := [.ref 0]) (by decide +kernel) rfl rfl ?_
      refine ab_fin.s2 (i := .iload_n 1) (k := 1) (pc' := 162) (lv' := [(0, .ref 0), (1, .int l1), (2, .int l2), (6, .int l6), (7, .int l7)]) (st' := [.int l1, .ref 0]) (by decide +kernel) rfl rfl ?_
      refine ab_fin.s2 (i := .aload_n 0) (k := 1) (pc' := 163) (lv' := [(0, .ref 0), (1, .int l1), (2, .int l2), (6, .int l6), (7, .int l7)]) (st' := [.ref 0, .int l1, .ref 0]) (by decide +kernel) rfl rfl ?_
      refine ab_fin.q_rA (b := 2192) (ix := 975) (ci := 24) (k := 114) (pc' := 166) (by decide +kernel) rfl (c_rA (F.s s0_0) rfl (rM_114 F)) rfl ?_
      refine ab_fin.q_yI (i := .invokevirtual 847) (k := 3) (y := 5939) (As := [.ref 0, .int l1, .ref 2192]) (rest := []) (M' := (mX23_fits, [])) (lv2 := [(0, .ref 0), (1, .int l1), (2, .ref 2192)]) (pc' := 169) (X := K) (by decide +kernel) (ab_cv rfl rfl (conc_get (σ := σ) (F.s s0_0)) ⟨(Nat.le_of_ble_eq_true rfl), (Nat.le_of_ble_eq_true rfl)⟩ rfl) rfl (Nat.le_of_ble_eq_true rfl) rfl rfl (hY_no fun E => rfl) w (fun v8 τ6 F7 w => ?_)
      refine ab_fin.br (c := v8 = 0) (i := .ifCond .eq 15) (off := 15) (t := 184) (pc' := 172) (r := []) (by decide +kernel) rfl (by decide +kernel) rfl (fun q => ?_) (fun q => ?_)
      · replace w := w.1 q
        refine ab_fin.s2 (i := .aload_n 0) (k := 1) (pc' := 185) (lv' := [(0, .ref 0), (1, .int l1), (2, .int l2), (6, .int l6), (7, .int l7)]) (st' := [.ref 0]) (by decide +kernel) rfl rfl ?_
        refine ab_fin.s1i (i := .iconst 2) (k := 1) (pc' := 186) (n := 2) (by decide +kernel) rfl (by decide +kernel) rfl ?_
        refine ab_fin.q_yI (i := .invokevirtual 1003) (k := 3) (y := 5993) (As := [.ref 0, .int 2]) (rest := []) (M' := (mX23_no_, [])) (lv2 := [(0, .ref 0), (1, .int 2)]) (pc' := 189) (X := K) (by decide +kernel) (ab_cv rfl rfl (conc_get (σ := τ6) (F7.s s0_0)) ⟨(Nat.le_of_ble_eq_true rfl), (Nat.le_of_ble_eq_true rfl)⟩ rfl) rfl (Nat.le_of_ble_eq_true rfl) rfl rfl (hY_no fun E => rfl) w (fun v11 τ9 F10 w => ?_)
        exact ab_fin.q_ret (i := .ireturn) (k := 1) (v := some (.int v11)) (by decide +kernel) rfl F10 w
      · replace w := w.2 q
        refine ab_fin.s2 (i := .aload_n 0) (k := 1) (pc' := 173) (lv' := [(0, .ref 0), (1, .int l1), (2, .int l2), (6, .int l6), (7, .int l7)]) (st' := [.ref 0]) (by decide +kernel) rfl rfl ?_
        refine ab_fin.s2 (i := .iload_n 2) (k := 1) (pc' := 174) (lv' := [(0, .ref 0), (1, .int l1), (2, .int l2), (6, .int l6), (7, .int l7)]) (st' := [.int l2, .ref 0]) (by decide +kernel) rfl rfl ?_
        refine ab_fin.s2 (i := .aload_n 0) (k := 1) (pc' := 175) (lv' := [(0, .ref 0), (1, .int l1), (2, .int l2), (6, .int l6), (7, .int l7)]) (st' := [.ref 0, .int l2, .ref 0]) (by decide +kernel) rfl rfl ?_
        refine ab_fin.q_rA (b := 2192) (ix := 975) (ci := 24) (k := 114) (pc' := 178) (by decide +kernel) rfl (c_rA (F7.s s0_0) rfl (rM_114 F7)) rfl ?_
        refine ab_fin.q_yI (i := .invokevirtual 847) (k := 3) (y := 5939) (As := [.ref 0, .int l2, .ref 2192]) (rest := []) (M' := (mX23_fits, [])) (lv2 := [(0, .ref 0), (1, .int l2), (2, .ref 2192)]) (pc' := 181) (X := K) (by decide +kernel) (ab_cv rfl rfl (conc_get (σ := τ6) (F7.s s0_0)) ⟨(Nat.le_of_ble_eq_true rfl), (Nat.le_of_ble_eq_true rfl)⟩ rfl) rfl (Nat.le_of_ble_eq_true rfl) rfl rfl (hY_no fun E => rfl) w (fun v14 τ12 F13 w => ?_)
        refine ab_fin.br (c := ¬ v14 = 0) (i := .ifCond .ne 9) (off := 9) (t := 190) (pc' := 184) (r := []) (by decide +kernel) rfl (by decide +kernel) rfl (fun q => ?_) (fun q => ?_)
        · replace w := w.1 q
          refine ab_fin.s2 (i := .aload_n 0) (k := 1) (pc' := 191) (lv' := [(0, .ref 0), (1, .int l1), (2, .int l2), (6, .int l6), (7, .int l7)]) (st' := [.ref 0]) (by decide +kernel) rfl rfl ?_
          refine ab_fin.s2 (i := .iload_n 1) (k := 1) (pc' := 192) (lv' := [(0, .ref 0), (1, .int l1), (2, .int l2), (6, .int l6), (7, .int l7)]) (st' := [.int l1, .ref 0]) (by decide +kernel) rfl rfl ?_
          refine ab_fin.s2 (i := .iload_n 2) (k := 1) (pc' := 193) (lv' := [(0, .ref 0), (1, .int l1), (2, .int l2), (6, .int l6), (7, .int l7)]) (st' := [.int l2, .int l1, .ref 0]) (by decide +kernel) rfl rfl ?_
          refine ab_fin.s2 (i := .aload_n 0) (k := 1) (pc' := 194) (lv' := [(0, .ref 0), (1, .int l1), (2, .int l2), (6, .int l6), (7, .int l7)]) (st' := [.ref 0, .int l2, .int l1, .ref 0]) (by decide +kernel) rfl rfl ?_
          refine ab_fin.q_rA (b := 2192) (ix := 975) (ci := 24) (k := 114) (pc' := 197) (by decide +kernel) rfl (c_rA (F13.s s0_0) rfl (rM_114 F13)) rfl ?_
          refine ab_fin.q_yI (i := .invokevirtual 716) (k := 3) (y := 5950) (As := [.ref 0, .int l1, .int l2, .ref 2192]) (rest := []) (M' := (mX23_nearer, [])) (lv2 := [(0, .ref 0), (1, .int l1), (2, .int l2), (3, .ref 2192)]) (pc' := 200) (X := K) (by decide +kernel) (ab_cv rfl rfl (conc_get (σ := τ12) (F13.s s0_0)) ⟨(Nat.le_of_ble_eq_true rfl), (Nat.le_of_ble_eq_true rfl)⟩ rfl) rfl (Nat.le_of_ble_eq_true rfl) rfl rfl (hY_no fun E => rfl) w (fun v17 τ15 F16 w => ?_)
          exact ab_fin.q_ret (i := .ireturn) (k := 1) (v := some (.int v17)) (by decide +kernel) rfl F16 w
        · replace w := w.2 (Decidable.of_not_not q)
          refine ab_fin.s2 (i := .aload_n 0) (k := 1) (pc' := 185) (lv' := [(0, .ref 0), (1, .int l1), (2, .int l2), (6, .int l6), (7, .int l7)]) (st' := [.ref 0]) (by decide +kernel) rfl rfl ?_
          refine ab_fin.s1i (i := .iconst 2) (k := 1) (pc' := 186) (n := 2) (by decide +kernel) rfl (by decide +kernel) rfl ?_
          refine ab_fin.q_yI (i := .invokevirtual 1003) (k := 3) (y := 5993) (As := [.ref 0, .int 2]) (rest := []) (M' := (mX23_no_, [])) (lv2 := [(0, .ref 0), (1, .int 2)]) (pc' := 189) (X := K) (by decide +kernel) (ab_cv rfl rfl (conc_get (σ := τ12) (F13.s s0_0)) ⟨(Nat.le_of_ble_eq_true rfl), (Nat.le_of_ble_eq_true rfl)⟩ rfl) rfl (Nat.le_of_ble_eq_true rfl) rfl rfl (hY_no fun E => rfl) w (fun v20 τ18 F19 w => ?_)
          exact ab_fin.q_ret (i := .ireturn) (k := 1) (v := some (.int v20)) (by decide +kernel) rfl F19 w
  · replace w := w.2 q
    refine ab_fin.s2 (i := .aload_n 0) (k := 1) (pc' := 114) (lv' := [(0, .ref 0), (1, .int l1), (2, .int l2), (6, .int l6), (7, .int l7)]) (st' := [.ref 0]) (by decide +kernel) rfl rfl ?_
    refine ab_fin.s2 (i := .aload_n 0) (k := 1) (pc' := 115) (lv' := [(0, .ref 0), (1, .int l1), (2, .int l2), (6, .int l6), (7, .int l7)]) (st' := [.ref 0, .ref 0]) (by decide +kernel) rfl rfl ?_
    refine ab_fin.q_rA (b := 2192) (ix := 975) (ci := 24) (k := 114) (pc' := 118) (by decide +kernel) rfl (c_rA (F.s s0_0) rfl (rM_114 F)) rfl ?_
    refine ab_fin.s2 (i := .iload 7) (k := 2) (pc' := 120) (lv' := [(0, .ref 0), (1, .int l1), (2, .int l2), (6, .int l6), (7, .int l7)]) (st' := [.int l7, .ref 2192, .ref 0]) (by decide +kernel) rfl rfl ?_
    obtain ⟨e21, w⟩ := w
    refine ab_fin.q_eI (x := (σ.i 2192 l7.toNatClampNeg)) (pc' := 121) (by decide +kernel) (c_eI' (F.s s0_2192) e21 rfl) rfl ?_
    refine ab_fin.q_yI (i := .invokevirtual 1018) (k := 3) (y := 6001) (As := [.ref 0, .int (σ.i 2192 l7.toNatClampNeg)]) (rest := []) (M' := (mX23_isKind, [])) (lv2 := [(0, .ref 0), (1, .int (σ.i 2192 l7.toNatClampNeg))]) (pc' := 124) (X := K) (by decide +kernel) (ab_cv rfl rfl (conc_get (σ := σ) (F.s s0_0)) ⟨(Nat.le_of_ble_eq_true rfl), (Nat.le_of_ble_eq_true rfl)⟩ rfl) rfl (Nat.le_of_ble_eq_true rfl) rfl rfl (hY_no fun E => rfl) w (fun v24 τ22 F23 w => ?_)
    refine ab_fin.br (c := ¬ v24 = 0) (i := .ifCond .ne 9) (off := 9) (t := 133) (pc' := 127) (r := []) (by decide +kernel) rfl (by decide +kernel) rfl (fun q => ?_) (fun q => ?_)
    · replace w := w.1 q
      refine ab_fin.q_inc (n := 7) (c := 1) (pc' := 136) (lv' := [(7, .int (l7 + 1)), (0, .ref 0), (1, .int l1), (2, .int l2), (6, .int l6)]) (by decide +kernel) (by decide) rfl rfl rfl rfl ?_
      refine ab_fin.s3 (i := .goto (-30)) (k := 3) (t := 106) (st' := []) (by decide +kernel) (ab_gto (by decide +kernel)) ?_
      exact ab_fin.lv ⟨(List.forall_mem_cons.mpr ⟨(List.Mem.tail _ (List.Mem.head _)), (List.forall_mem_cons.mpr ⟨(List.Mem.tail _ (List.Mem.tail _ (List.Mem.head _))), (List.forall_mem_cons.mpr ⟨(List.Mem.tail _ (List.Mem.tail _ (List.Mem.tail _ (List.Mem.head _)))), (List.forall_mem_cons.mpr ⟨(List.Mem.tail _ (List.Mem.tail _ (List.Mem.tail _ (List.Mem.tail _ (List.Mem.head _))))), (List.forall_mem_cons.mpr ⟨(List.Mem.head _), (fun _ h => absurd h List.not_mem_nil)⟩)⟩)⟩)⟩)⟩), (show ([7, 0, 1, 2, 6] : List Nat).Nodup from by decide)⟩ w
    · replace w := w.2 (Decidable.of_not_not q)
      refine ab_fin.s2 (i := .aload_n 0) (k := 1) (pc' := 128) (lv' := [(0, .ref 0), (1, .int l1), (2, .int l2), (6, .int l6), (7, .int l7)]) (st' := [.ref 0]) (by decide +kernel) rfl rfl ?_
      refine ab_fin.s1i (i := .iconst 1) (k := 1) (pc' := 129) (n := 1) (by decide +kernel) rfl (by decide +kernel) rfl ?_
      refine ab_fin.q_yI (i := .invokevirtual 1003) (k := 3) (y := 5993) (As := [.ref 0, .int 1]) (rest := []) (M' := (mX23_no_, [])) (lv2 := [(0, .ref 0), (1, .int 1)]) (pc' := 132) (X := K) (by decide +kernel) (ab_cv rfl rfl (conc_get (σ := τ22) (F23.s s0_0)) ⟨(Nat.le_of_ble_eq_true rfl), (Nat.le_of_ble_eq_true rfl)⟩ rfl) rfl (Nat.le_of_ble_eq_true rfl) rfl rfl (hY_no fun E => rfl) w (fun v27 τ25 F26 w => ?_)
      exact ab_fin.q_ret (i := .ireturn) (k := 1) (v := some (.int v27)) (by decide +kernel) rfl F26 w
theorem S_X23_call__0 {Z : zT} {d : Nat} {σ : Sg} {l1 : Int32} {l2 : Int32} {K : kS} (F : FX ΦR σ.sh σ.r) (w : (l1 < 0 → B_X23_no__0 Z d (σ.wi 0 110 (0 : Int32)) 1 (yI K fun v3 τ1 => K (.inl (some (.int v3))) τ1)) ∧ (¬ l1 < 0 → (l1 < (σ.i 0 5) → (l2 = 0 → ib l1 24 ∧ (K (.inl (some (.int (σ.i 1930 l1.toNatClampNeg)))) (σ.wi 0 110 (0 : Int32)))) ∧ (l2 = 1 → B_X23_lists_0 Z d (σ.wi 0 110 (0 : Int32)) l1 (yI K fun v7 τ5 => K (.inl (some (.int v7))) τ5)) ∧ (l2 = 2 → B_X23_cells_0 Z d (σ.wi 0 110 (0 : Int32)) l1 0 (yI K fun v10 τ8 => K (.inl (some (.int v10))) τ8)) ∧ (l2 = 3 → B_X23_cells_0 Z d (σ.wi 0 110 (0 : Int32)) l1 1 (yI K fun v13 τ11 => K (.inl (some (.int v13))) τ11)) ∧ (l2 = 4 → B_X23_order_0 Z d (σ.wi 0 110 (0 : Int32)) l1 (yI K fun v16 τ14 => B_X23_group_0 Z d τ14 l1 (yN K fun τ17 => B_X23_nodeCount_0 Z d τ17 l1 v16 (yI K fun v21 τ19 => K (.inl (some (.int v21))) τ19)))) ∧ (l2 = 5 → B_X23_judge_0 Z d (σ.wi 0 110 (0 : Int32)) l1 (yN K fun τ22 => K (.inl (some (.int (τ22.i 0 98)))) τ22)) ∧ (l2 = 6 → B_X23_judge_0 Z d (σ.wi 0 110 (0 : Int32)) l1 (yN K fun τ24 => ib (l2 - (6 : Int32)) 3 ∧ (K (.inl (some (.int (τ24.i 2184 ((l2 - (6 : Int32)).toNatClampNeg))))) τ24))) ∧ (l2 = 7 → B_X23_judge_0 Z d (σ.wi 0 110 (0 : Int32)) l1 (yN K fun τ27 => ib (l2 - (6 : Int32)) 3 ∧ (K (.inl (some (.int (τ27.i 2184 ((l2 - (6 : Int32)).toNatClampNeg))))) τ27))) ∧ (l2 = 8 → B_X23_judge_0 Z d (σ.wi 0 110 (0 : Int32)) l1 (yN K fun τ30 => ib (l2 - (6 : Int32)) 3 ∧ (K (.inl (some (.int (τ30.i 2184 ((l2 - (6 : Int32)).toNatClampNeg))))) τ30))) ∧ (¬ l2 = 0 → ¬ l2 = 1 → ¬ l2 = 2 → ¬ l2 = 3 → ¬ l2 = 4 → ¬ l2 = 5 → ¬ l2 = 6 → ¬ l2 = 7 → ¬ l2 = 8 → B_X23_no__0 Z d (σ.wi 0 110 (0 : Int32)) 2 (yI K fun v35 τ33 => K (.inl (some (.int v35))) τ33))) ∧ (¬ l1 < (σ.i 0 5) → B_X23_no__0 Z d (σ.wi 0 110 (0 : Int32)) 1 (yI K fun v38 τ36 => K (.inl (some (.int v38))) τ36)))) : B_X23_call__0 Z (d + 1) σ l1 l2 K := by
  unfold B_X23_call__0
  refine ab_fin.s2 (i := .aload_n 0) (k := 1) (pc' := 1) (lv' := [(0, .ref 0), (1, .int l1), (2, .int l2)]) (st' := [.ref 0]) (by decide +kernel) rfl rfl ?_
  refine ab_fin.s1i (i := .iconst 0) (k := 1) (pc' := 2) (n := 0) (by decide +kernel) rfl (by decide +kernel) rfl ?_
  refine ab_fin.q_pF (ix := 1000) (ci := 24) (k := 110) (h1 := conc (σ.wi 0 110 (0 : Int32))) (pc' := 5) (by decide +kernel) rfl (c_pI (v := 0) (F.s s0_0) rfl) rfl rfl rfl ?_
  refine ab_fin.s2 (i := .iload_n 1) (k := 1) (pc' := 6) (lv' := [(0, .ref 0), (1, .int l1), (2, .int l2)]) (st' := [.int l1]) (by decide +kernel) rfl rfl ?_
  refine ab_fin.br (c := l1 < 0) (i := .ifCond .lt 11) (off := 11) (t := 17) (pc' := 9) (r := []) (by decide +kernel) rfl (by decide +kernel) rfl (fun q => ?_) (fun q => ?_)
  · replace w := w.1 q
    refine ab_fin.s2 (i := .aload_n 0) (k := 1) (pc' := 18) (lv' := [(0, .ref 0), (1, .int l1), (2, .int l2)]) (st' := [.ref 0]) (by decide +kernel) rfl rfl ?_
    refine ab_fin.s1i (i := .iconst 1) (k := 1) (pc' := 19) (n := 1) (by decide +kernel) rfl (by decide +kernel) rfl ?_
    refine ab_fin.q_yI (i := .invokevirtual 1003) (k := 3) (y := 5993) (As := [.ref 0, .int 1]) (rest := []) (M' := (mX23_no_, [])) (lv2 := [(0, .ref 0), (1, .int 1)]) (pc' := 22) (X := K) (by decide +kernel) (ab_cv rfl rfl (conc_get (σ := (σ.wi 0 110 (0 : Int32))) (F.s s0_0)) ⟨(Nat.le_of_ble_eq_true rfl), (Nat.le_of_ble_eq_true rfl)⟩ rfl) rfl (Nat.le_of_ble_eq_true rfl) rfl rfl (hY_no fun E => rfl) w (fun v3 τ1 F2 w => ?_)
    exact ab_fin.q_ret (i := .ireturn) (k := 1) (v := some (.int v3)) (by decide +kernel) rfl F2 w
  · replace w := w.2 q
    refine ab_fin.s2 (i := .iload_n 1) (k := 1) (pc' := 10) (lv' := [(0, .ref 0), (1, .int l1), (2, .int l2)]) (st' := [.int l1]) (by decide +kernel) rfl rfl ?_
    refine ab_fin.s2 (i := .aload_n 0) (k := 1) (pc' := 11) (lv' := [(0, .ref 0), (1, .int l1), (2, .int l2)]) (st' := [.ref 0, .int l1]) (by decide +kernel) rfl rfl ?_
    refine ab_fin.q_rI (x := (σ.i 0 5)) (ix := 31) (ci := 24) (k := 5) (pc' := 14) (by decide +kernel) rfl (c_rI (F.s s0_0) rfl) rfl ?_
    refine ab_fin.br (c := l1 < (σ.i 0 5)) (i := .if_icmp .lt 9) (off := 9) (t := 23) (pc' := 17) (r := []) (by decide +kernel) rfl (by decide +kernel) rfl (fun q => ?_) (fun q => ?_)
    · replace w := w.1 q
      refine ab_fin.s2 (i := .iload_n 2) (k := 1) (pc' := 24) (lv' := [(0, .ref 0), (1, .int l1), (2, .int l2)]) (st' := [.int l2]) (by decide +kernel) rfl rfl ?_
      by_cases q0 : l2 = 0
      · refine ab_fin.s3 (i := .tableswitch 122 0 8 #[52, 59, 65, 72, 79, 97, 107, 107, 107]) (k := 52) (t := 76) (st' := []) (by decide +kernel) (by rw [q0]; exact ab_swI (off := 52) (by decide +kernel) (by decide +kernel) (by decide +kernel)) ?_
        replace w := w.1 q0
        refine ab_fin.s2 (i := .aload_n 0) (k := 1) (pc' := 77) (lv' := [(0, .ref 0), (1, .int l1), (2, .int l2)]) (st' := [.ref 0]) (by decide +kernel) rfl rfl ?_
        refine ab_fin.q_rA (b := 1930) (ix := 504) (ci := 24) (k := 38) (pc' := 80) (by decide +kernel) rfl (c_rA (F.s s0_0) rfl (rM_38 F)) rfl ?_
        refine ab_fin.s2 (i := .iload_n 1) (k := 1) (pc' := 81) (lv' := [(0, .ref 0), (1, .int l1), (2, .int l2)]) (st' := [.int l1, .ref 1930]) (by decide +kernel) rfl rfl ?_
        obtain ⟨e4, w⟩ := w
        refine ab_fin.q_eI (x := (σ.i 1930 l1.toNatClampNeg)) (pc' := 82) (by decide +kernel) (c_eI' (F.s s0_1930) e4 rfl) rfl ?_
        exact ab_fin.q_ret (i := .ireturn) (k := 1) (v := some (.int (σ.i 1930 l1.toNatClampNeg))) (by decide +kernel) rfl F w
      by_cases q1 : l2 = 1
      · refine ab_fin.s3 (i := .tableswitch 122 0 8 #[52, 59, 65, 72, 79, 97, 107, 107, 107]) (k := 52) (t := 83) (st' := []) (by decide +kernel) (by rw [q1]; exact ab_swI (off := 59) (by decide +kernel) (by decide +kernel) (by decide +kernel)) ?_
        replace w := w.2.1 q1
        refine ab_fin.s2 (i := .aload_n 0) (k := 1) (pc' := 84) (lv' := [(0, .ref 0), (1, .int l1), (2, .int l2)]) (st' := [.ref 0]) (by decide +kernel) rfl rfl ?_
        refine ab_fin.s2 (i := .iload_n 1) (k := 1) (pc' := 85) (lv' := [(0, .ref 0), (1, .int l1), (2, .int l2)]) (st' := [.int l1, .ref 0]) (by decide +kernel) rfl rfl ?_
        refine ab_fin.q_yI (i := .invokevirtual 1021) (k := 3) (y := 5957) (As := [.ref 0, .int l1]) (rest := []) (M' := (mX23_lists, [])) (lv2 := [(0, .ref 0), (1, .int l1)]) (pc' := 88) (X := K) (by decide +kernel) (ab_cv rfl rfl (conc_get (σ := (σ.wi 0 110 (0 : Int32))) (F.s s0_0)) ⟨(Nat.le_of_ble_eq_true rfl), (Nat.le_of_ble_eq_true rfl)⟩ rfl) rfl (Nat.le_of_ble_eq_true rfl) rfl rfl (hY_no fun E => rfl) w (fun v7 τ5 F6 w => ?_)
        exact ab_fin.q_ret (i := .ireturn) (k := 1) (v := some (.int v7)) (by decide +kernel) rfl F6 w
      by_cases q2 : l2 = 2
      · refine ab_fin.s3 (i := .tableswitch 122 0 8 #[52, 59, 65, 72, 79, 97, 107, 107, 107]) (k := 52) (t := 89) (st' := []) (by decide +kernel) (by rw [q2]; exact ab_swI (off := 65) (by decide +kernel) (by decide +kernel) (by decide +kernel)) ?_
        replace w := w.2.2.1 q2
        refine ab_fin.s2 (i := .aload_n 0) (k := 1) (pc' := 90) (lv' := [(0, .ref 0), (1, .int l1), (2, .int l2)]) (st' := [.ref 0]) (by decide +kernel) rfl rfl ?_
        refine ab_fin.s2 (i := .iload_n 1) (k := 1) (pc' := 91) (lv' := [(0, .ref 0), (1, .int l1), (2, .int l2)]) (st' := [.int l1, .ref 0]) (by decide +kernel) rfl rfl ?_
        refine ab_fin.s1i (i := .iconst 0) (k := 1) (pc' := 92) (n := 0) (by decide +kernel) rfl (by decide +kernel) rfl ?_
        refine ab_fin.q_yI (i := .invokevirtual 899) (k := 3) (y := 5958) (As := [.ref 0, .int l1, .int 0]) (rest := []) (M' := (mX23_cells, [])) (lv2 := [(0, .ref 0), (1, .int l1), (2, .int 0)]) (pc' := 95) (X := K) (by decide +kernel) (ab_cv rfl rfl (conc_get (σ := (σ.wi 0 110 (0 : Int32))) (F.s s0_0)) ⟨(Nat.le_of_ble_eq_true rfl), (Nat.le_of_ble_eq_true rfl)⟩ rfl) rfl (Nat.le_of_ble_eq_true rfl) rfl rfl (hY_no fun E => rfl) w (fun v10 τ8 F9 w => ?_)
        exact ab_fin.q_ret (i := .ireturn) (k := 1) (v := some (.int v10)) (by decide +kernel) rfl F9 w
      by_cases q3 : l2 = 3
      · refine ab_fin.s3 (i := .tableswitch 122 0 8 #[52, 59, 65, 72, 79, 97, 107, 107, 107]) (k := 52) (t := 96) (st' := []) (by decide +kernel) (by rw [q3]; exact ab_swI (off := 72) (by decide +kernel) (by decide +kernel) (by decide +kernel)) ?_
        replace w := w.2.2.2.1 q3
        refine ab_fin.s2 (i := .aload_n 0) (k := 1) (pc' := 97) (lv' := [(0, .ref 0), (1, .int l1), (2, .int l2)]) (st' := [.ref 0]) (by decide +kernel) rfl rfl ?_
        refine ab_fin.s2 (i := .iload_n 1) (k := 1) (pc' := 98) (lv' := [(0, .ref 0), (1, .int l1), (2, .int l2)]) (st' := [.int l1, .ref 0]) (by decide +kernel) rfl rfl ?_
        refine ab_fin.s1i (i := .iconst 1) (k := 1) (pc' := 99) (n := 1) (by decide +kernel) rfl (by decide +kernel) rfl ?_
        refine ab_fin.q_yI (i := .invokevirtual 899) (k := 3) (y := 5958) (As := [.ref 0, .int l1, .int 1]) (rest := []) (M' := (mX23_cells, [])) (lv2 := [(0, .ref 0), (1, .int l1), (2, .int 1)]) (pc' := 102) (X := K) (by decide +kernel) (ab_cv rfl rfl (conc_get (σ := (σ.wi 0 110 (0 : Int32))) (F.s s0_0)) ⟨(Nat.le_of_ble_eq_true rfl), (Nat.le_of_ble_eq_true rfl)⟩ rfl) rfl (Nat.le_of_ble_eq_true rfl) rfl rfl (hY_no fun E => rfl) w (fun v13 τ11 F12 w => ?_)
        exact ab_fin.q_ret (i := .ireturn) (k := 1) (v := some (.int v13)) (by decide +kernel) rfl F12 w
      by_cases q4 : l2 = 4
      · refine ab_fin.s3 (i := .tableswitch 122 0 8 #[52, 59, 65, 72, 79, 97, 107, 107, 107]) (k := 52) (t := 103) (st' := []) (by decide +kernel) (by rw [q4]; exact ab_swI (off := 79) (by decide +kernel) (by decide +kernel) (by decide +kernel)) ?_
        replace w := w.2.2.2.2.1 q4
        refine ab_fin.s2 (i := .aload_n 0) (k := 1) (pc' := 104) (lv' := [(0, .ref 0), (1, .int l1), (2, .int l2)]) (st' := [.ref 0]) (by decide +kernel) rfl rfl ?_
        refine ab_fin.s2 (i := .iload_n 1) (k := 1) (pc' := 105) (lv' := [(0, .ref 0), (1, .int l1), (2, .int l2)]) (st' := [.int l1, .ref 0]) (by decide +kernel) rfl rfl ?_
        refine ab_fin.q_yI (i := .invokevirtual 686) (k := 3) (y := 5963) (As := [.ref 0, .int l1]) (rest := []) (M' := (mX23_order, [])) (lv2 := [(0, .ref 0), (1, .int l1)]) (pc' := 108) (X := K) (by decide +kernel) (ab_cv rfl rfl (conc_get (σ := (σ.wi 0 110 (0 : Int32))) (F.s s0_0)) ⟨(Nat.le_of_ble_eq_true rfl), (Nat.le_of_ble_eq_true rfl)⟩ rfl) rfl (Nat.le_of_ble_eq_true rfl) rfl rfl (hY_no fun E => rfl) w (fun v16 τ14 F15 w => ?_)
        refine ab_fin.s2 (i := .istore_n 3) (k := 1) (pc' := 109) (lv' := [(3, .int v16), (0, .ref 0), (1, .int l1), (2, .int l2)]) (st' := []) (by decide +kernel) rfl rfl ?_
        refine ab_fin.s2 (i := .aload_n 0) (k := 1) (pc' := 110) (lv' := [(3, .int v16), (0, .ref 0), (1, .int l1), (2, .int l2)]) (st' := [.ref 0]) (by decide +kernel) rfl rfl ?_
        refine ab_fin.s2 (i := .iload_n 1) (k := 1) (pc' := 111) (lv' := [(3, .int v16), (0, .ref 0), (1, .int l1), (2, .int l2)]) (st' := [.int l1, .ref 0]) (by decide +kernel) rfl rfl ?_
        refine ab_fin.q_yN (i := .invokevirtual 648) (k := 3) (y := 5953) (As := [.ref 0, .int l1]) (rest := []) (M' := (mX23_group, [])) (lv2 := [(0, .ref 0), (1, .int l1)]) (pc' := 114) (X := K) (by decide +kernel) (ab_cv rfl rfl (conc_get (σ := τ14) (F15.s s0_0)) ⟨(Nat.le_of_ble_eq_true rfl), (Nat.le_of_ble_eq_true rfl)⟩ rfl) rfl (Nat.le_of_ble_eq_true rfl) rfl rfl (hY_no fun E => rfl) w (fun τ17 F18 w => ?_)
        refine ab_fin.s2 (i := .aload_n 0) (k := 1) (pc' := 115) (lv' := [(3, .int v16), (0, .ref 0), (1, .int l1), (2, .int l2)]) (st' := [.ref 0]) (by decide +kernel) rfl rfl ?_
        refine ab_fin.s2 (i := .iload_n 1) (k := 1) (pc' := 116) (lv' := [(3, .int v16), (0, .ref 0), (1, .int l1), (2, .int l2)]) (st' := [.int l1, .ref 0]) (by decide +kernel) rfl rfl ?_
        refine ab_fin.s2 (i := .iload_n 3) (k := 1) (pc' := 117) (lv' := [(3, .int v16), (0, .ref 0), (1, .int l1), (2, .int l2)]) (st' := [.int v16, .int l1, .ref 0]) (by decide +kernel) rfl rfl ?_
        refine ab_fin.q_yI (i := .invokevirtual 680) (k := 3) (y := 5962) (As := [.ref 0, .int l1, .int v16]) (rest := []) (M' := (mX23_nodeCount, [])) (lv2 := [(0, .ref 0), (1, .int l1), (2, .int v16)]) (pc' := 120) (X := K) (by decide +kernel) (ab_cv rfl rfl (conc_get (σ := τ17) (F18.s s0_0)) ⟨(Nat.le_of_ble_eq_true rfl), (Nat.le_of_ble_eq_true rfl)⟩ rfl) rfl (Nat.le_of_ble_eq_true rfl) rfl rfl (hY_no fun E => rfl) w (fun v21 τ19 F20 w => ?_)
        exact ab_fin.q_ret (i := .ireturn) (k := 1) (v := some (.int v21)) (by decide +kernel) rfl F20 w
      by_cases q5 : l2 = 5
      · refine ab_fin.s3 (i := .tableswitch 122 0 8 #[52, 59, 65, 72, 79, 97, 107, 107, 107]) (k := 52) (t := 121) (st' := []) (by decide +kernel) (by rw [q5]; exact ab_swI (off := 97) (by decide +kernel) (by decide +kernel) (by decide +kernel)) ?_
        replace w := w.2.2.2.2.2.1 q5
        refine ab_fin.s2 (i := .aload_n 0) (k := 1) (pc' := 122) (lv' := [(0, .ref 0), (1, .int l1), (2, .int l2)]) (st' := [.ref 0]) (by decide +kernel) rfl rfl ?_
        refine ab_fin.s2 (i := .iload_n 1) (k := 1) (pc' := 123) (lv' := [(0, .ref 0), (1, .int l1), (2, .int l2)]) (st' := [.int l1, .ref 0]) (by decide +kernel) rfl rfl ?_
        refine ab_fin.q_yN (i := .invokevirtual 1024) (k := 3) (y := 5983) (As := [.ref 0, .int l1]) (rest := []) (M' := (mX23_judge, [])) (lv2 := [(0, .ref 0), (1, .int l1)]) (pc' := 126) (X := K) (by decide +kernel) (ab_cv rfl rfl (conc_get (σ := (σ.wi 0 110 (0 : Int32))) (F.s s0_0)) ⟨(Nat.le_of_ble_eq_true rfl), (Nat.le_of_ble_eq_true rfl)⟩ rfl) rfl (Nat.le_of_ble_eq_true rfl) rfl rfl (hY_no fun E => rfl) w (fun τ22 F23 w => ?_)
        refine ab_fin.s2 (i := .aload_n 0) (k := 1) (pc' := 127) (lv' := [(0, .ref 0), (1, .int l1), (2, .int l2)]) (st' := [.ref 0]) (by decide +kernel) rfl rfl ?_
        refine ab_fin.q_rI (x := (τ22.i 0 98)) (ix := 890) (ci := 24) (k := 98) (pc' := 130) (by decide +kernel) rfl (c_rI (F23.s s0_0) rfl) rfl ?_
        exact ab_fin.q_ret (i := .ireturn) (k := 1) (v := some (.int (τ22.i 0 98))) (by decide +kernel) rfl F23 w
      by_cases q6 : l2 = 6
      · refine ab_fin.s3 (i := .tableswitch 122 0 8 #[52, 59, 65, 72, 79, 97, 107, 107, 107]) (k := 52) (t := 131) (st' := []) (by decide +kernel) (by rw [q6]; exact ab_swI (off := 107) (by decide +kernel) (by decide +kernel) (by decide +kernel)) ?_
        replace w := w.2.2.2.2.2.2.1 q6
        refine ab_fin.s2 (i := .aload_n 0) (k := 1) (pc' := 132) (lv' := [(0, .ref 0), (1, .int l1), (2, .int l2)]) (st' := [.ref 0]) (by decide +kernel) rfl rfl ?_
        refine ab_fin.s2 (i := .iload_n 1) (k := 1) (pc' := 133) (lv' := [(0, .ref 0), (1, .int l1), (2, .int l2)]) (st' := [.int l1, .ref 0]) (by decide +kernel) rfl rfl ?_
        refine ab_fin.q_yN (i := .invokevirtual 1024) (k := 3) (y := 5983) (As := [.ref 0, .int l1]) (rest := []) (M' := (mX23_judge, [])) (lv2 := [(0, .ref 0), (1, .int l1)]) (pc' := 136) (X := K) (by decide +kernel) (ab_cv rfl rfl (conc_get (σ := (σ.wi 0 110 (0 : Int32))) (F.s s0_0)) ⟨(Nat.le_of_ble_eq_true rfl), (Nat.le_of_ble_eq_true rfl)⟩ rfl) rfl (Nat.le_of_ble_eq_true rfl) rfl rfl (hY_no fun E => rfl) w (fun τ24 F25 w => ?_)
        refine ab_fin.s2 (i := .aload_n 0) (k := 1) (pc' := 137) (lv' := [(0, .ref 0), (1, .int l1), (2, .int l2)]) (st' := [.ref 0]) (by decide +kernel) rfl rfl ?_
        refine ab_fin.q_rA (b := 2184) (ix := 893) (ci := 24) (k := 99) (pc' := 140) (by decide +kernel) rfl (c_rA (F25.s s0_0) rfl (rM_99 F25)) rfl ?_
        refine ab_fin.s2 (i := .iload_n 2) (k := 1) (pc' := 141) (lv' := [(0, .ref 0), (1, .int l1), (2, .int l2)]) (st' := [.int l2, .ref 2184]) (by decide +kernel) rfl rfl ?_
        refine ab_fin.s1i (i := .bipush 6) (k := 2) (pc' := 143) (n := 6) (by decide +kernel) rfl (by decide +kernel) rfl ?_
        refine ab_fin.s1 (i := .isub) (k := 1) (pc' := 144) (st' := [.int (l2 - (6 : Int32)), .ref 2184]) (by decide +kernel) rfl rfl ?_
        obtain ⟨e26, w⟩ := w
        refine ab_fin.q_eI (x := (τ24.i 2184 ((l2 - (6 : Int32)).toNatClampNeg))) (pc' := 145) (by decide +kernel) (c_eI' (F25.s s0_2184) e26 rfl) rfl ?_
        exact ab_fin.q_ret (i := .ireturn) (k := 1) (v := some (.int (τ24.i 2184 ((l2 - (6 : Int32)).toNatClampNeg)))) (by decide +kernel) rfl F25 w
      by_cases q7 : l2 = 7
      · refine ab_fin.s3 (i := .tableswitch 122 0 8 #[52, 59, 65, 72, 79, 97, 107, 107, 107]) (k := 52) (t := 131) (st' := []) (by decide +kernel) (by rw [q7]; exact ab_swI (off := 107) (by decide +kernel) (by decide +kernel) (by decide +kernel)) ?_
        replace w := w.2.2.2.2.2.2.2.1 q7
        refine ab_fin.s2 (i := .aload_n 0) (k := 1) (pc' := 132) (lv' := [(0, .ref 0), (1, .int l1), (2, .int l2)]) (st' := [.ref 0]) (by decide +kernel) rfl rfl ?_
        refine ab_fin.s2 (i := .iload_n 1) (k := 1) (pc' := 133) (lv' := [(0, .ref 0), (1, .int l1), (2, .int l2)]) (st' := [.int l1, .ref 0]) (by decide +kernel) rfl rfl ?_
        refine ab_fin.q_yN (i := .invokevirtual 1024) (k := 3) (y := 5983) (As := [.ref 0, .int l1]) (rest := []) (M' := (mX23_judge, [])) (lv2 := [(0, .ref 0), (1, .int l1)]) (pc' := 136) (X := K) (by decide +kernel) (ab_cv rfl rfl (conc_get (σ := (σ.wi 0 110 (0 : Int32))) (F.s s0_0)) ⟨(Nat.le_of_ble_eq_true rfl), (Nat.le_of_ble_eq_true rfl)⟩ rfl) rfl (Nat.le_of_ble_eq_true rfl) rfl rfl (hY_no fun E => rfl) w (fun τ27 F28 w => ?_)
        refine ab_fin.s2 (i := .aload_n 0) (k := 1) (pc' := 137) (lv' := [(0, .ref 0), (1, .int l1), (2, .int l2)]) (st' := [.ref 0]) (by decide +kernel) rfl rfl ?_
        refine ab_fin.q_rA (b := 2184) (ix := 893) (ci := 24) (k := 99) (pc' := 140) (by decide +kernel) rfl (c_rA (F28.s s0_0) rfl (rM_99 F28)) rfl ?_
        refine ab_fin.s2 (i := .iload_n 2) (k := 1) (pc' := 141) (lv' := [(0, .ref 0), (1, .int l1), (2, .int l2)]) (st' := [.int l2, .ref 2184]) (by decide +kernel) rfl rfl ?_
        refine ab_fin.s1i (i := .bipush 6) (k := 2) (pc' := 143) (n := 6) (by decide +kernel) rfl (by decide +kernel) rfl ?_
        refine ab_fin.s1 (i := .isub) (k := 1) (pc' := 144) (st' := [.int (l2 - (6 : Int32)), .ref 2184]) (by decide +kernel) rfl rfl ?_
        obtain ⟨e29, w⟩ := w
        refine ab_fin.q_eI (x := (τ27.i 2184 ((l2 - (6 : Int32)).toNatClampNeg))) (pc' := 145) (by decide +kernel) (c_eI' (F28.s s0_2184) e29 rfl) rfl ?_
        exact ab_fin.q_ret (i := .ireturn) (k := 1) (v := some (.int (τ27.i 2184 ((l2 - (6 : Int32)).toNatClampNeg)))) (by decide +kernel) rfl F28 w
      by_cases q8 : l2 = 8
      · refine ab_fin.s3 (i := .tableswitch 122 0 8 #[52, 59, 65, 72, 79, 97, 107, 107, 107]) (k := 52) (t := 131) (st' := []) (by decide +kernel) (by rw [q8]; exact ab_swI (off := 107) (by decide +kernel) (by decide +kernel) (by decide +kernel)) ?_
        replace w := w.2.2.2.2.2.2.2.2.1 q8
        refine ab_fin.s2 (i := .aload_n 0) (k := 1) (pc' := 132) (lv' := [(0, .ref 0), (1, .int l1), (2, .int l2)]) (st' := [.ref 0]) (by decide +kernel) rfl rfl ?_
        refine ab_fin.s2 (i := .iload_n 1) (k := 1) (pc' := 133) (lv' := [(0, .ref 0), (1, .int l1), (2, .int l2)]) (st' := [.int l1, .ref 0]) (by decide +kernel) rfl rfl ?_
        refine ab_fin.q_yN (i := .invokevirtual 1024) (k := 3) (y := 5983) (As := [.ref 0, .int l1]) (rest := []) (M' := (mX23_judge, [])) (lv2 := [(0, .ref 0), (1, .int l1)]) (pc' := 136) (X := K) (by decide +kernel) (ab_cv rfl rfl (conc_get (σ := (σ.wi 0 110 (0 : Int32))) (F.s s0_0)) ⟨(Nat.le_of_ble_eq_true rfl), (Nat.le_of_ble_eq_true rfl)⟩ rfl) rfl (Nat.le_of_ble_eq_true rfl) rfl rfl (hY_no fun E => rfl) w (fun τ30 F31 w => ?_)
        refine ab_fin.s2 (i := .aload_n 0) (k := 1) (pc' := 137) (lv' := [(0, .ref 0), (1, .int l1), (2, .int l2)]) (st' := [.ref 0]) (by decide +kernel) rfl rfl ?_
        refine ab_fin.q_rA (b := 2184) (ix := 893) (ci := 24) (k := 99) (pc' := 140) (by decide +kernel) rfl (c_rA (F31.s s0_0) rfl (rM_99 F31)) rfl ?_
        refine ab_fin.s2 (i := .iload_n 2) (k := 1) (pc' := 141) (lv' := [(0, .ref 0), (1, .int l1), (2, .int l2)]) (st' := [.int l2, .ref 2184]) (by decide +kernel) rfl rfl ?_
        refine ab_fin.s1i (i := .bipush 6) (k := 2) (pc' := 143) (n := 6) (by decide +kernel) rfl (by decide +kernel) rfl ?_
        refine ab_fin.s1 (i := .isub) (k := 1) (pc' := 144) (st' := [.int (l2 - (6 : Int32)), .ref 2184]) (by decide +kernel) rfl rfl ?_
        obtain ⟨e32, w⟩ := w
        refine ab_fin.q_eI (x := (τ30.i 2184 ((l2 - (6 : Int32)).toNatClampNeg))) (pc' := 145) (by decide +kernel) (c_eI' (F31.s s0_2184) e32 rfl) rfl ?_
        exact ab_fin.q_ret (i := .ireturn) (k := 1) (v := some (.int (τ30.i 2184 ((l2 - (6 : Int32)).toNatClampNeg)))) (by decide +kernel) rfl F31 w
      have hsw : ab_s3 (.tableswitch 122 0 8 #[52, 59, 65, 72, 79, 97, 107, 107, 107]) 52 24 (.int l2 :: []) = some (146, []) := by
        clear w
        have qd : Int32.toInt l2 < 0 ∨ 8 < Int32.toInt l2 := by
          simp only [← Int32.toInt_inj, show (0 : Int32).toInt = 0 from rfl, show (1 : Int32).toInt = 1 from rfl, show (2 : Int32).toInt = 2 from rfl, show (3 : Int32).toInt = 3 from rfl, show (4 : Int32).toInt = 4 from rfl, show (5 : Int32).toInt = 5 from rfl, show (6 : Int32).toInt = 6 from rfl, show (7 : Int32).toInt = 7 from rfl, show (8 : Int32).toInt = 8 from rfl] at q0 q1 q2 q3 q4 q5 q6 q7 q8 
          omega
        exact ab_swD qd (by decide +kernel)
      refine ab_fin.s3 (i := .tableswitch 122 0 8 #[52, 59, 65, 72, 79, 97, 107, 107, 107]) (k := 52) (t := 146) (st' := []) (by decide +kernel) hsw ?_
      replace w := w.2.2.2.2.2.2.2.2.2 q0 q1 q2 q3 q4 q5 q6 q7 q8
      refine ab_fin.s2 (i := .aload_n 0) (k := 1) (pc' := 147) (lv' := [(0, .ref 0), (1, .int l1), (2, .int l2)]) (st' := [.ref 0]) (by decide +kernel) rfl rfl ?_
      refine ab_fin.s1i (i := .iconst 2) (k := 1) (pc' := 148) (n := 2) (by decide +kernel) rfl (by decide +kernel) rfl ?_
      refine ab_fin.q_yI (i := .invokevirtual 1003) (k := 3) (y := 5993) (As := [.ref 0, .int 2]) (rest := []) (M' := (mX23_no_, [])) (lv2 := [(0, .ref 0), (1, .int 2)]) (pc' := 151) (X := K) (by decide +kernel) (ab_cv rfl rfl (conc_get (σ := (σ.wi 0 110 (0 : Int32))) (F.s s0_0)) ⟨(Nat.le_of_ble_eq_true rfl), (Nat.le_of_ble_eq_true rfl)⟩ rfl) rfl (Nat.le_of_ble_eq_true rfl) rfl rfl (hY_no fun E => rfl) w (fun v35 τ33 F34 w => ?_)
      exact ab_fin.q_ret (i := .ireturn) (k := 1) (v := some (.int v35)) (by decide +kernel) rfl F34 w
    · replace w := w.2 q
      refine ab_fin.s2 (i := .aload_n 0) (k := 1) (pc' := 18) (lv' := [(0, .ref 0), (1, .int l1), (2, .int l2)]) (st' := [.ref 0]) (by decide +kernel) rfl rfl ?_
      refine ab_fin.s1i (i := .iconst 1) (k := 1) (pc' := 19) (n := 1) (by decide +kernel) rfl (by decide +kernel) rfl ?_
      refine ab_fin.q_yI (i := .invokevirtual 1003) (k := 3) (y := 5993) (As := [.ref 0, .int 1]) (rest := []) (M' := (mX23_no_, [])) (lv2 := [(0, .ref 0), (1, .int 1)]) (pc' := 22) (X := K) (by decide +kernel) (ab_cv rfl rfl (conc_get (σ := (σ.wi 0 110 (0 : Int32))) (F.s s0_0)) ⟨(Nat.le_of_ble_eq_true rfl), (Nat.le_of_ble_eq_true rfl)⟩ rfl) rfl (Nat.le_of_ble_eq_true rfl) rfl rfl (hY_no fun E => rfl) w (fun v38 τ36 F37 w => ?_)
      exact ab_fin.q_ret (i := .ireturn) (k := 1) (v := some (.int v38)) (by decide +kernel) rfl F37 w
theorem S_X23_run_0 {Z : zT} {d : Nat} {σ : Sg}  {K : kS} (F : FX ΦR σ.sh σ.r) (w : (¬ (σ.r 0 10) = Rf.nul → B_X23_runAll_0 Z d (σ.wi 0 110 (0 : Int32))  (yI K fun v3 τ1 => K (.inl (some (.int v3))) τ1)) ∧ ((σ.r 0 10) = Rf.nul → B_X23_no__0 Z d (σ.wi 0 110 (0 : Int32)) 1 (yI K fun v6 τ4 => K (.inl (some (.int v6))) τ4))) : B_X23_run_0 Z (d + 1) σ  K := by
  unfold B_X23_run_0
  refine ab_fin.s2 (i := .aload_n 0) (k := 1) (pc' := 1) (lv' := [(0, .ref 0)]) (st' := [.ref 0]) (by decide +kernel) rfl rfl ?_
  refine ab_fin.s1i (i := .iconst 0) (k := 1) (pc' := 2) (n := 0) (by decide +kernel) rfl (by decide +kernel) rfl ?_
  refine ab_fin.q_pF (ix := 1000) (ci := 24) (k := 110) (h1 := conc (σ.wi 0 110 (0 : Int32))) (pc' := 5) (by decide +kernel) rfl (c_pI (v := 0) (F.s s0_0) rfl) rfl rfl rfl ?_
  refine ab_fin.s2 (i := .aload_n 0) (k := 1) (pc' := 6) (lv' := [(0, .ref 0)]) (st' := [.ref 0]) (by decide +kernel) rfl rfl ?_
  refine ab_fin.q_rV (v := rv (σ.r 0 10)) (ix := 885) (ci := 24) (k := 10) (pc' := 9) (by decide +kernel) rfl (c_rV (F.s s0_0) rfl) rfl ?_
  refine ab_fin.q_nnl (off := 11) (t := 20) (pc' := 12) (by decide +kernel) (oR_rv _) (by decide +kernel) rfl (fun q => ?_) (fun q => ?_)
  · replace w := w.1 (fun z => q (rv_null.mpr z))
    refine ab_fin.s2 (i := .aload_n 0) (k := 1) (pc' := 21) (lv' := [(0, .ref 0)]) (st' := [.ref 0]) (by decide +kernel) rfl rfl ?_
    refine ab_fin.q_yI (i := .invokevirtual 1027) (k := 3) (y := 6091) (As := [.ref 0]) (rest := []) (M' := (mX23_runAll, [(49, 66, 69, 790), (49, 66, 86, 888)])) (lv2 := [(0, .ref 0)]) (pc' := 24) (X := K) (by decide +kernel) (ab_cv rfl rfl (conc_get (σ := (σ.wi 0 110 (0 : Int32))) (F.s s0_0)) ⟨(Nat.le_of_ble_eq_true rfl), (Nat.le_of_ble_eq_true rfl)⟩ rfl) rfl (Nat.le_of_ble_eq_true rfl) rfl rfl (hY_no fun E => rfl) w (fun v3 τ1 F2 w => ?_)
    exact ab_fin.q_ret (i := .ireturn) (k := 1) (v := some (.int v3)) (by decide +kernel) rfl F2 w
  · replace w := w.2 (rv_null.mp q)
    refine ab_fin.s2 (i := .aload_n 0) (k := 1) (pc' := 13) (lv' := [(0, .ref 0)]) (st' := [.ref 0]) (by decide +kernel) rfl rfl ?_
    refine ab_fin.s1i (i := .iconst 1) (k := 1) (pc' := 14) (n := 1) (by decide +kernel) rfl (by decide +kernel) rfl ?_
    refine ab_fin.q_yI (i := .invokevirtual 1003) (k := 3) (y := 5993) (As := [.ref 0, .int 1]) (rest := []) (M' := (mX23_no_, [])) (lv2 := [(0, .ref 0), (1, .int 1)]) (pc' := 17) (X := K) (by decide +kernel) (ab_cv rfl rfl (conc_get (σ := (σ.wi 0 110 (0 : Int32))) (F.s s0_0)) ⟨(Nat.le_of_ble_eq_true rfl), (Nat.le_of_ble_eq_true rfl)⟩ rfl) rfl (Nat.le_of_ble_eq_true rfl) rfl rfl (hY_no fun E => rfl) w (fun v6 τ4 F5 w => ?_)
    refine ab_fin.s3 (i := .goto 7) (k := 3) (t := 24) (st' := [.int v6]) (by decide +kernel) (ab_gto (by decide +kernel)) ?_
    exact ab_fin.q_ret (i := .ireturn) (k := 1) (v := some (.int v6)) (by decide +kernel) rfl F5 w
theorem S_X23_told_0 {Z : zT} {d : Nat} {σ : Sg} {l1 : Int32} {K : kS} (F : FX ΦR σ.sh σ.r) (w : (l1 = 0 → ((σ.i 0 96) = 0 → K (.inl (some (.int (-1)))) (σ.wi 0 110 (0 : Int32))) ∧ (¬ (σ.i 0 96) = 0 → K (.inl (some (.int (σ.i 0 79)))) (σ.wi 0 110 (0 : Int32)))) ∧ (l1 = 1 → ((σ.i 0 96) = 0 → K (.inl (some (.int (-1)))) (σ.wi 0 110 (0 : Int32))) ∧ (¬ (σ.i 0 96) = 0 → B_X23_kindIn_0 Z d (σ.wi 0 110 (0 : Int32)) (σ.l 0 97) (yI K fun v3 τ1 => K (.inl (some (.int v3))) τ1))) ∧ (l1 = 2 → ((σ.i 0 96) = 0 → K (.inl (some (.int 0))) (σ.wi 0 110 (0 : Int32))) ∧ (¬ (σ.i 0 96) = 0 → K (.inl (some (.int ((Int64.toInt32 (σ.l 0 97)))))) (σ.wi 0 110 (0 : Int32)))) ∧ (l1 = 3 → K (.inl (some (.int (σ.i 0 80)))) (σ.wi 0 110 (0 : Int32))) ∧ (l1 = 4 → K (.inl (some (.int (σ.i 0 85)))) (σ.wi 0 110 (0 : Int32))) ∧ (l1 = 5 → K (.inl (some (.int (σ.i 0 86)))) (σ.wi 0 110 (0 : Int32))) ∧ (l1 = 6 → K (.inl (some (.int (σ.i 0 84)))) (σ.wi 0 110 (0 : Int32))) ∧ (¬ l1 = 0 → ¬ l1 = 1 → ¬ l1 = 2 → ¬ l1 = 3 → ¬ l1 = 4 → ¬ l1 = 5 → ¬ l1 = 6 → B_X23_no__0 Z d (σ.wi 0 110 (0 : Int32)) 1 (yI K fun v6 τ4 => K (.inl (some (.int v6))) τ4))) : B_X23_told_0 Z (d + 1) σ l1 K := by
  unfold B_X23_told_0
  refine ab_fin.s2 (i := .aload_n 0) (k := 1) (pc' := 1) (lv' := [(0, .ref 0), (1, .int l1)]) (st' := [.ref 0]) (by decide +kernel) rfl rfl ?_
  refine ab_fin.s1i (i := .iconst 0) (k := 1) (pc' := 2) (n := 0) (by decide +kernel) rfl (by decide +kernel) rfl ?_
  refine ab_fin.q_pF (ix := 1000) (ci := 24) (k := 110) (h1 := conc (σ.wi 0 110 (0 : Int32))) (pc' := 5) (by decide +kernel) rfl (c_pI (v := 0) (F.s s0_0) rfl) rfl rfl rfl ?_
  refine ab_fin.s2 (i := .iload_n 1) (k := 1) (pc' := 6) (lv' := [(0, .ref 0), (1, .int l1)]) (st' := [.int l1]) (by decide +kernel) rfl rfl ?_
  by_cases q0 : l1 = 0
  · refine ab_fin.s3 (i := .tableswitch 114 0 6 #[42, 58, 77, 94, 99, 104, 109]) (k := 42) (t := 48) (st' := []) (by decide +kernel) (by rw [q0]; exact ab_swI (off := 42) (by decide +kernel) (by decide +kernel) (by decide +kernel)) ?_
    replace w := w.1 q0
    refine ab_fin.s2 (i := .aload_n 0) (k := 1) (pc' := 49) (lv' := [(0, .ref 0), (1, .int l1)]) (st' := [.ref 0]) (by decide +kernel) rfl rfl ?_
    refine ab_fin.q_rI (x := (σ.i 0 96)) (ix := 879) (ci := 24) (k := 96) (pc' := 52) (by decide +kernel) rfl (c_rI (F.s s0_0) rfl) rfl ?_
    refine ab_fin.br (c := (σ.i 0 96) = 0) (i := .ifCond .eq 10) (off := 10) (t := 62) (pc' := 55) (r := []) (by decide +kernel) rfl (by decide +kernel) rfl (fun q => ?_) (fun q => ?_)
    · replace w := w.1 q
      refine ab_fin.s1i (i := .iconst (-1)) (k := 1) (pc' := 63) (n := (-1)) (by decide +kernel) rfl (by decide +kernel) rfl ?_
      exact ab_fin.q_ret (i := .ireturn) (k := 1) (v := some (.int (-1))) (by decide +kernel) rfl F w
    · replace w := w.2 q
      refine ab_fin.s2 (i := .aload_n 0) (k := 1) (pc' := 56) (lv' := [(0, .ref 0), (1, .int l1)]) (st' := [.ref 0]) (by decide +kernel) rfl rfl ?_
      refine ab_fin.q_rI (x := (σ.i 0 79)) (ix := 755) (ci := 24) (k := 79) (pc' := 59) (by decide +kernel) rfl (c_rI (F.s s0_0) rfl) rfl ?_
      refine ab_fin.s3 (i := .goto 4) (k := 3) (t := 63) (st' := [.int (σ.i 0 79)]) (by decide +kernel) (ab_gto (by decide +kernel)) ?_
      exact ab_fin.q_ret (i := .ireturn) (k := 1) (v := some (.int (σ.i 0 79))) (by decide +kernel) rfl F w
  by_cases q1 : l1 = 1
  · refine ab_fin.s3 (i := .tableswitch 114 0 6 #[42, 58, 77, 94, 99, 104, 109]) (k := 42) (t := 64) (st' := []) (by decide +kernel) (by rw [q1]; exact ab_swI (off := 58) (by decide +kernel) (by decide +kernel) (by decide +kernel)) ?_
    replace w := w.2.1 q1
    refine ab_fin.s2 (i := .aload_n 0) (k := 1) (pc' := 65) (lv' := [(0, .ref 0), (1, .int l1)]) (st' := [.ref 0]) (by decide +kernel) rfl rfl ?_
    refine ab_fin.q_rI (x := (σ.i 0 96)) (ix := 879) (ci := 24) (k := 96) (pc' := 68) (by decide +kernel) rfl (c_rI (F.s s0_0) rfl) rfl ?_
    refine ab_fin.br (c := (σ.i 0 96) = 0) (i := .ifCond .eq 13) (off := 13) (t := 81) (pc' := 71) (r := []) (by decide +kernel) rfl (by decide +kernel) rfl (fun q => ?_) (fun q => ?_)
    · replace w := w.1 q
      refine ab_fin.s1i (i := .iconst (-1)) (k := 1) (pc' := 82) (n := (-1)) (by decide +kernel) rfl (by decide +kernel) rfl ?_
      exact ab_fin.q_ret (i := .ireturn) (k := 1) (v := some (.int (-1))) (by decide +kernel) rfl F w
    · replace w := w.2 q
      refine ab_fin.s2 (i := .aload_n 0) (k := 1) (pc' := 72) (lv' := [(0, .ref 0), (1, .int l1)]) (st' := [.ref 0]) (by decide +kernel) rfl rfl ?_
      refine ab_fin.q_rL (x := (σ.l 0 97)) (ix := 882) (ci := 24) (k := 97) (pc' := 75) (by decide +kernel) rfl (c_rL (F.s s0_0) rfl) rfl ?_
      refine ab_fin.q_yI (i := .invokestatic 798) (k := 3) (y := 5974) (As := [.long (σ.l 0 97)]) (rest := []) (M' := (mX23_kindIn, [])) (lv2 := [(0, .long (σ.l 0 97))]) (pc' := 78) (X := K) (by decide +kernel) (ab_cs rfl rfl ⟨(Nat.le_of_ble_eq_true rfl), (Nat.le_of_ble_eq_true rfl)⟩ rfl) rfl (Nat.le_of_ble_eq_true rfl) rfl rfl (hY_no fun E => rfl) w (fun v3 τ1 F2 w => ?_)
      refine ab_fin.s3 (i := .goto 4) (k := 3) (t := 82) (st' := [.int v3]) (by decide +kernel) (ab_gto (by decide +kernel)) ?_
      exact ab_fin.q_ret (i := .ireturn) (k := 1) (v := some (.int v3)) (by decide +kernel) rfl F2 w
  by_cases q2 : l1 = 2
  · refine ab_fin.s3 (i := .tableswitch 114 0 6 #[42, 58, 77, 94, 99, 104, 109]) (k := 42) (t := 83) (st' := []) (by decide +kernel) (by rw [q2]; exact ab_swI (off := 77) (by decide +kernel) (by decide +kernel) (by decide +kernel)) ?_
    replace w := w.2.2.1 q2
    refine ab_fin.s2 (i := .aload_n 0) (k := 1) (pc' := 84) (lv' := [(0, .ref 0), (1, .int l1)]) (st' := [.ref 0]) (by decide +kernel) rfl rfl ?_
    refine ab_fin.q_rI (x := (σ.i 0 96)) (ix := 879) (ci := 24) (k := 96) (pc' := 87) (by decide +kernel) rfl (c_rI (F.s s0_0) rfl) rfl ?_
    refine ab_fin.br (c := (σ.i 0 96) = 0) (i := .ifCond .eq 11) (off := 11) (t := 98) (pc' := 90) (r := []) (by decide +kernel) rfl (by decide +kernel) rfl (fun q => ?_) (fun q => ?_)
    · replace w := w.1 q
      refine ab_fin.s1i (i := .iconst 0) (k := 1) (pc' := 99) (n := 0) (by decide +kernel) rfl (by decide +kernel) rfl ?_
      exact ab_fin.q_ret (i := .ireturn) (k := 1) (v := some (.int 0)) (by decide +kernel) rfl F w
    · replace w := w.2 q
      refine ab_fin.s2 (i := .aload_n 0) (k := 1) (pc' := 91) (lv' := [(0, .ref 0), (1, .int l1)]) (st' := [.ref 0]) (by decide +kernel) rfl rfl ?_
      refine ab_fin.q_rL (x := (σ.l 0 97)) (ix := 882) (ci := 24) (k := 97) (pc' := 94) (by decide +kernel) rfl (c_rL (F.s s0_0) rfl) rfl ?_
      refine ab_fin.s1 (i := .l2i) (k := 1) (pc' := 95) (st' := [.int ((Int64.toInt32 (σ.l 0 97)))]) (by decide +kernel) rfl rfl ?_
      refine ab_fin.s3 (i := .goto 4) (k := 3) (t := 99) (st' := [.int ((Int64.toInt32 (σ.l 0 97)))]) (by decide +kernel) (ab_gto (by decide +kernel)) ?_
      exact ab_fin.q_ret (i := .ireturn) (k := 1) (v := some (.int ((Int64.toInt32 (σ.l 0 97))))) (by decide +kernel) rfl F w
  by_cases q3 : l1 = 3
  · refine ab_fin.s3 (i := .tableswitch 114 0 6 #[42, 58, 77, 94, 99, 104, 109]) (k := 42) (t := 100) (st' := []) (by decide +kernel) (by rw [q3]; exact ab_swI (off := 94) (by decide +kernel) (by decide +kernel) (by decide +kernel)) ?_
    replace w := w.2.2.2.1 q3
    refine ab_fin.s2 (i := .aload_n 0) (k := 1) (pc' := 101) (lv' := [(0, .ref 0), (1, .int l1)]) (st' := [.ref 0]) (by decide +kernel) rfl rfl ?_
    refine ab_fin.q_rI (x := (σ.i 0 80)) (ix := 762) (ci := 24) (k := 80) (pc' := 104) (by decide +kernel) rfl (c_rI (F.s s0_0) rfl) rfl ?_
    exact ab_fin.q_ret (i := .ireturn) (k := 1) (v := some (.int (σ.i 0 80))) (by decide +kernel) rfl F w
  by_cases q4 : l1 = 4
  · refine ab_fin.s3 (i := .tableswitch 114 0 6 #[42, 58, 77, 94, 99, 104, 109]) (k := 42) (t := 105) (st' := []) (by decide +kernel) (by rw [q4]; exact ab_swI (off := 99) (by decide +kernel) (by decide +kernel) (by decide +kernel)) ?_
    replace w := w.2.2.2.2.1 q4
    refine ab_fin.s2 (i := .aload_n 0) (k := 1) (pc' := 106) (lv' := [(0, .ref 0), (1, .int l1)]) (st' := [.ref 0]) (by decide +kernel) rfl rfl ?_
    refine ab_fin.q_rI (x := (σ.i 0 85)) (ix := 792) (ci := 24) (k := 85) (pc' := 109) (by decide +kernel) rfl (c_rI (F.s s0_0) rfl) rfl ?_
    exact ab_fin.q_ret (i := .ireturn) (k := 1) (v := some (.int (σ.i 0 85))) (by decide +kernel) rfl F w
  by_cases q5 : l1 = 5
  · refine ab_fin.s3 (i := .tableswitch 114 0 6 #[42, 58, 77, 94, 99, 104, 109]) (k := 42) (t := 110) (st' := []) (by decide +kernel) (by rw [q5]; exact ab_swI (off := 104) (by decide +kernel) (by decide +kernel) (by decide +kernel)) ?_
    replace w := w.2.2.2.2.2.1 q5
    refine ab_fin.s2 (i := .aload_n 0) (k := 1) (pc' := 111) (lv' := [(0, .ref 0), (1, .int l1)]) (st' := [.ref 0]) (by decide +kernel) rfl rfl ?_
    refine ab_fin.q_rI (x := (σ.i 0 86)) (ix := 859) (ci := 24) (k := 86) (pc' := 114) (by decide +kernel) rfl (c_rI (F.s s0_0) rfl) rfl ?_
    exact ab_fin.q_ret (i := .ireturn) (k := 1) (v := some (.int (σ.i 0 86))) (by decide +kernel) rfl F w
  by_cases q6 : l1 = 6
  · refine ab_fin.s3 (i := .tableswitch 114 0 6 #[42, 58, 77, 94, 99, 104, 109]) (k := 42) (t := 115) (st' := []) (by decide +kernel) (by rw [q6]; exact ab_swI (off := 109) (by decide +kernel) (by decide +kernel) (by decide +kernel)) ?_
    replace w := w.2.2.2.2.2.2.1 q6
    refine ab_fin.s2 (i := .aload_n 0) (k := 1) (pc' := 116) (lv' := [(0, .ref 0), (1, .int l1)]) (st' := [.ref 0]) (by decide +kernel) rfl rfl ?_
    refine ab_fin.q_rI (x := (σ.i 0 84)) (ix := 822) (ci := 24) (k := 84) (pc' := 119) (by decide +kernel) rfl (c_rI (F.s s0_0) rfl) rfl ?_
    exact ab_fin.q_ret (i := .ireturn) (k := 1) (v := some (.int (σ.i 0 84))) (by decide +kernel) rfl F w
  have hsw : ab_s3 (.tableswitch 114 0 6 #[42, 58, 77, 94, 99, 104, 109]) 42 6 (.int l1 :: []) = some (120, []) := by
    clear w
    have qd : Int32.toInt l1 < 0 ∨ 6 < Int32.toInt l1 := by
      simp only [← Int32.toInt_inj, show (0 : Int32).toInt = 0 from rfl, show (1 : Int32).toInt = 1 from rfl, show (2 : Int32).toInt = 2 from rfl, show (3 : Int32).toInt = 3 from rfl, show (4 : Int32).toInt = 4 from rfl, show (5 : Int32).toInt = 5 from rfl, show (6 : Int32).toInt = 6 from rfl] at q0 q1 q2 q3 q4 q5 q6 
      omega
    exact ab_swD qd (by decide +kernel)
  refine ab_fin.s3 (i := .tableswitch 114 0 6 #[42, 58, 77, 94, 99, 104, 109]) (k := 42) (t := 120) (st' := []) (by decide +kernel) hsw ?_
  replace w := w.2.2.2.2.2.2.2 q0 q1 q2 q3 q4 q5 q6
  refine ab_fin.s2 (i := .aload_n 0) (k := 1) (pc' := 121) (lv' := [(0, .ref 0), (1, .int l1)]) (st' := [.ref 0]) (by decide +kernel) rfl rfl ?_
  refine ab_fin.s1i (i := .iconst 1) (k := 1) (pc' := 122) (n := 1) (by decide +kernel) rfl (by decide +kernel) rfl ?_
  refine ab_fin.q_yI (i := .invokevirtual 1003) (k := 3) (y := 5993) (As := [.ref 0, .int 1]) (rest := []) (M' := (mX23_no_, [])) (lv2 := [(0, .ref 0), (1, .int 1)]) (pc' := 125) (X := K) (by decide +kernel) (ab_cv rfl rfl (conc_get (σ := (σ.wi 0 110 (0 : Int32))) (F.s s0_0)) ⟨(Nat.le_of_ble_eq_true rfl), (Nat.le_of_ble_eq_true rfl)⟩ rfl) rfl (Nat.le_of_ble_eq_true rfl) rfl rfl (hY_no fun E => rfl) w (fun v6 τ4 F5 w => ?_)
  exact ab_fin.q_ret (i := .ireturn) (k := 1) (v := some (.int v6)) (by decide +kernel) rfl F5 w
theorem S_X23_shown_0 {Z : zT} {d : Nat} {σ : Sg} {l1 : Int32} {K : kS} (F : FX ΦR σ.sh σ.r) (w : (l1 < 0 → B_X23_no__0 Z d (σ.wi 0 110 (0 : Int32)) 1 (yI K fun v3 τ1 => K (.inl (some (.int v3))) τ1)) ∧ (¬ l1 < 0 → ((σ.i 0 85) ≤ l1 → B_X23_no__0 Z d (σ.wi 0 110 (0 : Int32)) 1 (yI K fun v6 τ4 => K (.inl (some (.int v6))) τ4)) ∧ (¬ (σ.i 0 85) ≤ l1 → ib l1 512 ∧ (K (.inl (some (.int (σ.i 2134 l1.toNatClampNeg)))) (σ.wi 0 110 (0 : Int32)))))) : B_X23_shown_0 Z (d + 1) σ l1 K := by
  unfold B_X23_shown_0
  refine ab_fin.s2 (i := .aload_n 0) (k := 1) (pc' := 1) (lv' := [(0, .ref 0), (1, .int l1)]) (st' := [.ref 0]) (by decide +kernel) rfl rfl ?_
  refine ab_fin.s1i (i := .iconst 0) (k := 1) (pc' := 2) (n := 0) (by decide +kernel) rfl (by decide +kernel) rfl ?_
  refine ab_fin.q_pF (ix := 1000) (ci := 24) (k := 110) (h1 := conc (σ.wi 0 110 (0 : Int32))) (pc' := 5) (by decide +kernel) rfl (c_pI (v := 0) (F.s s0_0) rfl) rfl rfl rfl ?_
  refine ab_fin.s2 (i := .iload_n 1) (k := 1) (pc' := 6) (lv' := [(0, .ref 0), (1, .int l1)]) (st' := [.int l1]) (by decide +kernel) rfl rfl ?_
  refine ab_fin.br (c := l1 < 0) (i := .ifCond .lt 20) (off := 20) (t := 26) (pc' := 9) (r := []) (by decide +kernel) rfl (by decide +kernel) rfl (fun q => ?_) (fun q => ?_)
  · replace w := w.1 q
    refine ab_fin.s2 (i := .aload_n 0) (k := 1) (pc' := 27) (lv' := [(0, .ref 0), (1, .int l1)]) (st' := [.ref 0]) (by decide +kernel) rfl rfl ?_
    refine ab_fin.s1i (i := .iconst 1) (k := 1) (pc' := 28) (n := 1) (by decide +kernel) rfl (by decide +kernel) rfl ?_
    refine ab_fin.q_yI (i := .invokevirtual 1003) (k := 3) (y := 5993) (As := [.ref 0, .int 1]) (rest := []) (M' := (mX23_no_, [])) (lv2 := [(0, .ref 0), (1, .int 1)]) (pc' := 31) (X := K) (by decide +kernel) (ab_cv rfl rfl (conc_get (σ := (σ.wi 0 110 (0 : Int32))) (F.s s0_0)) ⟨(Nat.le_of_ble_eq_true rfl), (Nat.le_of_ble_eq_true rfl)⟩ rfl) rfl (Nat.le_of_ble_eq_true rfl) rfl rfl (hY_no fun E => rfl) w (fun v3 τ1 F2 w => ?_)
    exact ab_fin.q_ret (i := .ireturn) (k := 1) (v := some (.int v3)) (by decide +kernel) rfl F2 w
  · replace w := w.2 q
    refine ab_fin.s2 (i := .iload_n 1) (k := 1) (pc' := 10) (lv' := [(0, .ref 0), (1, .int l1)]) (st' := [.int l1]) (by decide +kernel) rfl rfl ?_
    refine ab_fin.s2 (i := .aload_n 0) (k := 1) (pc' := 11) (lv' := [(0, .ref 0), (1, .int l1)]) (st' := [.ref 0, .int l1]) (by decide +kernel) rfl rfl ?_
    refine ab_fin.q_rI (x := (σ.i 0 85)) (ix := 792) (ci := 24) (k := 85) (pc' := 14) (by decide +kernel) rfl (c_rI (F.s s0_0) rfl) rfl ?_
    refine ab_fin.br (c := (σ.i 0 85) ≤ l1) (i := .if_icmp .ge 12) (off := 12) (t := 26) (pc' := 17) (r := []) (by decide +kernel) rfl (by decide +kernel) rfl (fun q => ?_) (fun q => ?_)
    · replace w := w.1 q
      refine ab_fin.s2 (i := .aload_n 0) (k := 1) (pc' := 27) (lv' := [(0, .ref 0), (1, .int l1)]) (st' := [.ref 0]) (by decide +kernel) rfl rfl ?_
      refine ab_fin.s1i (i := .iconst 1) (k := 1) (pc' := 28) (n := 1) (by decide +kernel) rfl (by decide +kernel) rfl ?_
      refine ab_fin.q_yI (i := .invokevirtual 1003) (k := 3) (y := 5993) (As := [.ref 0, .int 1]) (rest := []) (M' := (mX23_no_, [])) (lv2 := [(0, .ref 0), (1, .int 1)]) (pc' := 31) (X := K) (by decide +kernel) (ab_cv rfl rfl (conc_get (σ := (σ.wi 0 110 (0 : Int32))) (F.s s0_0)) ⟨(Nat.le_of_ble_eq_true rfl), (Nat.le_of_ble_eq_true rfl)⟩ rfl) rfl (Nat.le_of_ble_eq_true rfl) rfl rfl (hY_no fun E => rfl) w (fun v6 τ4 F5 w => ?_)
      exact ab_fin.q_ret (i := .ireturn) (k := 1) (v := some (.int v6)) (by decide +kernel) rfl F5 w
    · replace w := w.2 q
      refine ab_fin.s2 (i := .aload_n 0) (k := 1) (pc' := 18) (lv' := [(0, .ref 0), (1, .int l1)]) (st' := [.ref 0]) (by decide +kernel) rfl rfl ?_
      refine ab_fin.q_rA (b := 2134) (ix := 795) (ci := 24) (k := 88) (pc' := 21) (by decide +kernel) rfl (c_rA (F.s s0_0) rfl (rM_88 F)) rfl ?_
      refine ab_fin.s2 (i := .iload_n 1) (k := 1) (pc' := 22) (lv' := [(0, .ref 0), (1, .int l1)]) (st' := [.int l1, .ref 2134]) (by decide +kernel) rfl rfl ?_
      obtain ⟨e7, w⟩ := w
      refine ab_fin.q_eI (x := (σ.i 2134 l1.toNatClampNeg)) (pc' := 23) (by decide +kernel) (c_eI' (F.s s0_2134) e7 rfl) rfl ?_
      refine ab_fin.s3 (i := .goto 8) (k := 3) (t := 31) (st' := [.int (σ.i 2134 l1.toNatClampNeg)]) (by decide +kernel) (ab_gto (by decide +kernel)) ?_
      exact ab_fin.q_ret (i := .ireturn) (k := 1) (v := some (.int (σ.i 2134 l1.toNatClampNeg))) (by decide +kernel) rfl F w
theorem S_X23_ran_0 {Z : zT} {d : Nat} {σ : Sg}  {K : kS} (F : FX ΦR σ.sh σ.r) (w : (¬ (σ.i 0 96) = 0 → B_X23_ran_31 Z (d + 1) (σ.wi 0 110 (0 : Int32)) (if (512 : Int32) < (σ.i 0 86) then (512 : Int32) else (σ.i 0 86)) 0 K) ∧ ((σ.i 0 96) = 0 → B_X23_no__0 Z d (σ.wi 0 110 (0 : Int32)) 1 (yI K fun v3 τ1 => K (.inl (some (.int v3))) τ1))) : B_X23_ran_0 Z (d + 1) σ  K := by
  unfold B_X23_ran_0
  refine ab_fin.s2 (i := .aload_n 0) (k := 1) (pc' := 1) (lv' := [(0, .ref 0)]) (st' := [.ref 0]) (by decide +kernel) rfl rfl ?_
  refine ab_fin.s1i (i := .iconst 0) (k := 1) (pc' := 2) (n := 0) (by decide +kernel) rfl (by decide +kernel) rfl ?_
  refine ab_fin.q_pF (ix := 1000) (ci := 24) (k := 110) (h1 := conc (σ.wi 0 110 (0 : Int32))) (pc' := 5) (by decide +kernel) rfl (c_pI (v := 0) (F.s s0_0) rfl) rfl rfl rfl ?_
  refine ab_fin.s2 (i := .aload_n 0) (k := 1) (pc' := 6) (lv' := [(0, .ref 0)]) (st' := [.ref 0]) (by decide +kernel) rfl rfl ?_
  refine ab_fin.q_rI (x := (σ.i 0 96)) (ix := 879) (ci := 24) (k := 96) (pc' := 9) (by decide +kernel) rfl (c_rI (F.s s0_0) rfl) rfl ?_
  refine ab_fin.br (c := ¬ (σ.i 0 96) = 0) (i := .ifCond .ne 9) (off := 9) (t := 18) (pc' := 12) (r := []) (by decide +kernel) rfl (by decide +kernel) rfl (fun q => ?_) (fun q => ?_)
  · replace w := w.1 q
    refine ab_fin.s2 (i := .aload_n 0) (k := 1) (pc' := 19) (lv' := [(0, .ref 0)]) (st' := [.ref 0]) (by decide +kernel) rfl rfl ?_
    refine ab_fin.q_rI (x := (σ.i 0 86)) (ix := 859) (ci := 24) (k := 86) (pc' := 22) (by decide +kernel) rfl (c_rI (F.s s0_0) rfl) rfl ?_
    refine ab_fin.s1i (i := .sipush 512) (k := 3) (pc' := 25) (n := 512) (by decide +kernel) rfl (by decide +kernel) rfl ?_
    refine ab_fin.cpy (i := .invokestatic 877) (k := 3) (pc' := 28) (h1 := conc (σ.wi 0 110 (0 : Int32))) (st' := [.int (if (512 : Int32) < (σ.i 0 86) then (512 : Int32) else (σ.i 0 86))]) (by decide +kernel) rfl rfl ?_
    refine ab_fin.s2 (i := .istore_n 1) (k := 1) (pc' := 29) (lv' := [(1, .int (if (512 : Int32) < (σ.i 0 86) then (512 : Int32) else (σ.i 0 86))), (0, .ref 0)]) (st' := []) (by decide +kernel) rfl rfl ?_
    refine ab_fin.s1i (i := .iconst 0) (k := 1) (pc' := 30) (n := 0) (by decide +kernel) rfl (by decide +kernel) rfl ?_
    refine ab_fin.s2 (i := .istore_n 2) (k := 1) (pc' := 31) (lv' := [(2, .int 0), (1, .int (if (512 : Int32) < (σ.i 0 86) then (512 : Int32) else (σ.i 0 86))), (0, .ref 0)]) (st' := []) (by decide +kernel) rfl rfl ?_
    exact ab_fin.lv ⟨(List.forall_mem_cons.mpr ⟨(List.Mem.tail _ (List.Mem.tail _ (List.Mem.head _))), (List.forall_mem_cons.mpr ⟨(List.Mem.tail _ (List.Mem.head _)), (List.forall_mem_cons.mpr ⟨(List.Mem.head _), (fun _ h => absurd h List.not_mem_nil)⟩)⟩)⟩), (show ([2, 1, 0] : List Nat).Nodup from by decide)⟩ w
  · replace w := w.2 (Decidable.of_not_not q)
    refine ab_fin.s2 (i := .aload_n 0) (k := 1) (pc' := 13) (lv' := [(0, .ref 0)]) (st' := [.ref 0]) (by decide +kernel) rfl rfl ?_
    refine ab_fin.s1i (i := .iconst 1) (k := 1) (pc' := 14) (n := 1) (by decide +kernel) rfl (by decide +kernel) rfl ?_
    refine ab_fin.q_yI (i := .invokevirtual 1003) (k := 3) (y := 5993) (As := [.ref 0, .int 1]) (rest := []) (M' := (mX23_no_, [])) (lv2 := [(0, .ref 0), (1, .int 1)]) (pc' := 17) (X := K) (by decide +kernel) (ab_cv rfl rfl (conc_get (σ := (σ.wi 0 110 (0 : Int32))) (F.s s0_0)) ⟨(Nat.le_of_ble_eq_true rfl), (Nat.le_of_ble_eq_true rfl)⟩ rfl) rfl (Nat.le_of_ble_eq_true rfl) rfl rfl (hY_no fun E => rfl) w (fun v3 τ1 F2 w => ?_)
    exact ab_fin.q_ret (i := .ireturn) (k := 1) (v := some (.int v3)) (by decide +kernel) rfl F2 w
theorem S_X23_ran_31 {Z : zT} {d : Nat} {σ : Sg} {l1 : Int32} {l2 : Int32} {K : kS} (F : FX ΦR σ.sh σ.r) (w : (l1 ≤ l2 → K (.inl (some (.int ((2 : Int32) * l1)))) (σ.wi 0 111 ((2 : Int32) * l1))) ∧ (¬ l1 ≤ l2 → ib l2 512 ∧ (ib ((2 : Int32) * l2) 1024 ∧ (ib l2 512 ∧ (ib (((2 : Int32) * l2) + (1 : Int32)) 1024 ∧ (B_X23_ran_31 Z (d + 1) ((σ.wi 2191 (((2 : Int32) * l2).toNatClampNeg) (vp_nar .byte ((Int32.toInt8 ((σ.i 2135 l2.toNatClampNeg) >>> ((8 : Int32) &&& 31))).toInt32))).wi 2191 ((((2 : Int32) * l2) + (1 : Int32)).toNatClampNeg) (vp_nar .byte ((Int32.toInt8 (σ.i 2135 l2.toNatClampNeg)).toInt32))) l1 (l2 + 1) K)))))) : B_X23_ran_31 Z (d + 1) σ l1 l2 K := by
  unfold B_X23_ran_31
  refine ab_fin.s2 (i := .iload_n 2) (k := 1) (pc' := 32) (lv' := [(0, .ref 0), (1, .int l1), (2, .int l2)]) (st' := [.int l2]) (by decide +kernel) rfl rfl ?_
  refine ab_fin.s2 (i := .iload_n 1) (k := 1) (pc' := 33) (lv' := [(0, .ref 0), (1, .int l1), (2, .int l2)]) (st' := [.int l1, .int l2]) (by decide +kernel) rfl rfl ?_
  refine ab_fin.br (c := l1 ≤ l2) (i := .if_icmp .ge 44) (off := 44) (t := 77) (pc' := 36) (r := []) (by decide +kernel) rfl (by decide +kernel) rfl (fun q => ?_) (fun q => ?_)
  · replace w := w.1 q
    refine ab_fin.s2 (i := .aload_n 0) (k := 1) (pc' := 78) (lv' := [(0, .ref 0), (1, .int l1), (2, .int l2)]) (st' := [.ref 0]) (by decide +kernel) rfl rfl ?_
    refine ab_fin.s1i (i := .iconst 2) (k := 1) (pc' := 79) (n := 2) (by decide +kernel) rfl (by decide +kernel) rfl ?_
    refine ab_fin.s2 (i := .iload_n 1) (k := 1) (pc' := 80) (lv' := [(0, .ref 0), (1, .int l1), (2, .int l2)]) (st' := [.int l1, .int 2, .ref 0]) (by decide +kernel) rfl rfl ?_
    refine ab_fin.s1 (i := .imul) (k := 1) (pc' := 81) (st' := [.int ((2 : Int32) * l1), .ref 0]) (by decide +kernel) rfl rfl ?_
    refine ab_fin.q_pF (ix := 1015) (ci := 24) (k := 111) (h1 := conc (σ.wi 0 111 ((2 : Int32) * l1))) (pc' := 84) (by decide +kernel) rfl (c_pI (v := ((2 : Int32) * l1)) (F.s s0_0) rfl) rfl rfl rfl ?_
    refine ab_fin.s2 (i := .aload_n 0) (k := 1) (pc' := 85) (lv' := [(0, .ref 0), (1, .int l1), (2, .int l2)]) (st' := [.ref 0]) (by decide +kernel) rfl rfl ?_
    refine ab_fin.q_rI (x := ((2 : Int32) * l1)) (ix := 1015) (ci := 24) (k := 111) (pc' := 88) (by decide +kernel) rfl (c_rI (F.s s0_0) rfl) rfl ?_
    exact ab_fin.q_ret (i := .ireturn) (k := 1) (v := some (.int ((2 : Int32) * l1))) (by decide +kernel) rfl F w
  · replace w := w.2 q
    refine ab_fin.s2 (i := .aload_n 0) (k := 1) (pc' := 37) (lv' := [(0, .ref 0), (1, .int l1), (2, .int l2)]) (st' := [.ref 0]) (by decide +kernel) rfl rfl ?_
    refine ab_fin.q_rA (b := 2191) (ix := 972) (ci := 24) (k := 113) (pc' := 40) (by decide +kernel) rfl (c_rA (F.s s0_0) rfl (rM_113 F)) rfl ?_
    refine ab_fin.s1i (i := .iconst 2) (k := 1) (pc' := 41) (n := 2) (by decide +kernel) rfl (by decide +kernel) rfl ?_
    refine ab_fin.s2 (i := .iload_n 2) (k := 1) (pc' := 42) (lv' := [(0, .ref 0), (1, .int l1), (2, .int l2)]) (st' := [.int l2, .int 2, .ref 2191]) (by decide +kernel) rfl rfl ?_
    refine ab_fin.s1 (i := .imul) (k := 1) (pc' := 43) (st' := [.int ((2 : Int32) * l2), .ref 2191]) (by decide +kernel) rfl rfl ?_
    refine ab_fin.s2 (i := .aload_n 0) (k := 1) (pc' := 44) (lv' := [(0, .ref 0), (1, .int l1), (2, .int l2)]) (st' := [.ref 0, .int ((2 : Int32) * l2), .ref 2191]) (by decide +kernel) rfl rfl ?_
    refine ab_fin.q_rA (b := 2135) (ix := 862) (ci := 24) (k := 89) (pc' := 47) (by decide +kernel) rfl (c_rA (F.s s0_0) rfl (rM_89 F)) rfl ?_
    refine ab_fin.s2 (i := .iload_n 2) (k := 1) (pc' := 48) (lv' := [(0, .ref 0), (1, .int l1), (2, .int l2)]) (st' := [.int l2, .ref 2135, .int ((2 : Int32) * l2), .ref 2191]) (by decide +kernel) rfl rfl ?_
    obtain ⟨e1, w⟩ := w
    refine ab_fin.q_eI (x := (σ.i 2135 l2.toNatClampNeg)) (pc' := 49) (by decide +kernel) (c_eI' (F.s s0_2135) e1 rfl) rfl ?_
    refine ab_fin.s1i (i := .bipush 8) (k := 2) (pc' := 51) (n := 8) (by decide +kernel) rfl (by decide +kernel) rfl ?_
    refine ab_fin.s1 (i := .ishr) (k := 1) (pc' := 52) (st' := [.int ((σ.i 2135 l2.toNatClampNeg) >>> ((8 : Int32) &&& 31)), .int ((2 : Int32) * l2), .ref 2191]) (by decide +kernel) rfl rfl ?_
    refine ab_fin.s1 (i := .i2b) (k := 1) (pc' := 53) (st' := [.int ((Int32.toInt8 ((σ.i 2135 l2.toNatClampNeg) >>> ((8 : Int32) &&& 31))).toInt32), .int ((2 : Int32) * l2), .ref 2191]) (by decide +kernel) rfl rfl ?_
    obtain ⟨e2, w⟩ := w
    refine ab_fin.q_sB (h1 := conc (σ.wi 2191 (((2 : Int32) * l2).toNatClampNeg) (vp_nar .byte ((Int32.toInt8 ((σ.i 2135 l2.toNatClampNeg) >>> ((8 : Int32) &&& 31))).toInt32)))) (pc' := 54) (by decide +kernel) (c_sB2' (F.s s0_2191) e2 rfl) rfl ?_
    refine ab_fin.s2 (i := .aload_n 0) (k := 1) (pc' := 55) (lv' := [(0, .ref 0), (1, .int l1), (2, .int l2)]) (st' := [.ref 0]) (by decide +kernel) rfl rfl ?_
    refine ab_fin.q_rA (b := 2191) (ix := 972) (ci := 24) (k := 113) (pc' := 58) (by decide +kernel) rfl (c_rA (F.s s0_0) rfl (rM_113 F)) rfl ?_
    refine ab_fin.s1i (i := .iconst 2) (k := 1) (pc' := 59) (n := 2) (by decide +kernel) rfl (by decide +kernel) rfl ?_
    refine ab_fin.s2 (i := .iload_n 2) (k := 1) (pc' := 60) (lv' := [(0, .ref 0), (1, .int l1), (2, .int l2)]) (st' := [.int l2, .int 2, .ref 2191]) (by decide +kernel) rfl rfl ?_
    refine ab_fin.s1 (i := .imul) (k := 1) (pc' := 61) (st' := [.int ((2 : Int32) * l2), .ref 2191]) (by decide +kernel) rfl rfl ?_
    refine ab_fin.s1i (i := .iconst 1) (k := 1) (pc' := 62) (n := 1) (by decide +kernel) rfl (by decide +kernel) rfl ?_
    refine ab_fin.s1 (i := .iadd) (k := 1) (pc' := 63) (st' := [.int (((2 : Int32) * l2) + (1 : Int32)), .ref 2191]) (by decide +kernel) rfl rfl ?_
    refine ab_fin.s2 (i := .aload_n 0) (k := 1) (pc' := 64) (lv' := [(0, .ref 0), (1, .int l1), (2, .int l2)]) (st' := [.ref 0, .int (((2 : Int32) * l2) + (1 : Int32)), .ref 2191]) (by decide +kernel) rfl rfl ?_
    refine ab_fin.q_rA (b := 2135) (ix := 862) (ci := 24) (k := 89) (pc' := 67) (by decide +kernel) rfl (c_rA (F.s s0_0) rfl (rM_89 F)) rfl ?_
    refine ab_fin.s2 (i := .iload_n 2) (k := 1) (pc' := 68) (lv' := [(0, .ref 0), (1, .int l1), (2, .int l2)]) (st' := [.int l2, .ref 2135, .int (((2 : Int32) * l2) + (1 : Int32)), .ref 2191]) (by decide +kernel) rfl rfl ?_
    obtain ⟨e3, w⟩ := w
    refine ab_fin.q_eI (x := (σ.i 2135 l2.toNatClampNeg)) (pc' := 69) (by decide +kernel) (c_eI' (F.s s0_2135) e3 rfl) rfl ?_
    refine ab_fin.s1 (i := .i2b) (k := 1) (pc' := 70) (st' := [.int ((Int32.toInt8 (σ.i 2135 l2.toNatClampNeg)).toInt32), .int (((2 : Int32) * l2) + (1 : Int32)), .ref 2191]) (by decide +kernel) rfl rfl ?_
    obtain ⟨e4, w⟩ := w
    refine ab_fin.q_sB (h1 := conc ((σ.wi 2191 (((2 : Int32) * l2).toNatClampNeg) (vp_nar .byte ((Int32.toInt8 ((σ.i 2135 l2.toNatClampNeg) >>> ((8 : Int32) &&& 31))).toInt32))).wi 2191 ((((2 : Int32) * l2) + (1 : Int32)).toNatClampNeg) (vp_nar .byte ((Int32.toInt8 (σ.i 2135 l2.toNatClampNeg)).toInt32)))) (pc' := 71) (by decide +kernel) (c_sB2' (F.s s0_2191) e4 rfl) rfl ?_
    refine ab_fin.q_inc (n := 2) (c := 1) (pc' := 74) (lv' := [(2, .int (l2 + 1)), (0, .ref 0), (1, .int l1)]) (by decide +kernel) (by decide) rfl rfl rfl rfl ?_
    refine ab_fin.s3 (i := .goto (-43)) (k := 3) (t := 31) (st' := []) (by decide +kernel) (ab_gto (by decide +kernel)) ?_
    exact ab_fin.lv ⟨(List.forall_mem_cons.mpr ⟨(List.Mem.tail _ (List.Mem.head _)), (List.forall_mem_cons.mpr ⟨(List.Mem.tail _ (List.Mem.tail _ (List.Mem.head _))), (List.forall_mem_cons.mpr ⟨(List.Mem.head _), (fun _ h => absurd h List.not_mem_nil)⟩)⟩)⟩), (show ([2, 0, 1] : List Nat).Nodup from by decide)⟩ w
theorem S_X23_word___0 {Z : zT} {d : Nat} {σ : Sg} {l1 : Int32} {K : kS} (F : FX ΦR σ.sh σ.r) (w : (l1 < 0 → B_X23_no__0 Z d (σ.wi 0 110 (0 : Int32)) 1 (yI K fun v3 τ1 => K (.inl (some (.long ((Int32.toInt64 v3))))) τ1)) ∧ (¬ l1 < 0 → (l1 < (σ.i 0 111) → B_X23_word___29 Z (d + 1) (σ.wi 0 110 (0 : Int32)) l1 0 0 K) ∧ (¬ l1 < (σ.i 0 111) → B_X23_no__0 Z d (σ.wi 0 110 (0 : Int32)) 1 (yI K fun v6 τ4 => K (.inl (some (.long ((Int32.toInt64 v6))))) τ4)))) : B_X23_word___0 Z (d + 1) σ l1 K := by
  unfold B_X23_word___0
  refine ab_fin.s2 (i := .aload_n 0) (k := 1) (pc' := 1) (lv' := [(0, .ref 0), (1, .int l1)]) (st' := [.ref 0]) (by decide +kernel) rfl rfl ?_
  refine ab_fin.s1i (i := .iconst 0) (k := 1) (pc' := 2) (n := 0) (by decide +kernel) rfl (by decide +kernel) rfl ?_
  refine ab_fin.q_pF (ix := 1000) (ci := 24) (k := 110) (h1 := conc (σ.wi 0 110 (0 : Int32))) (pc' := 5) (by decide +kernel) rfl (c_pI (v := 0) (F.s s0_0) rfl) rfl rfl rfl ?_
  refine ab_fin.s2 (i := .iload_n 1) (k := 1) (pc' := 6) (lv' := [(0, .ref 0), (1, .int l1)]) (st' := [.int l1]) (by decide +kernel) rfl rfl ?_
  refine ab_fin.br (c := l1 < 0) (i := .ifCond .lt 11) (off := 11) (t := 17) (pc' := 9) (r := []) (by decide +kernel) rfl (by decide +kernel) rfl (fun q => ?_) (fun q => ?_)
  · replace w := w.1 q
    refine ab_fin.s2 (i := .aload_n 0) (k := 1) (pc' := 18) (lv' := [(0, .ref 0), (1, .int l1)]) (st' := [.ref 0]) (by decide +kernel) rfl rfl ?_
    refine ab_fin.s1i (i := .iconst 1) (k := 1) (pc' := 19) (n := 1) (by decide +kernel) rfl (by decide +kernel) rfl ?_
    refine ab_fin.q_yI (i := .invokevirtual 1003) (k := 3) (y := 5993) (As := [.ref 0, .int 1]) (rest := []) (M' := (mX23_no_, [])) (lv2 := [(0, .ref 0), (1, .int 1)]) (pc' := 22) (X := K) (by decide +kernel) (ab_cv rfl rfl (conc_get (σ := (σ.wi 0 110 (0 : Int32))) (F.s s0_0)) ⟨(Nat.le_of_ble_eq_true rfl), (Nat.le_of_ble_eq_true rfl)⟩ rfl) rfl (Nat.le_of_ble_eq_true rfl) rfl rfl (hY_no fun E => rfl) w (fun v3 τ1 F2 w => ?_)
    refine ab_fin.s1 (i := .i2l) (k := 1) (pc' := 23) (st' := [.long ((Int32.toInt64 v3))]) (by decide +kernel) rfl rfl ?_
    exact ab_fin.q_ret (i := .lreturn) (k := 1) (v := some (.long ((Int32.toInt64 v3)))) (by decide +kernel) rfl F2 w
  · replace w := w.2 q
    refine ab_fin.s2 (i := .iload_n 1) (k := 1) (pc' := 10) (lv' := [(0, .ref 0), (1, .int l1)]) (st' := [.int l1]) (by decide +kernel) rfl rfl ?_
    refine ab_fin.s2 (i := .aload_n 0) (k := 1) (pc' := 11) (lv' := [(0, .ref 0), (1, .int l1)]) (st' := [.ref 0, .int l1]) (by decide +kernel) rfl rfl ?_
    refine ab_fin.q_rI (x := (σ.i 0 111)) (ix := 1015) (ci := 24) (k := 111) (pc' := 14) (by decide +kernel) rfl (c_rI (F.s s0_0) rfl) rfl ?_
    refine ab_fin.br (c := l1 < (σ.i 0 111)) (i := .if_icmp .lt 10) (off := 10) (t := 24) (pc' := 17) (r := []) (by decide +kernel) rfl (by decide +kernel) rfl (fun q => ?_) (fun q => ?_)
    · replace w := w.1 q
      refine ab_fin.s1l (i := .lconst 0) (k := 1) (pc' := 25) (n := 0) (by decide +kernel) rfl (by decide +kernel) rfl ?_
      refine ab_fin.s2 (i := .lstore_n 2) (k := 1) (pc' := 26) (lv' := [(2, .long 0), (0, .ref 0), (1, .int l1)]) (st' := []) (by decide +kernel) rfl rfl ?_
      refine ab_fin.s1i (i := .iconst 0) (k := 1) (pc' := 27) (n := 0) (by decide +kernel) rfl (by decide +kernel) rfl ?_
      refine ab_fin.s2 (i := .istore 4) (k := 2) (pc' := 29) (lv' := [(4, .int 0), (2, .long 0), (0, .ref 0), (1, .int l1)]) (st' := []) (by decide +kernel) rfl rfl ?_
      exact ab_fin.lv ⟨(List.forall_mem_cons.mpr ⟨(List.Mem.tail _ (List.Mem.tail _ (List.Mem.head _))), (List.forall_mem_cons.mpr ⟨(List.Mem.tail _ (List.Mem.tail _ (List.Mem.tail _ (List.Mem.head _)))), (List.forall_mem_cons.mpr ⟨(List.Mem.tail _ (List.Mem.head _)), (List.forall_mem_cons.mpr ⟨(List.Mem.head _), (fun _ h => absurd h List.not_mem_nil)⟩)⟩)⟩)⟩), (show ([4, 2, 0, 1] : List Nat).Nodup from by decide)⟩ w
    · replace w := w.2 q
      refine ab_fin.s2 (i := .aload_n 0) (k := 1) (pc' := 18) (lv' := [(0, .ref 0), (1, .int l1)]) (st' := [.ref 0]) (by decide +kernel) rfl rfl ?_
      refine ab_fin.s1i (i := .iconst 1) (k := 1) (pc' := 19) (n := 1) (by decide +kernel) rfl (by decide +kernel) rfl ?_
      refine ab_fin.q_yI (i := .invokevirtual 1003) (k := 3) (y := 5993) (As := [.ref 0, .int 1]) (rest := []) (M' := (mX23_no_, [])) (lv2 := [(0, .ref 0), (1, .int 1)]) (pc' := 22) (X := K) (by decide +kernel) (ab_cv rfl rfl (conc_get (σ := (σ.wi 0 110 (0 : Int32))) (F.s s0_0)) ⟨(Nat.le_of_ble_eq_true rfl), (Nat.le_of_ble_eq_true rfl)⟩ rfl) rfl (Nat.le_of_ble_eq_true rfl) rfl rfl (hY_no fun E => rfl) w (fun v6 τ4 F5 w => ?_)
      refine ab_fin.s1 (i := .i2l) (k := 1) (pc' := 23) (st' := [.long ((Int32.toInt64 v6))]) (by decide +kernel) rfl rfl ?_
      exact ab_fin.q_ret (i := .lreturn) (k := 1) (v := some (.long ((Int32.toInt64 v6)))) (by decide +kernel) rfl F5 w
theorem S_X23_word___29 {Z : zT} {d : Nat} {σ : Sg} {l1 : Int32} {l2 : Int64} {l4 : Int32} {K : kS} (F : FX ΦR σ.sh σ.r) (w : (8 ≤ l4 → K (.inl (some (.long l2))) σ) ∧ (¬ 8 ≤ l4 → ((σ.i 0 111) ≤ (l1 + l4) → B_X23_word___29 Z (d + 1) σ l1 ((l2 <<< (Int32.toInt64 (8 : Int32) &&& 63)) ||| ((Int32.toInt64 (0 : Int32)))) (l4 + 1) K) ∧ (¬ (σ.i 0 111) ≤ (l1 + l4) → ib (l1 + l4) 1024 ∧ (B_X23_word___29 Z (d + 1) σ l1 ((l2 <<< (Int32.toInt64 (8 : Int32) &&& 63)) ||| ((Int32.toInt64 ((σ.i 2191 ((l1 + l4).toNatClampNeg)) &&& (255 : Int32))))) (l4 + 1) K)))) : B_X23_word___29 Z (d + 1) σ l1 l2 l4 K := by
  unfold B_X23_word___29
  refine ab_fin.s2 (i := .iload 4) (k := 2) (pc' := 31) (lv' := [(0, .ref 0), (1, .int l1), (2, .long l2), (4, .int l4)]) (st' := [.int l4]) (by decide +kernel) rfl rfl ?_
  refine ab_fin.s1i (i := .bipush 8) (k := 2) (pc' := 33) (n := 8) (by decide +kernel) rfl (by decide +kernel) rfl ?_
  refine ab_fin.br (c := 8 ≤ l4) (i := .if_icmp .ge 44) (off := 44) (t := 77) (pc' := 36) (r := []) (by decide +kernel) rfl (by decide +kernel) rfl (fun q => ?_) (fun q => ?_)
  · replace w := w.1 q
    refine ab_fin.s2 (i := .lload_n 2) (k := 1) (pc' := 78) (lv' := [(0, .ref 0), (1, .int l1), (2, .long l2), (4, .int l4)]) (st' := [.long l2]) (by decide +kernel) rfl rfl ?_
    exact ab_fin.q_ret (i := .lreturn) (k := 1) (v := some (.long l2)) (by decide +kernel) rfl F w
  · replace w := w.2 q
    refine ab_fin.s2 (i := .lload_n 2) (k := 1) (pc' := 37) (lv' := [(0, .ref 0), (1, .int l1), (2, .long l2), (4, .int l4)]) (st' := [.long l2]) (by decide +kernel) rfl rfl ?_
    refine ab_fin.s1i (i := .bipush 8) (k := 2) (pc' := 39) (n := 8) (by decide +kernel) rfl (by decide +kernel) rfl ?_
    refine ab_fin.s1 (i := .lshl) (k := 1) (pc' := 40) (st' := [.long (l2 <<< (Int32.toInt64 (8 : Int32) &&& 63))]) (by decide +kernel) rfl rfl ?_
    refine ab_fin.s2 (i := .iload_n 1) (k := 1) (pc' := 41) (lv' := [(0, .ref 0), (1, .int l1), (2, .long l2), (4, .int l4)]) (st' := [.int l1, .long (l2 <<< (Int32.toInt64 (8 : Int32) &&& 63))]) (by decide +kernel) rfl rfl ?_
    refine ab_fin.s2 (i := .iload 4) (k := 2) (pc' := 43) (lv' := [(0, .ref 0), (1, .int l1), (2, .long l2), (4, .int l4)]) (st' := [.int l4, .int l1, .long (l2 <<< (Int32.toInt64 (8 : Int32) &&& 63))]) (by decide +kernel) rfl rfl ?_
    refine ab_fin.s1 (i := .iadd) (k := 1) (pc' := 44) (st' := [.int (l1 + l4), .long (l2 <<< (Int32.toInt64 (8 : Int32) &&& 63))]) (by decide +kernel) rfl rfl ?_
    refine ab_fin.s2 (i := .aload_n 0) (k := 1) (pc' := 45) (lv' := [(0, .ref 0), (1, .int l1), (2, .long l2), (4, .int l4)]) (st' := [.ref 0, .int (l1 + l4), .long (l2 <<< (Int32.toInt64 (8 : Int32) &&& 63))]) (by decide +kernel) rfl rfl ?_
    refine ab_fin.q_rI (x := (σ.i 0 111)) (ix := 1015) (ci := 24) (k := 111) (pc' := 48) (by decide +kernel) rfl (c_rI (F.s s0_0) rfl) rfl ?_
    refine ab_fin.br (c := (σ.i 0 111) ≤ (l1 + l4)) (i := .if_icmp .ge 19) (off := 19) (t := 67) (pc' := 51) (r := [.long (l2 <<< (Int32.toInt64 (8 : Int32) &&& 63))]) (by decide +kernel) rfl (by decide +kernel) rfl (fun q => ?_) (fun q => ?_)
    · replace w := w.1 q
      refine ab_fin.s1i (i := .iconst 0) (k := 1) (pc' := 68) (n := 0) (by decide +kernel) rfl (by decide +kernel) rfl ?_
      refine ab_fin.s1 (i := .i2l) (k := 1) (pc' := 69) (st' := [.long ((Int32.toInt64 (0 : Int32))), .long (l2 <<< (Int32.toInt64 (8 : Int32) &&& 63))]) (by decide +kernel) rfl rfl ?_
      refine ab_fin.s1 (i := .lor) (k := 1) (pc' := 70) (st' := [.long ((l2 <<< (Int32.toInt64 (8 : Int32) &&& 63)) ||| ((Int32.toInt64 (0 : Int32))))]) (by decide +kernel) rfl rfl ?_
      refine ab_fin.s2 (i := .lstore_n 2) (k := 1) (pc' := 71) (lv' := [(2, .long ((l2 <<< (Int32.toInt64 (8 : Int32) &&& 63)) ||| ((Int32.toInt64 (0 : Int32))))), (0, .ref 0), (1, .int l1), (4, .int l4)]) (st' := []) (by decide +kernel) rfl rfl ?_
      refine ab_fin.q_inc (n := 4) (c := 1) (pc' := 74) (lv' := [(4, .int (l4 + 1)), (2, .long ((l2 <<< (Int32.toInt64 (8 : Int32) &&& 63)) ||| ((Int32.toInt64 (0 : Int32))))), (0, .ref 0), (1, .int l1)]) (by decide +kernel) (by decide) rfl rfl rfl rfl ?_
      refine ab_fin.s3 (i := .goto (-45)) (k := 3) (t := 29) (st' := []) (by decide +kernel) (ab_gto (by decide +kernel)) ?_
      exact ab_fin.lv ⟨(List.forall_mem_cons.mpr ⟨(List.Mem.tail _ (List.Mem.tail _ (List.Mem.head _))), (List.forall_mem_cons.mpr ⟨(List.Mem.tail _ (List.Mem.tail _ (List.Mem.tail _ (List.Mem.head _)))), (List.forall_mem_cons.mpr ⟨(List.Mem.tail _ (List.Mem.head _)), (List.forall_mem_cons.mpr ⟨(List.Mem.head _), (fun _ h => absurd h List.not_mem_nil)⟩)⟩)⟩)⟩), (show ([4, 2, 0, 1] : List Nat).Nodup from by decide)⟩ w
    · replace w := w.2 q
      refine ab_fin.s2 (i := .aload_n 0) (k := 1) (pc' := 52) (lv' := [(0, .ref 0), (1, .int l1), (2, .long l2), (4, .int l4)]) (st' := [.ref 0, .long (l2 <<< (Int32.toInt64 (8 : Int32) &&& 63))]) (by decide +kernel) rfl rfl ?_
      refine ab_fin.q_rA (b := 2191) (ix := 972) (ci := 24) (k := 113) (pc' := 55) (by decide +kernel) rfl (c_rA (F.s s0_0) rfl (rM_113 F)) rfl ?_
      refine ab_fin.s2 (i := .iload_n 1) (k := 1) (pc' := 56) (lv' := [(0, .ref 0), (1, .int l1), (2, .long l2), (4, .int l4)]) (st' := [.int l1, .ref 2191, .long (l2 <<< (Int32.toInt64 (8 : Int32) &&& 63))]) (by decide +kernel) rfl rfl ?_
      refine ab_fin.s2 (i := .iload 4) (k := 2) (pc' := 58) (lv' := [(0, .ref 0), (1, .int l1), (2, .long l2), (4, .int l4)]) (st' := [.int l4, .int l1, .ref 2191, .long (l2 <<< (Int32.toInt64 (8 : Int32) &&& 63))]) (by decide +kernel) rfl rfl ?_
      refine ab_fin.s1 (i := .iadd) (k := 1) (pc' := 59) (st' := [.int (l1 + l4), .ref 2191, .long (l2 <<< (Int32.toInt64 (8 : Int32) &&& 63))]) (by decide +kernel) rfl rfl ?_
      obtain ⟨e1, w⟩ := w
      refine ab_fin.q_eB (x := (σ.i 2191 ((l1 + l4).toNatClampNeg))) (pc' := 60) (by decide +kernel) (c_eB2' (F.s s0_2191) e1 rfl) rfl ?_
      refine ab_fin.s1i (i := .sipush 255) (k := 3) (pc' := 63) (n := 255) (by decide +kernel) rfl (by decide +kernel) rfl ?_
      refine ab_fin.s1 (i := .iand) (k := 1) (pc' := 64) (st' := [.int ((σ.i 2191 ((l1 + l4).toNatClampNeg)) &&& (255 : Int32)), .long (l2 <<< (Int32.toInt64 (8 : Int32) &&& 63))]) (by decide +kernel) rfl rfl ?_
      refine ab_fin.s3 (i := .goto 4) (k := 3) (t := 68) (st' := [.int ((σ.i 2191 ((l1 + l4).toNatClampNeg)) &&& (255 : Int32)), .long (l2 <<< (Int32.toInt64 (8 : Int32) &&& 63))]) (by decide +kernel) (ab_gto (by decide +kernel)) ?_
      refine ab_fin.s1 (i := .i2l) (k := 1) (pc' := 69) (st' := [.long ((Int32.toInt64 ((σ.i 2191 ((l1 + l4).toNatClampNeg)) &&& (255 : Int32)))), .long (l2 <<< (Int32.toInt64 (8 : Int32) &&& 63))]) (by decide +kernel) rfl rfl ?_
      refine ab_fin.s1 (i := .lor) (k := 1) (pc' := 70) (st' := [.long ((l2 <<< (Int32.toInt64 (8 : Int32) &&& 63)) ||| ((Int32.toInt64 ((σ.i 2191 ((l1 + l4).toNatClampNeg)) &&& (255 : Int32)))))]) (by decide +kernel) rfl rfl ?_
      refine ab_fin.s2 (i := .lstore_n 2) (k := 1) (pc' := 71) (lv' := [(2, .long ((l2 <<< (Int32.toInt64 (8 : Int32) &&& 63)) ||| ((Int32.toInt64 ((σ.i 2191 ((l1 + l4).toNatClampNeg)) &&& (255 : Int32)))))), (0, .ref 0), (1, .int l1), (4, .int l4)]) (st' := []) (by decide +kernel) rfl rfl ?_
      refine ab_fin.q_inc (n := 4) (c := 1) (pc' := 74) (lv' := [(4, .int (l4 + 1)), (2, .long ((l2 <<< (Int32.toInt64 (8 : Int32) &&& 63)) ||| ((Int32.toInt64 ((σ.i 2191 ((l1 + l4).toNatClampNeg)) &&& (255 : Int32)))))), (0, .ref 0), (1, .int l1)]) (by decide +kernel) (by decide) rfl rfl rfl rfl ?_
      refine ab_fin.s3 (i := .goto (-45)) (k := 3) (t := 29) (st' := []) (by decide +kernel) (ab_gto (by decide +kernel)) ?_
      exact ab_fin.lv ⟨(List.forall_mem_cons.mpr ⟨(List.Mem.tail _ (List.Mem.tail _ (List.Mem.head _))), (List.forall_mem_cons.mpr ⟨(List.Mem.tail _ (List.Mem.tail _ (List.Mem.tail _ (List.Mem.head _)))), (List.forall_mem_cons.mpr ⟨(List.Mem.tail _ (List.Mem.head _)), (List.forall_mem_cons.mpr ⟨(List.Mem.head _), (fun _ h => absurd h List.not_mem_nil)⟩)⟩)⟩)⟩), (show ([4, 2, 0, 1] : List Nat).Nodup from by decide)⟩ w

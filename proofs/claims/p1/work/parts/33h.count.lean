set_option maxRecDepth 100000 in
set_option maxHeartbeats 0 in
theorem p1_count (z4 z5 z6 : Value) (n_z4 : z4 = .null ∨ z4 = .retAddr 4) (n_z5 : z5 = .null ∨ z5 = .retAddr 5) (n_z6 : z6 = .null ∨ z6 = .retAddr 6) (xs : Nat → Int32) (h : List ab_E) (hl : h.length = 3467) (hz : ab_z h ≤ 400000) (f_0 : h[0]? = some (.inr (.inr (13, p1_o0)))) (f_1 : h[1]? = some (.inr (.inr (12, p1_o1)))) (f_10 : h[10]? = some (.inr (.inr (6, p1_o10)))) (f_28 : h[28]? = some (.inr (.inl (0, .inl (p1_a28))))) (f_40 : h[40]? = some (.inr (.inr (8, p1_o40)))) (f_101 : h[101]? = some (.inr (.inr (24, p1_o101)))) (f_3466 : h[3466]? = some (.inr (.inl (1, .inr (.inl (List.replicate 1 0)))))) : ab_fin (hb_Gz (some z4, some z5, some z6) (some (0, 6, fun i => .int (xs i)))) hb_GT 2046 (mL_law, []) 452 [(4, .int 0), (3, .ref 3466), (2, .ref 101), (1, .ref 0), (0, .retAddr 9)] [] h p1_Q := by
  have lt0 : ∀ a, a < 3467 → a < h.length := fun a q => by rw [hl]; exact q
  show ab_fin _ _ _ _ _ _ _ (ab_ov h []) _
  refine ab_fin.s2 (i := .aload_n 1) (k := 1) (pc' := 453) (lv' := [(4, .int 0), (3, .ref 3466), (2, .ref 101), (1, .ref 0), (0, .retAddr 9)]) (st' := [.ref 0]) (by decide +kernel) rfl rfl ?_
  refine ab_fin.s2 (i := .aload_n 0) (k := 1) (pc' := 454) (lv' := [(4, .int 0), (3, .ref 3466), (2, .ref 101), (1, .ref 0), (0, .retAddr 9)]) (st' := [.retAddr 9, .ref 0]) (by decide +kernel) rfl rfl ?_
  refine ab_fin.s2 (i := .iload 4) (k := 2) (pc' := 456) (lv' := [(4, .int 0), (3, .ref 3466), (2, .ref 101), (1, .ref 0), (0, .retAddr 9)]) (st' := [.int 0, .retAddr 9, .ref 0]) (by decide +kernel) rfl rfl ?_
  refine ab_fin.s1i (i := .iconst 1) (k := 1) (pc' := 457) (n := 1) (by decide +kernel) rfl (by decide +kernel) rfl ?_
  refine ab_fin.s1i (i := .iadd) (k := 1) (pc' := 458) (n := 1) (by decide +kernel) rfl (by decide +kernel) rfl ?_
  refine ab_fin.s8 (i := .iaload) (k := 1) (pc' := 459) (st' := [.int ((xs 1)), .ref 0]) (by decide +kernel) (ab_x0 rfl (by decide +kernel) rfl) rfl rfl rfl ?_
  refine ab_fin.s2 (i := .aload_n 3) (k := 1) (pc' := 460) (lv' := [(4, .int 0), (3, .ref 3466), (2, .ref 101), (1, .ref 0), (0, .retAddr 9)]) (st' := [.ref 3466, .int ((xs 1)), .ref 0]) (by decide +kernel) rfl rfl ?_
  refine ab_fin.call (i := .invokestatic 101) (k := 3) (y := 13516) (As := [.ref 0, .int ((xs 1)), .ref 3466]) (rest := []) (M' := (mL_count, [(0, 9, 12, 19)])) (by decide +kernel) (ab_cs rfl rfl ⟨(Nat.le_of_ble_eq_true rfl), (Nat.le_of_ble_eq_true rfl)⟩ rfl) rfl (Nat.le_of_ble_eq_true rfl) ?_
  show ab_fin _ _ _ _ 0 [(0, .ref 0), (1, .int ((xs 1))), (2, .ref 3466)] [] _ _
  refine ab_fin.s2 (i := .aload_n 2) (k := 1) (pc' := 1) (lv' := [(0, .ref 0), (1, .int ((xs 1))), (2, .ref 3466)]) (st' := [.ref 3466]) (by decide +kernel) rfl rfl ?_
  refine ab_fin.s1i (i := .iconst 0) (k := 1) (pc' := 2) (n := 0) (by decide +kernel) rfl (by decide +kernel) rfl ?_
  refine ab_fin.s2 (i := .aload_n 0) (k := 1) (pc' := 3) (lv' := [(0, .ref 0), (1, .int ((xs 1))), (2, .ref 3466)]) (st' := [.ref 0, .int 0, .ref 3466]) (by decide +kernel) rfl rfl ?_
  refine ab_fin.s2 (i := .iload_n 1) (k := 1) (pc' := 4) (lv' := [(0, .ref 0), (1, .int ((xs 1))), (2, .ref 3466)]) (st' := [.int ((xs 1)), .ref 0, .int 0, .ref 3466]) (by decide +kernel) rfl rfl ?_
  refine ab_fin.call (i := .invokevirtual 29) (k := 3) (y := 3081) (As := [.ref 0, .int ((xs 1))]) (rest := [.int 0, .ref 3466]) (M' := (mX12_count, [])) (by decide +kernel) (ab_cv rfl rfl (ab_ov_no f_0 rfl) ⟨(Nat.le_of_ble_eq_true rfl), (Nat.le_of_ble_eq_true rfl)⟩ rfl) rfl (Nat.le_of_ble_eq_true rfl) ?_
  show ab_fin _ _ _ _ 0 [(0, .ref 0), (1, .int ((xs 1)))] [] _ _
  refine ab_fin.s2 (i := .iload_n 1) (k := 1) (pc' := 1) (lv' := [(0, .ref 0), (1, .int ((xs 1)))]) (st' := [.int ((xs 1))]) (by decide +kernel) rfl rfl ?_
  by_cases q1 : (xs 1) = 0
  · rw [q1]
    refine ab_fin.s3 (i := .tableswitch 104 0 6 #[43, 53, 63, 74, 84, 92, 99]) (k := 43) (t := 44) (st' := []) (by decide +kernel) (ab_swI (off := 43) (by decide +kernel) (by decide +kernel) (by decide +kernel)) ?_
    refine ab_fin.s2 (i := .aload_n 0) (k := 1) (pc' := 45) (lv' := [(0, .ref 0), (1, .int 0)]) (st' := [.ref 0]) (by decide +kernel) rfl rfl ?_
    refine ab_fin.getf (ix := 10) (k := 0) (v := .ref 1) (pc' := 48) (by decide +kernel) rfl (ab_ov_no f_0 rfl) rfl rfl ?_
    refine ab_fin.getf (ix := 148) (k := 3) (v := .ref 28) (pc' := 51) (by decide +kernel) rfl (ab_ov_no f_1 rfl) rfl rfl ?_
    refine ab_fin.s1i (i := .iconst 0) (k := 1) (pc' := 52) (n := 0) (by decide +kernel) rfl (by decide +kernel) rfl ?_
    refine ab_fin.iald (v := 3) (pc' := 53) (by decide +kernel) (ab_ov_no f_28 rfl) (ab_bd (n := 4) (by rw [p1_n28]) (by decide +kernel)) rfl rfl ?_
    refine ab_fin.ret (i := .ireturn) (k := 1) (some (.int 3)) (by decide +kernel) rfl ?_
    refine ab_bk.back (pc' := 7) (st' := [.int 3, .int 0, .ref 3466]) rfl rfl ?_
    refine ab_fin.s1l (i := .i2l) (k := 1) (pc' := 8) (n := 3) (by decide +kernel) rfl (by decide +kernel) rfl ?_
    refine ab_fin.last (h1 := ab_ov h [(3466, .inr (.inl (1, .inr (.inl ((List.replicate 1 0).set 0 (3))))))]) (pc' := 9) (by decide +kernel) (ab_ov_no f_3466 rfl) (ab_bd (n := 1) (by rw [List.length_replicate]) (by decide +kernel)) (ab_ov_set rfl) rfl ?_
    refine ab_fin.s3 (i := .goto 6) (k := 3) (t := 15) (st' := []) (by decide +kernel) (ab_goto (by decide +kernel)) ?_
    refine ab_fin.s1i (i := .iconst 0) (k := 1) (pc' := 16) (n := 0) (by decide +kernel) rfl (by decide +kernel) rfl ?_
    refine ab_fin.ret (i := .ireturn) (k := 1) (some (.int 0)) (by decide +kernel) rfl ?_
    refine ab_bk.back (pc' := 463) (st' := [.int 0]) rfl rfl ?_
    refine ab_fin.s2 (i := .istore 5) (k := 2) (pc' := 465) (lv' := [(5, .int 0), (4, .int 0), (3, .ref 3466), (2, .ref 101), (1, .ref 0), (0, .retAddr 9)]) (st' := []) (by decide +kernel) rfl rfl ?_
    refine ab_fin.s2 (i := .aload_n 2) (k := 1) (pc' := 466) (lv' := [(5, .int 0), (4, .int 0), (3, .ref 3466), (2, .ref 101), (1, .ref 0), (0, .retAddr 9)]) (st' := [.ref 101]) (by decide +kernel) rfl rfl ?_
    refine ab_fin.s2 (i := .aload_n 0) (k := 1) (pc' := 467) (lv' := [(5, .int 0), (4, .int 0), (3, .ref 3466), (2, .ref 101), (1, .ref 0), (0, .retAddr 9)]) (st' := [.retAddr 9, .ref 101]) (by decide +kernel) rfl rfl ?_
    refine ab_fin.s2 (i := .iload 4) (k := 2) (pc' := 469) (lv' := [(5, .int 0), (4, .int 0), (3, .ref 3466), (2, .ref 101), (1, .ref 0), (0, .retAddr 9)]) (st' := [.int 0, .retAddr 9, .ref 101]) (by decide +kernel) rfl rfl ?_
    refine ab_fin.s1i (i := .iconst 1) (k := 1) (pc' := 470) (n := 1) (by decide +kernel) rfl (by decide +kernel) rfl ?_
    refine ab_fin.s1i (i := .iadd) (k := 1) (pc' := 471) (n := 1) (by decide +kernel) rfl (by decide +kernel) rfl ?_
    refine ab_fin.s8 (i := .iaload) (k := 1) (pc' := 472) (st' := [.int ((xs 1)), .ref 101]) (by decide +kernel) (ab_x0 rfl (by decide +kernel) rfl) rfl rfl rfl ?_
    refine ab_fin.call (i := .invokevirtual 103) (k := 3) (y := 6000) (As := [.ref 101, .int ((xs 1))]) (rest := []) (M' := (mX23_count, [])) (by decide +kernel) (ab_cv rfl rfl (ab_ov_no f_101 rfl) ⟨(Nat.le_of_ble_eq_true rfl), (Nat.le_of_ble_eq_true rfl)⟩ rfl) rfl (Nat.le_of_ble_eq_true rfl) ?_
    show ab_fin _ _ _ _ 0 [(0, .ref 101), (1, .int ((xs 1)))] [] _ _
    refine ab_fin.s2 (i := .aload_n 0) (k := 1) (pc' := 1) (lv' := [(0, .ref 101), (1, .int ((xs 1)))]) (st' := [.ref 101]) (by decide +kernel) rfl rfl ?_
    refine ab_fin.s1i (i := .iconst 0) (k := 1) (pc' := 2) (n := 0) (by decide +kernel) rfl (by decide +kernel) rfl ?_
    refine ab_fin.putf (ix := 1000) (h1 := ab_ov h [(101, .inr (.inr (24, (p1_o101).set 110 (.int 0)))), (3466, .inr (.inl (1, .inr (.inl ((List.replicate 1 0).set 0 (3))))))]) (pc' := 5) (by decide +kernel) rfl (ab_ov_no f_101 rfl) (ab_klt (n := 115) (by rw [p1_n101]) (by decide)) rfl rfl (ab_ov_set rfl) rfl ?_
    refine ab_fin.s2 (i := .iload_n 1) (k := 1) (pc' := 6) (lv' := [(0, .ref 101), (1, .int ((xs 1)))]) (st' := [.int ((xs 1))]) (by decide +kernel) rfl rfl ?_
    have q2 : (xs 1) = 0 := (by have l0 : (0 : Int32).toInt = 0 := rfl; simp only [← Int32.toInt_inj, Int32.lt_iff_toInt_lt, Int32.le_iff_toInt_le, l0] at q1 ⊢; omega)
    rw [q2]
    refine ab_fin.s3 (i := .tableswitch 77 0 6 #[42, 47, 52, 57, 62, 67, 72]) (k := 42) (t := 48) (st' := []) (by decide +kernel) (ab_swI (off := 42) (by decide +kernel) (by decide +kernel) (by decide +kernel)) ?_
    refine ab_fin.s2 (i := .aload_n 0) (k := 1) (pc' := 49) (lv' := [(0, .ref 101), (1, .int 0)]) (st' := [.ref 101]) (by decide +kernel) rfl rfl ?_
    refine ab_fin.getf (ix := 13) (k := 4) (v := .int 3) (pc' := 52) (by decide +kernel) rfl (ab_ov_get (lt0 101 (by decide)) rfl) rfl rfl ?_
    refine ab_fin.ret (i := .ireturn) (k := 1) (some (.int 3)) (by decide +kernel) rfl ?_
    refine ab_bk.back (pc' := 475) (st' := [.int 3]) rfl rfl ?_
    refine ab_fin.s2 (i := .istore 6) (k := 2) (pc' := 477) (lv' := [(6, .int 3), (5, .int 0), (4, .int 0), (3, .ref 3466), (2, .ref 101), (1, .ref 0), (0, .retAddr 9)]) (st' := []) (by decide +kernel) rfl rfl ?_
    refine ab_fin.s2 (i := .aload_n 2) (k := 1) (pc' := 478) (lv' := [(6, .int 3), (5, .int 0), (4, .int 0), (3, .ref 3466), (2, .ref 101), (1, .ref 0), (0, .retAddr 9)]) (st' := [.ref 101]) (by decide +kernel) rfl rfl ?_
    refine ab_fin.call (i := .invokevirtual 75) (k := 3) (y := 5992) (As := [.ref 101]) (rest := []) (M' := (mX23_thrown, [])) (by decide +kernel) (ab_cv rfl rfl (ab_ov_get (lt0 101 (by decide)) rfl) ⟨(Nat.le_of_ble_eq_true rfl), (Nat.le_of_ble_eq_true rfl)⟩ rfl) rfl (Nat.le_of_ble_eq_true rfl) ?_
    show ab_fin _ _ _ _ 0 [(0, .ref 101)] [] _ _
    refine ab_fin.s2 (i := .aload_n 0) (k := 1) (pc' := 1) (lv' := [(0, .ref 101)]) (st' := [.ref 101]) (by decide +kernel) rfl rfl ?_
    refine ab_fin.getf (ix := 1000) (k := 110) (v := .int 0) (pc' := 4) (by decide +kernel) rfl (ab_ov_get (lt0 101 (by decide)) rfl) rfl rfl ?_
    refine ab_fin.ret (i := .ireturn) (k := 1) (some (.int 0)) (by decide +kernel) rfl ?_
    refine ab_bk.back (pc' := 481) (st' := [.int 0]) rfl rfl ?_
    refine ab_fin.s2 (i := .iload 5) (k := 2) (pc' := 483) (lv' := [(6, .int 3), (5, .int 0), (4, .int 0), (3, .ref 3466), (2, .ref 101), (1, .ref 0), (0, .retAddr 9)]) (st' := [.int 0, .int 0]) (by decide +kernel) rfl rfl ?_
    refine ab_fin.brT (c := (0 : Int32) = (0 : Int32)) (i := .if_icmp .eq 5) (off := 5) (t := 488) (r := []) (by decide +kernel) rfl (by decide +kernel) (by decide +kernel) ?_
    refine ab_fin.s2 (i := .iload 5) (k := 2) (pc' := 490) (lv' := [(6, .int 3), (5, .int 0), (4, .int 0), (3, .ref 3466), (2, .ref 101), (1, .ref 0), (0, .retAddr 9)]) (st' := [.int 0]) (by decide +kernel) rfl rfl ?_
    refine ab_fin.brF (c := ¬ (0 : Int32) = 0) (i := .ifCond .ne 15) (off := 15) (t := 505) (pc' := 493) (r := []) (by decide +kernel) rfl (by decide +kernel) rfl (by decide +kernel) ?_
    refine ab_fin.s2 (i := .aload_n 3) (k := 1) (pc' := 494) (lv' := [(6, .int 3), (5, .int 0), (4, .int 0), (3, .ref 3466), (2, .ref 101), (1, .ref 0), (0, .retAddr 9)]) (st' := [.ref 3466]) (by decide +kernel) rfl rfl ?_
    refine ab_fin.s1i (i := .iconst 0) (k := 1) (pc' := 495) (n := 0) (by decide +kernel) rfl (by decide +kernel) rfl ?_
    refine ab_fin.lald (v := 3) (pc' := 496) (by decide +kernel) (ab_ov_get (lt0 3466 (by decide)) rfl) (ab_bd (n := 1) (by rw [List.length_set, List.length_replicate]) (by decide +kernel)) rfl rfl ?_
    refine ab_fin.s2 (i := .iload 6) (k := 2) (pc' := 498) (lv' := [(6, .int 3), (5, .int 0), (4, .int 0), (3, .ref 3466), (2, .ref 101), (1, .ref 0), (0, .retAddr 9)]) (st' := [.int 3, .long 3]) (by decide +kernel) rfl rfl ?_
    refine ab_fin.s1l (i := .i2l) (k := 1) (pc' := 499) (n := 3) (by decide +kernel) rfl (by decide +kernel) rfl ?_
    refine ab_fin.s1i (i := .lcmp) (k := 1) (pc' := 500) (n := 0) (by decide +kernel) rfl (by decide +kernel) rfl ?_
    refine ab_fin.brT (c := (0 : Int32) = 0) (i := .ifCond .eq 5) (off := 5) (t := 505) (r := []) (by decide +kernel) rfl (by decide +kernel) (by decide +kernel) ?_
    refine ab_fin.s3 (i := .goto 585) (k := 3) (t := 1090) (st' := []) (by decide +kernel) (ab_goto (by decide +kernel)) ?_
    refine ab_fin.inc (i := .iinc 4 6) (k := 3) (pc' := 1093) (j := 4) (n := 6) (lv' := [(6, .int 3), (5, .int 0), (3, .ref 3466), (2, .ref 101), (1, .ref 0), (0, .retAddr 9)]) (by decide +kernel) rfl (by decide +kernel) rfl ?_
    refine ab_fin.s3 (i := .goto (-1070)) (k := 3) (t := 23) (st' := []) (by decide +kernel) (ab_goto (by decide +kernel)) ?_
    refine ab_fin.s2 (i := .iload 4) (k := 2) (pc' := 25) (lv' := [(4, .int 6), (6, .int 3), (5, .int 0), (3, .ref 3466), (2, .ref 101), (1, .ref 0), (0, .retAddr 9)]) (st' := [.int 6]) (by decide +kernel) rfl rfl ?_
    refine ab_fin.s2 (i := .aload_n 0) (k := 1) (pc' := 26) (lv' := [(4, .int 6), (6, .int 3), (5, .int 0), (3, .ref 3466), (2, .ref 101), (1, .ref 0), (0, .retAddr 9)]) (st' := [.retAddr 9, .int 6]) (by decide +kernel) rfl rfl ?_
    refine ab_fin.s8 (i := .arraylength) (k := 1) (pc' := 27) (st' := [.int 6, .int 6]) (by decide +kernel) rfl rfl rfl rfl ?_
    refine ab_fin.s1i (i := .bipush 6) (k := 2) (pc' := 29) (n := 6) (by decide +kernel) rfl (by decide +kernel) rfl ?_
    refine ab_fin.s1i (i := .isub) (k := 1) (pc' := 30) (n := 0) (by decide +kernel) rfl (by decide +kernel) rfl ?_
    refine ab_fin.brT (c := (0 : Int32) < (6 : Int32)) (i := .if_icmp .gt 1066) (off := 1066) (t := 1096) (r := []) (by decide +kernel) rfl (by decide +kernel) (by decide +kernel) ?_
    refine ab_fin.s1i (i := .iconst 1) (k := 1) (pc' := 1097) (n := 1) (by decide +kernel) rfl (by decide +kernel) rfl ?_
    refine ab_fin.ret (i := .ireturn) (k := 1) (some (.int 1)) (by decide +kernel) rfl ?_
    refine ⟨rfl, ?_, ?_⟩
    · rw [ab_ov_len, hl]; decide
    · refine Nat.le_trans (ab_ov_z _ _) ?_
      simp only [List.map, List.sum_cons, List.sum_nil, ab_z1, ab_len, List.length_set, List.length_replicate, List.length_cons, List.length_nil, p1_n101]
      omega
  by_cases q3 : (xs 1) = 1
  · rw [q3]
    refine ab_fin.s3 (i := .tableswitch 104 0 6 #[43, 53, 63, 74, 84, 92, 99]) (k := 43) (t := 54) (st' := []) (by decide +kernel) (ab_swI (off := 53) (by decide +kernel) (by decide +kernel) (by decide +kernel)) ?_
    refine ab_fin.s2 (i := .aload_n 0) (k := 1) (pc' := 55) (lv' := [(0, .ref 0), (1, .int 1)]) (st' := [.ref 0]) (by decide +kernel) rfl rfl ?_
    refine ab_fin.getf (ix := 10) (k := 0) (v := .ref 1) (pc' := 58) (by decide +kernel) rfl (ab_ov_no f_0 rfl) rfl rfl ?_
    refine ab_fin.getf (ix := 148) (k := 3) (v := .ref 28) (pc' := 61) (by decide +kernel) rfl (ab_ov_no f_1 rfl) rfl rfl ?_
    refine ab_fin.s1i (i := .iconst 1) (k := 1) (pc' := 62) (n := 1) (by decide +kernel) rfl (by decide +kernel) rfl ?_
    refine ab_fin.iald (v := 0) (pc' := 63) (by decide +kernel) (ab_ov_no f_28 rfl) (ab_bd (n := 4) (by rw [p1_n28]) (by decide +kernel)) rfl rfl ?_
    refine ab_fin.ret (i := .ireturn) (k := 1) (some (.int 0)) (by decide +kernel) rfl ?_
    refine ab_bk.back (pc' := 7) (st' := [.int 0, .int 0, .ref 3466]) rfl rfl ?_
    refine ab_fin.s1l (i := .i2l) (k := 1) (pc' := 8) (n := 0) (by decide +kernel) rfl (by decide +kernel) rfl ?_
    refine ab_fin.last (h1 := ab_ov h [(3466, .inr (.inl (1, .inr (.inl ((List.replicate 1 0).set 0 (0))))))]) (pc' := 9) (by decide +kernel) (ab_ov_no f_3466 rfl) (ab_bd (n := 1) (by rw [List.length_replicate]) (by decide +kernel)) (ab_ov_set rfl) rfl ?_
    refine ab_fin.s3 (i := .goto 6) (k := 3) (t := 15) (st' := []) (by decide +kernel) (ab_goto (by decide +kernel)) ?_
    refine ab_fin.s1i (i := .iconst 0) (k := 1) (pc' := 16) (n := 0) (by decide +kernel) rfl (by decide +kernel) rfl ?_
    refine ab_fin.ret (i := .ireturn) (k := 1) (some (.int 0)) (by decide +kernel) rfl ?_
    refine ab_bk.back (pc' := 463) (st' := [.int 0]) rfl rfl ?_
    refine ab_fin.s2 (i := .istore 5) (k := 2) (pc' := 465) (lv' := [(5, .int 0), (4, .int 0), (3, .ref 3466), (2, .ref 101), (1, .ref 0), (0, .retAddr 9)]) (st' := []) (by decide +kernel) rfl rfl ?_
    refine ab_fin.s2 (i := .aload_n 2) (k := 1) (pc' := 466) (lv' := [(5, .int 0), (4, .int 0), (3, .ref 3466), (2, .ref 101), (1, .ref 0), (0, .retAddr 9)]) (st' := [.ref 101]) (by decide +kernel) rfl rfl ?_
    refine ab_fin.s2 (i := .aload_n 0) (k := 1) (pc' := 467) (lv' := [(5, .int 0), (4, .int 0), (3, .ref 3466), (2, .ref 101), (1, .ref 0), (0, .retAddr 9)]) (st' := [.retAddr 9, .ref 101]) (by decide +kernel) rfl rfl ?_
    refine ab_fin.s2 (i := .iload 4) (k := 2) (pc' := 469) (lv' := [(5, .int 0), (4, .int 0), (3, .ref 3466), (2, .ref 101), (1, .ref 0), (0, .retAddr 9)]) (st' := [.int 0, .retAddr 9, .ref 101]) (by decide +kernel) rfl rfl ?_
    refine ab_fin.s1i (i := .iconst 1) (k := 1) (pc' := 470) (n := 1) (by decide +kernel) rfl (by decide +kernel) rfl ?_
    refine ab_fin.s1i (i := .iadd) (k := 1) (pc' := 471) (n := 1) (by decide +kernel) rfl (by decide +kernel) rfl ?_
    refine ab_fin.s8 (i := .iaload) (k := 1) (pc' := 472) (st' := [.int ((xs 1)), .ref 101]) (by decide +kernel) (ab_x0 rfl (by decide +kernel) rfl) rfl rfl rfl ?_
    refine ab_fin.call (i := .invokevirtual 103) (k := 3) (y := 6000) (As := [.ref 101, .int ((xs 1))]) (rest := []) (M' := (mX23_count, [])) (by decide +kernel) (ab_cv rfl rfl (ab_ov_no f_101 rfl) ⟨(Nat.le_of_ble_eq_true rfl), (Nat.le_of_ble_eq_true rfl)⟩ rfl) rfl (Nat.le_of_ble_eq_true rfl) ?_
    show ab_fin _ _ _ _ 0 [(0, .ref 101), (1, .int ((xs 1)))] [] _ _
    refine ab_fin.s2 (i := .aload_n 0) (k := 1) (pc' := 1) (lv' := [(0, .ref 101), (1, .int ((xs 1)))]) (st' := [.ref 101]) (by decide +kernel) rfl rfl ?_
    refine ab_fin.s1i (i := .iconst 0) (k := 1) (pc' := 2) (n := 0) (by decide +kernel) rfl (by decide +kernel) rfl ?_
    refine ab_fin.putf (ix := 1000) (h1 := ab_ov h [(101, .inr (.inr (24, (p1_o101).set 110 (.int 0)))), (3466, .inr (.inl (1, .inr (.inl ((List.replicate 1 0).set 0 (0))))))]) (pc' := 5) (by decide +kernel) rfl (ab_ov_no f_101 rfl) (ab_klt (n := 115) (by rw [p1_n101]) (by decide)) rfl rfl (ab_ov_set rfl) rfl ?_
    refine ab_fin.s2 (i := .iload_n 1) (k := 1) (pc' := 6) (lv' := [(0, .ref 101), (1, .int ((xs 1)))]) (st' := [.int ((xs 1))]) (by decide +kernel) rfl rfl ?_
    have q4 : (xs 1) = 1 := (by have l0 : (0 : Int32).toInt = 0 := rfl; have l1 : (1 : Int32).toInt = 1 := rfl; simp only [← Int32.toInt_inj, Int32.lt_iff_toInt_lt, Int32.le_iff_toInt_le, l0, l1] at q1 q3 ⊢; omega)
    rw [q4]
    refine ab_fin.s3 (i := .tableswitch 77 0 6 #[42, 47, 52, 57, 62, 67, 72]) (k := 42) (t := 53) (st' := []) (by decide +kernel) (ab_swI (off := 47) (by decide +kernel) (by decide +kernel) (by decide +kernel)) ?_
    refine ab_fin.s2 (i := .aload_n 0) (k := 1) (pc' := 54) (lv' := [(0, .ref 101), (1, .int 1)]) (st' := [.ref 101]) (by decide +kernel) rfl rfl ?_
    refine ab_fin.getf (ix := 31) (k := 5) (v := .int 0) (pc' := 57) (by decide +kernel) rfl (ab_ov_get (lt0 101 (by decide)) rfl) rfl rfl ?_
    refine ab_fin.ret (i := .ireturn) (k := 1) (some (.int 0)) (by decide +kernel) rfl ?_
    refine ab_bk.back (pc' := 475) (st' := [.int 0]) rfl rfl ?_
    refine ab_fin.s2 (i := .istore 6) (k := 2) (pc' := 477) (lv' := [(6, .int 0), (5, .int 0), (4, .int 0), (3, .ref 3466), (2, .ref 101), (1, .ref 0), (0, .retAddr 9)]) (st' := []) (by decide +kernel) rfl rfl ?_
    refine ab_fin.s2 (i := .aload_n 2) (k := 1) (pc' := 478) (lv' := [(6, .int 0), (5, .int 0), (4, .int 0), (3, .ref 3466), (2, .ref 101), (1, .ref 0), (0, .retAddr 9)]) (st' := [.ref 101]) (by decide +kernel) rfl rfl ?_
    refine ab_fin.call (i := .invokevirtual 75) (k := 3) (y := 5992) (As := [.ref 101]) (rest := []) (M' := (mX23_thrown, [])) (by decide +kernel) (ab_cv rfl rfl (ab_ov_get (lt0 101 (by decide)) rfl) ⟨(Nat.le_of_ble_eq_true rfl), (Nat.le_of_ble_eq_true rfl)⟩ rfl) rfl (Nat.le_of_ble_eq_true rfl) ?_
    show ab_fin _ _ _ _ 0 [(0, .ref 101)] [] _ _
    refine ab_fin.s2 (i := .aload_n 0) (k := 1) (pc' := 1) (lv' := [(0, .ref 101)]) (st' := [.ref 101]) (by decide +kernel) rfl rfl ?_
    refine ab_fin.getf (ix := 1000) (k := 110) (v := .int 0) (pc' := 4) (by decide +kernel) rfl (ab_ov_get (lt0 101 (by decide)) rfl) rfl rfl ?_
    refine ab_fin.ret (i := .ireturn) (k := 1) (some (.int 0)) (by decide +kernel) rfl ?_
    refine ab_bk.back (pc' := 481) (st' := [.int 0]) rfl rfl ?_
    refine ab_fin.s2 (i := .iload 5) (k := 2) (pc' := 483) (lv' := [(6, .int 0), (5, .int 0), (4, .int 0), (3, .ref 3466), (2, .ref 101), (1, .ref 0), (0, .retAddr 9)]) (st' := [.int 0, .int 0]) (by decide +kernel) rfl rfl ?_
    refine ab_fin.brT (c := (0 : Int32) = (0 : Int32)) (i := .if_icmp .eq 5) (off := 5) (t := 488) (r := []) (by decide +kernel) rfl (by decide +kernel) (by decide +kernel) ?_
    refine ab_fin.s2 (i := .iload 5) (k := 2) (pc' := 490) (lv' := [(6, .int 0), (5, .int 0), (4, .int 0), (3, .ref 3466), (2, .ref 101), (1, .ref 0), (0, .retAddr 9)]) (st' := [.int 0]) (by decide +kernel) rfl rfl ?_
    refine ab_fin.brF (c := ¬ (0 : Int32) = 0) (i := .ifCond .ne 15) (off := 15) (t := 505) (pc' := 493) (r := []) (by decide +kernel) rfl (by decide +kernel) rfl (by decide +kernel) ?_
    refine ab_fin.s2 (i := .aload_n 3) (k := 1) (pc' := 494) (lv' := [(6, .int 0), (5, .int 0), (4, .int 0), (3, .ref 3466), (2, .ref 101), (1, .ref 0), (0, .retAddr 9)]) (st' := [.ref 3466]) (by decide +kernel) rfl rfl ?_
    refine ab_fin.s1i (i := .iconst 0) (k := 1) (pc' := 495) (n := 0) (by decide +kernel) rfl (by decide +kernel) rfl ?_
    refine ab_fin.lald (v := 0) (pc' := 496) (by decide +kernel) (ab_ov_get (lt0 3466 (by decide)) rfl) (ab_bd (n := 1) (by rw [List.length_set, List.length_replicate]) (by decide +kernel)) rfl rfl ?_
    refine ab_fin.s2 (i := .iload 6) (k := 2) (pc' := 498) (lv' := [(6, .int 0), (5, .int 0), (4, .int 0), (3, .ref 3466), (2, .ref 101), (1, .ref 0), (0, .retAddr 9)]) (st' := [.int 0, .long 0]) (by decide +kernel) rfl rfl ?_
    refine ab_fin.s1l (i := .i2l) (k := 1) (pc' := 499) (n := 0) (by decide +kernel) rfl (by decide +kernel) rfl ?_
    refine ab_fin.s1i (i := .lcmp) (k := 1) (pc' := 500) (n := 0) (by decide +kernel) rfl (by decide +kernel) rfl ?_
    refine ab_fin.brT (c := (0 : Int32) = 0) (i := .ifCond .eq 5) (off := 5) (t := 505) (r := []) (by decide +kernel) rfl (by decide +kernel) (by decide +kernel) ?_
    refine ab_fin.s3 (i := .goto 585) (k := 3) (t := 1090) (st' := []) (by decide +kernel) (ab_goto (by decide +kernel)) ?_
    refine ab_fin.inc (i := .iinc 4 6) (k := 3) (pc' := 1093) (j := 4) (n := 6) (lv' := [(6, .int 0), (5, .int 0), (3, .ref 3466), (2, .ref 101), (1, .ref 0), (0, .retAddr 9)]) (by decide +kernel) rfl (by decide +kernel) rfl ?_
    refine ab_fin.s3 (i := .goto (-1070)) (k := 3) (t := 23) (st' := []) (by decide +kernel) (ab_goto (by decide +kernel)) ?_
    refine ab_fin.s2 (i := .iload 4) (k := 2) (pc' := 25) (lv' := [(4, .int 6), (6, .int 0), (5, .int 0), (3, .ref 3466), (2, .ref 101), (1, .ref 0), (0, .retAddr 9)]) (st' := [.int 6]) (by decide +kernel) rfl rfl ?_
    refine ab_fin.s2 (i := .aload_n 0) (k := 1) (pc' := 26) (lv' := [(4, .int 6), (6, .int 0), (5, .int 0), (3, .ref 3466), (2, .ref 101), (1, .ref 0), (0, .retAddr 9)]) (st' := [.retAddr 9, .int 6]) (by decide +kernel) rfl rfl ?_
    refine ab_fin.s8 (i := .arraylength) (k := 1) (pc' := 27) (st' := [.int 6, .int 6]) (by decide +kernel) rfl rfl rfl rfl ?_
    refine ab_fin.s1i (i := .bipush 6) (k := 2) (pc' := 29) (n := 6) (by decide +kernel) rfl (by decide +kernel) rfl ?_
    refine ab_fin.s1i (i := .isub) (k := 1) (pc' := 30) (n := 0) (by decide +kernel) rfl (by decide +kernel) rfl ?_
    refine ab_fin.brT (c := (0 : Int32) < (6 : Int32)) (i := .if_icmp .gt 1066) (off := 1066) (t := 1096) (r := []) (by decide +kernel) rfl (by decide +kernel) (by decide +kernel) ?_
    refine ab_fin.s1i (i := .iconst 1) (k := 1) (pc' := 1097) (n := 1) (by decide +kernel) rfl (by decide +kernel) rfl ?_
    refine ab_fin.ret (i := .ireturn) (k := 1) (some (.int 1)) (by decide +kernel) rfl ?_
    refine ⟨rfl, ?_, ?_⟩
    · rw [ab_ov_len, hl]; decide
    · refine Nat.le_trans (ab_ov_z _ _) ?_
      simp only [List.map, List.sum_cons, List.sum_nil, ab_z1, ab_len, List.length_set, List.length_replicate, List.length_cons, List.length_nil, p1_n101]
      omega
  by_cases q5 : (xs 1) = 2
  · rw [q5]
    refine ab_fin.s3 (i := .tableswitch 104 0 6 #[43, 53, 63, 74, 84, 92, 99]) (k := 43) (t := 64) (st' := []) (by decide +kernel) (ab_swI (off := 63) (by decide +kernel) (by decide +kernel) (by decide +kernel)) ?_
    refine ab_fin.s2 (i := .aload_n 0) (k := 1) (pc' := 65) (lv' := [(0, .ref 0), (1, .int 2)]) (st' := [.ref 0]) (by decide +kernel) rfl rfl ?_
    refine ab_fin.getf (ix := 10) (k := 0) (v := .ref 1) (pc' := 68) (by decide +kernel) rfl (ab_ov_no f_0 rfl) rfl rfl ?_
    refine ab_fin.getf (ix := 119) (k := 1) (v := .ref 10) (pc' := 71) (by decide +kernel) rfl (ab_ov_no f_1 rfl) rfl rfl ?_
    refine ab_fin.getf (ix := 123) (k := 0) (v := .int 0) (pc' := 74) (by decide +kernel) rfl (ab_ov_no f_10 rfl) rfl rfl ?_
    refine ab_fin.ret (i := .ireturn) (k := 1) (some (.int 0)) (by decide +kernel) rfl ?_
    refine ab_bk.back (pc' := 7) (st' := [.int 0, .int 0, .ref 3466]) rfl rfl ?_
    refine ab_fin.s1l (i := .i2l) (k := 1) (pc' := 8) (n := 0) (by decide +kernel) rfl (by decide +kernel) rfl ?_
    refine ab_fin.last (h1 := ab_ov h [(3466, .inr (.inl (1, .inr (.inl ((List.replicate 1 0).set 0 (0))))))]) (pc' := 9) (by decide +kernel) (ab_ov_no f_3466 rfl) (ab_bd (n := 1) (by rw [List.length_replicate]) (by decide +kernel)) (ab_ov_set rfl) rfl ?_
    refine ab_fin.s3 (i := .goto 6) (k := 3) (t := 15) (st' := []) (by decide +kernel) (ab_goto (by decide +kernel)) ?_
    refine ab_fin.s1i (i := .iconst 0) (k := 1) (pc' := 16) (n := 0) (by decide +kernel) rfl (by decide +kernel) rfl ?_
    refine ab_fin.ret (i := .ireturn) (k := 1) (some (.int 0)) (by decide +kernel) rfl ?_
    refine ab_bk.back (pc' := 463) (st' := [.int 0]) rfl rfl ?_
    refine ab_fin.s2 (i := .istore 5) (k := 2) (pc' := 465) (lv' := [(5, .int 0), (4, .int 0), (3, .ref 3466), (2, .ref 101), (1, .ref 0), (0, .retAddr 9)]) (st' := []) (by decide +kernel) rfl rfl ?_
    refine ab_fin.s2 (i := .aload_n 2) (k := 1) (pc' := 466) (lv' := [(5, .int 0), (4, .int 0), (3, .ref 3466), (2, .ref 101), (1, .ref 0), (0, .retAddr 9)]) (st' := [.ref 101]) (by decide +kernel) rfl rfl ?_
    refine ab_fin.s2 (i := .aload_n 0) (k := 1) (pc' := 467) (lv' := [(5, .int 0), (4, .int 0), (3, .ref 3466), (2, .ref 101), (1, .ref 0), (0, .retAddr 9)]) (st' := [.retAddr 9, .ref 101]) (by decide +kernel) rfl rfl ?_
    refine ab_fin.s2 (i := .iload 4) (k := 2) (pc' := 469) (lv' := [(5, .int 0), (4, .int 0), (3, .ref 3466), (2, .ref 101), (1, .ref 0), (0, .retAddr 9)]) (st' := [.int 0, .retAddr 9, .ref 101]) (by decide +kernel) rfl rfl ?_
    refine ab_fin.s1i (i := .iconst 1) (k := 1) (pc' := 470) (n := 1) (by decide +kernel) rfl (by decide +kernel) rfl ?_
    refine ab_fin.s1i (i := .iadd) (k := 1) (pc' := 471) (n := 1) (by decide +kernel) rfl (by decide +kernel) rfl ?_
    refine ab_fin.s8 (i := .iaload) (k := 1) (pc' := 472) (st' := [.int ((xs 1)), .ref 101]) (by decide +kernel) (ab_x0 rfl (by decide +kernel) rfl) rfl rfl rfl ?_
    refine ab_fin.call (i := .invokevirtual 103) (k := 3) (y := 6000) (As := [.ref 101, .int ((xs 1))]) (rest := []) (M' := (mX23_count, [])) (by decide +kernel) (ab_cv rfl rfl (ab_ov_no f_101 rfl) ⟨(Nat.le_of_ble_eq_true rfl), (Nat.le_of_ble_eq_true rfl)⟩ rfl) rfl (Nat.le_of_ble_eq_true rfl) ?_
    show ab_fin _ _ _ _ 0 [(0, .ref 101), (1, .int ((xs 1)))] [] _ _
    refine ab_fin.s2 (i := .aload_n 0) (k := 1) (pc' := 1) (lv' := [(0, .ref 101), (1, .int ((xs 1)))]) (st' := [.ref 101]) (by decide +kernel) rfl rfl ?_
    refine ab_fin.s1i (i := .iconst 0) (k := 1) (pc' := 2) (n := 0) (by decide +kernel) rfl (by decide +kernel) rfl ?_
    refine ab_fin.putf (ix := 1000) (h1 := ab_ov h [(101, .inr (.inr (24, (p1_o101).set 110 (.int 0)))), (3466, .inr (.inl (1, .inr (.inl ((List.replicate 1 0).set 0 (0))))))]) (pc' := 5) (by decide +kernel) rfl (ab_ov_no f_101 rfl) (ab_klt (n := 115) (by rw [p1_n101]) (by decide)) rfl rfl (ab_ov_set rfl) rfl ?_
    refine ab_fin.s2 (i := .iload_n 1) (k := 1) (pc' := 6) (lv' := [(0, .ref 101), (1, .int ((xs 1)))]) (st' := [.int ((xs 1))]) (by decide +kernel) rfl rfl ?_
    have q6 : (xs 1) = 2 := (by have l0 : (0 : Int32).toInt = 0 := rfl; have l1 : (1 : Int32).toInt = 1 := rfl; have l2 : (2 : Int32).toInt = 2 := rfl; simp only [← Int32.toInt_inj, Int32.lt_iff_toInt_lt, Int32.le_iff_toInt_le, l0, l1, l2] at q1 q3 q5 ⊢; omega)
    rw [q6]
    refine ab_fin.s3 (i := .tableswitch 77 0 6 #[42, 47, 52, 57, 62, 67, 72]) (k := 42) (t := 58) (st' := []) (by decide +kernel) (ab_swI (off := 52) (by decide +kernel) (by decide +kernel) (by decide +kernel)) ?_
    refine ab_fin.s2 (i := .aload_n 0) (k := 1) (pc' := 59) (lv' := [(0, .ref 101), (1, .int 2)]) (st' := [.ref 101]) (by decide +kernel) rfl rfl ?_
    refine ab_fin.getf (ix := 312) (k := 6) (v := .int 0) (pc' := 62) (by decide +kernel) rfl (ab_ov_get (lt0 101 (by decide)) rfl) rfl rfl ?_
    refine ab_fin.ret (i := .ireturn) (k := 1) (some (.int 0)) (by decide +kernel) rfl ?_
    refine ab_bk.back (pc' := 475) (st' := [.int 0]) rfl rfl ?_
    refine ab_fin.s2 (i := .istore 6) (k := 2) (pc' := 477) (lv' := [(6, .int 0), (5, .int 0), (4, .int 0), (3, .ref 3466), (2, .ref 101), (1, .ref 0), (0, .retAddr 9)]) (st' := []) (by decide +kernel) rfl rfl ?_
    refine ab_fin.s2 (i := .aload_n 2) (k := 1) (pc' := 478) (lv' := [(6, .int 0), (5, .int 0), (4, .int 0), (3, .ref 3466), (2, .ref 101), (1, .ref 0), (0, .retAddr 9)]) (st' := [.ref 101]) (by decide +kernel) rfl rfl ?_
    refine ab_fin.call (i := .invokevirtual 75) (k := 3) (y := 5992) (As := [.ref 101]) (rest := []) (M' := (mX23_thrown, [])) (by decide +kernel) (ab_cv rfl rfl (ab_ov_get (lt0 101 (by decide)) rfl) ⟨(Nat.le_of_ble_eq_true rfl), (Nat.le_of_ble_eq_true rfl)⟩ rfl) rfl (Nat.le_of_ble_eq_true rfl) ?_
    show ab_fin _ _ _ _ 0 [(0, .ref 101)] [] _ _
    refine ab_fin.s2 (i := .aload_n 0) (k := 1) (pc' := 1) (lv' := [(0, .ref 101)]) (st' := [.ref 101]) (by decide +kernel) rfl rfl ?_
    refine ab_fin.getf (ix := 1000) (k := 110) (v := .int 0) (pc' := 4) (by decide +kernel) rfl (ab_ov_get (lt0 101 (by decide)) rfl) rfl rfl ?_
    refine ab_fin.ret (i := .ireturn) (k := 1) (some (.int 0)) (by decide +kernel) rfl ?_
    refine ab_bk.back (pc' := 481) (st' := [.int 0]) rfl rfl ?_
    refine ab_fin.s2 (i := .iload 5) (k := 2) (pc' := 483) (lv' := [(6, .int 0), (5, .int 0), (4, .int 0), (3, .ref 3466), (2, .ref 101), (1, .ref 0), (0, .retAddr 9)]) (st' := [.int 0, .int 0]) (by decide +kernel) rfl rfl ?_
    refine ab_fin.brT (c := (0 : Int32) = (0 : Int32)) (i := .if_icmp .eq 5) (off := 5) (t := 488) (r := []) (by decide +kernel) rfl (by decide +kernel) (by decide +kernel) ?_
    refine ab_fin.s2 (i := .iload 5) (k := 2) (pc' := 490) (lv' := [(6, .int 0), (5, .int 0), (4, .int 0), (3, .ref 3466), (2, .ref 101), (1, .ref 0), (0, .retAddr 9)]) (st' := [.int 0]) (by decide +kernel) rfl rfl ?_
    refine ab_fin.brF (c := ¬ (0 : Int32) = 0) (i := .ifCond .ne 15) (off := 15) (t := 505) (pc' := 493) (r := []) (by decide +kernel) rfl (by decide +kernel) rfl (by decide +kernel) ?_
    refine ab_fin.s2 (i := .aload_n 3) (k := 1) (pc' := 494) (lv' := [(6, .int 0), (5, .int 0), (4, .int 0), (3, .ref 3466), (2, .ref 101), (1, .ref 0), (0, .retAddr 9)]) (st' := [.ref 3466]) (by decide +kernel) rfl rfl ?_
    refine ab_fin.s1i (i := .iconst 0) (k := 1) (pc' := 495) (n := 0) (by decide +kernel) rfl (by decide +kernel) rfl ?_
    refine ab_fin.lald (v := 0) (pc' := 496) (by decide +kernel) (ab_ov_get (lt0 3466 (by decide)) rfl) (ab_bd (n := 1) (by rw [List.length_set, List.length_replicate]) (by decide +kernel)) rfl rfl ?_
    refine ab_fin.s2 (i := .iload 6) (k := 2) (pc' := 498) (lv' := [(6, .int 0), (5, .int 0), (4, .int 0), (3, .ref 3466), (2, .ref 101), (1, .ref 0), (0, .retAddr 9)]) (st' := [.int 0, .long 0]) (by decide +kernel) rfl rfl ?_
    refine ab_fin.s1l (i := .i2l) (k := 1) (pc' := 499) (n := 0) (by decide +kernel) rfl (by decide +kernel) rfl ?_
    refine ab_fin.s1i (i := .lcmp) (k := 1) (pc' := 500) (n := 0) (by decide +kernel) rfl (by decide +kernel) rfl ?_
    refine ab_fin.brT (c := (0 : Int32) = 0) (i := .ifCond .eq 5) (off := 5) (t := 505) (r := []) (by decide +kernel) rfl (by decide +kernel) (by decide +kernel) ?_
    refine ab_fin.s3 (i := .goto 585) (k := 3) (t := 1090) (st' := []) (by decide +kernel) (ab_goto (by decide +kernel)) ?_
    refine ab_fin.inc (i := .iinc 4 6) (k := 3) (pc' := 1093) (j := 4) (n := 6) (lv' := [(6, .int 0), (5, .int 0), (3, .ref 3466), (2, .ref 101), (1, .ref 0), (0, .retAddr 9)]) (by decide +kernel) rfl (by decide +kernel) rfl ?_
    refine ab_fin.s3 (i := .goto (-1070)) (k := 3) (t := 23) (st' := []) (by decide +kernel) (ab_goto (by decide +kernel)) ?_
    refine ab_fin.s2 (i := .iload 4) (k := 2) (pc' := 25) (lv' := [(4, .int 6), (6, .int 0), (5, .int 0), (3, .ref 3466), (2, .ref 101), (1, .ref 0), (0, .retAddr 9)]) (st' := [.int 6]) (by decide +kernel) rfl rfl ?_
    refine ab_fin.s2 (i := .aload_n 0) (k := 1) (pc' := 26) (lv' := [(4, .int 6), (6, .int 0), (5, .int 0), (3, .ref 3466), (2, .ref 101), (1, .ref 0), (0, .retAddr 9)]) (st' := [.retAddr 9, .int 6]) (by decide +kernel) rfl rfl ?_
    refine ab_fin.s8 (i := .arraylength) (k := 1) (pc' := 27) (st' := [.int 6, .int 6]) (by decide +kernel) rfl rfl rfl rfl ?_
    refine ab_fin.s1i (i := .bipush 6) (k := 2) (pc' := 29) (n := 6) (by decide +kernel) rfl (by decide +kernel) rfl ?_
    refine ab_fin.s1i (i := .isub) (k := 1) (pc' := 30) (n := 0) (by decide +kernel) rfl (by decide +kernel) rfl ?_
    refine ab_fin.brT (c := (0 : Int32) < (6 : Int32)) (i := .if_icmp .gt 1066) (off := 1066) (t := 1096) (r := []) (by decide +kernel) rfl (by decide +kernel) (by decide +kernel) ?_
    refine ab_fin.s1i (i := .iconst 1) (k := 1) (pc' := 1097) (n := 1) (by decide +kernel) rfl (by decide +kernel) rfl ?_
    refine ab_fin.ret (i := .ireturn) (k := 1) (some (.int 1)) (by decide +kernel) rfl ?_
    refine ⟨rfl, ?_, ?_⟩
    · rw [ab_ov_len, hl]; decide
    · refine Nat.le_trans (ab_ov_z _ _) ?_
      simp only [List.map, List.sum_cons, List.sum_nil, ab_z1, ab_len, List.length_set, List.length_replicate, List.length_cons, List.length_nil, p1_n101]
      omega
  by_cases q7 : (xs 1) = 3
  · rw [q7]
    refine ab_fin.s3 (i := .tableswitch 104 0 6 #[43, 53, 63, 74, 84, 92, 99]) (k := 43) (t := 75) (st' := []) (by decide +kernel) (ab_swI (off := 74) (by decide +kernel) (by decide +kernel) (by decide +kernel)) ?_
    refine ab_fin.s2 (i := .aload_n 0) (k := 1) (pc' := 76) (lv' := [(0, .ref 0), (1, .int 3)]) (st' := [.ref 0]) (by decide +kernel) rfl rfl ?_
    refine ab_fin.getf (ix := 10) (k := 0) (v := .ref 1) (pc' := 79) (by decide +kernel) rfl (ab_ov_no f_0 rfl) rfl rfl ?_
    refine ab_fin.getf (ix := 148) (k := 3) (v := .ref 28) (pc' := 82) (by decide +kernel) rfl (ab_ov_no f_1 rfl) rfl rfl ?_
    refine ab_fin.s1i (i := .iconst 2) (k := 1) (pc' := 83) (n := 2) (by decide +kernel) rfl (by decide +kernel) rfl ?_
    refine ab_fin.iald (v := 0) (pc' := 84) (by decide +kernel) (ab_ov_no f_28 rfl) (ab_bd (n := 4) (by rw [p1_n28]) (by decide +kernel)) rfl rfl ?_
    refine ab_fin.ret (i := .ireturn) (k := 1) (some (.int 0)) (by decide +kernel) rfl ?_
    refine ab_bk.back (pc' := 7) (st' := [.int 0, .int 0, .ref 3466]) rfl rfl ?_
    refine ab_fin.s1l (i := .i2l) (k := 1) (pc' := 8) (n := 0) (by decide +kernel) rfl (by decide +kernel) rfl ?_
    refine ab_fin.last (h1 := ab_ov h [(3466, .inr (.inl (1, .inr (.inl ((List.replicate 1 0).set 0 (0))))))]) (pc' := 9) (by decide +kernel) (ab_ov_no f_3466 rfl) (ab_bd (n := 1) (by rw [List.length_replicate]) (by decide +kernel)) (ab_ov_set rfl) rfl ?_
    refine ab_fin.s3 (i := .goto 6) (k := 3) (t := 15) (st' := []) (by decide +kernel) (ab_goto (by decide +kernel)) ?_
    refine ab_fin.s1i (i := .iconst 0) (k := 1) (pc' := 16) (n := 0) (by decide +kernel) rfl (by decide +kernel) rfl ?_
    refine ab_fin.ret (i := .ireturn) (k := 1) (some (.int 0)) (by decide +kernel) rfl ?_
    refine ab_bk.back (pc' := 463) (st' := [.int 0]) rfl rfl ?_
    refine ab_fin.s2 (i := .istore 5) (k := 2) (pc' := 465) (lv' := [(5, .int 0), (4, .int 0), (3, .ref 3466), (2, .ref 101), (1, .ref 0), (0, .retAddr 9)]) (st' := []) (by decide +kernel) rfl rfl ?_
    refine ab_fin.s2 (i := .aload_n 2) (k := 1) (pc' := 466) (lv' := [(5, .int 0), (4, .int 0), (3, .ref 3466), (2, .ref 101), (1, .ref 0), (0, .retAddr 9)]) (st' := [.ref 101]) (by decide +kernel) rfl rfl ?_
    refine ab_fin.s2 (i := .aload_n 0) (k := 1) (pc' := 467) (lv' := [(5, .int 0), (4, .int 0), (3, .ref 3466), (2, .ref 101), (1, .ref 0), (0, .retAddr 9)]) (st' := [.retAddr 9, .ref 101]) (by decide +kernel) rfl rfl ?_
    refine ab_fin.s2 (i := .iload 4) (k := 2) (pc' := 469) (lv' := [(5, .int 0), (4, .int 0), (3, .ref 3466), (2, .ref 101), (1, .ref 0), (0, .retAddr 9)]) (st' := [.int 0, .retAddr 9, .ref 101]) (by decide +kernel) rfl rfl ?_
    refine ab_fin.s1i (i := .iconst 1) (k := 1) (pc' := 470) (n := 1) (by decide +kernel) rfl (by decide +kernel) rfl ?_
    refine ab_fin.s1i (i := .iadd) (k := 1) (pc' := 471) (n := 1) (by decide +kernel) rfl (by decide +kernel) rfl ?_
    refine ab_fin.s8 (i := .iaload) (k := 1) (pc' := 472) (st' := [.int ((xs 1)), .ref 101]) (by decide +kernel) (ab_x0 rfl (by decide +kernel) rfl) rfl rfl rfl ?_
    refine ab_fin.call (i := .invokevirtual 103) (k := 3) (y := 6000) (As := [.ref 101, .int ((xs 1))]) (rest := []) (M' := (mX23_count, [])) (by decide +kernel) (ab_cv rfl rfl (ab_ov_no f_101 rfl) ⟨(Nat.le_of_ble_eq_true rfl), (Nat.le_of_ble_eq_true rfl)⟩ rfl) rfl (Nat.le_of_ble_eq_true rfl) ?_
    show ab_fin _ _ _ _ 0 [(0, .ref 101), (1, .int ((xs 1)))] [] _ _
    refine ab_fin.s2 (i := .aload_n 0) (k := 1) (pc' := 1) (lv' := [(0, .ref 101), (1, .int ((xs 1)))]) (st' := [.ref 101]) (by decide +kernel) rfl rfl ?_
    refine ab_fin.s1i (i := .iconst 0) (k := 1) (pc' := 2) (n := 0) (by decide +kernel) rfl (by decide +kernel) rfl ?_
    refine ab_fin.putf (ix := 1000) (h1 := ab_ov h [(101, .inr (.inr (24, (p1_o101).set 110 (.int 0)))), (3466, .inr (.inl (1, .inr (.inl ((List.replicate 1 0).set 0 (0))))))]) (pc' := 5) (by decide +kernel) rfl (ab_ov_no f_101 rfl) (ab_klt (n := 115) (by rw [p1_n101]) (by decide)) rfl rfl (ab_ov_set rfl) rfl ?_
    refine ab_fin.s2 (i := .iload_n 1) (k := 1) (pc' := 6) (lv' := [(0, .ref 101), (1, .int ((xs 1)))]) (st' := [.int ((xs 1))]) (by decide +kernel) rfl rfl ?_
    have q8 : (xs 1) = 3 := (by have l0 : (0 : Int32).toInt = 0 := rfl; have l1 : (1 : Int32).toInt = 1 := rfl; have l2 : (2 : Int32).toInt = 2 := rfl; have l3 : (3 : Int32).toInt = 3 := rfl; simp only [← Int32.toInt_inj, Int32.lt_iff_toInt_lt, Int32.le_iff_toInt_le, l0, l1, l2, l3] at q1 q3 q5 q7 ⊢; omega)
    rw [q8]
    refine ab_fin.s3 (i := .tableswitch 77 0 6 #[42, 47, 52, 57, 62, 67, 72]) (k := 42) (t := 63) (st' := []) (by decide +kernel) (ab_swI (off := 57) (by decide +kernel) (by decide +kernel) (by decide +kernel)) ?_
    refine ab_fin.s2 (i := .aload_n 0) (k := 1) (pc' := 64) (lv' := [(0, .ref 101), (1, .int 3)]) (st' := [.ref 101]) (by decide +kernel) rfl rfl ?_
    refine ab_fin.getf (ix := 41) (k := 7) (v := .int 0) (pc' := 67) (by decide +kernel) rfl (ab_ov_get (lt0 101 (by decide)) rfl) rfl rfl ?_
    refine ab_fin.ret (i := .ireturn) (k := 1) (some (.int 0)) (by decide +kernel) rfl ?_
    refine ab_bk.back (pc' := 475) (st' := [.int 0]) rfl rfl ?_
    refine ab_fin.s2 (i := .istore 6) (k := 2) (pc' := 477) (lv' := [(6, .int 0), (5, .int 0), (4, .int 0), (3, .ref 3466), (2, .ref 101), (1, .ref 0), (0, .retAddr 9)]) (st' := []) (by decide +kernel) rfl rfl ?_
    refine ab_fin.s2 (i := .aload_n 2) (k := 1) (pc' := 478) (lv' := [(6, .int 0), (5, .int 0), (4, .int 0), (3, .ref 3466), (2, .ref 101), (1, .ref 0), (0, .retAddr 9)]) (st' := [.ref 101]) (by decide +kernel) rfl rfl ?_
    refine ab_fin.call (i := .invokevirtual 75) (k := 3) (y := 5992) (As := [.ref 101]) (rest := []) (M' := (mX23_thrown, [])) (by decide +kernel) (ab_cv rfl rfl (ab_ov_get (lt0 101 (by decide)) rfl) ⟨(Nat.le_of_ble_eq_true rfl), (Nat.le_of_ble_eq_true rfl)⟩ rfl) rfl (Nat.le_of_ble_eq_true rfl) ?_
    show ab_fin _ _ _ _ 0 [(0, .ref 101)] [] _ _
    refine ab_fin.s2 (i := .aload_n 0) (k := 1) (pc' := 1) (lv' := [(0, .ref 101)]) (st' := [.ref 101]) (by decide +kernel) rfl rfl ?_
    refine ab_fin.getf (ix := 1000) (k := 110) (v := .int 0) (pc' := 4) (by decide +kernel) rfl (ab_ov_get (lt0 101 (by decide)) rfl) rfl rfl ?_
    refine ab_fin.ret (i := .ireturn) (k := 1) (some (.int 0)) (by decide +kernel) rfl ?_
    refine ab_bk.back (pc' := 481) (st' := [.int 0]) rfl rfl ?_
    refine ab_fin.s2 (i := .iload 5) (k := 2) (pc' := 483) (lv' := [(6, .int 0), (5, .int 0), (4, .int 0), (3, .ref 3466), (2, .ref 101), (1, .ref 0), (0, .retAddr 9)]) (st' := [.int 0, .int 0]) (by decide +kernel) rfl rfl ?_
    refine ab_fin.brT (c := (0 : Int32) = (0 : Int32)) (i := .if_icmp .eq 5) (off := 5) (t := 488) (r := []) (by decide +kernel) rfl (by decide +kernel) (by decide +kernel) ?_
    refine ab_fin.s2 (i := .iload 5) (k := 2) (pc' := 490) (lv' := [(6, .int 0), (5, .int 0), (4, .int 0), (3, .ref 3466), (2, .ref 101), (1, .ref 0), (0, .retAddr 9)]) (st' := [.int 0]) (by decide +kernel) rfl rfl ?_
    refine ab_fin.brF (c := ¬ (0 : Int32) = 0) (i := .ifCond .ne 15) (off := 15) (t := 505) (pc' := 493) (r := []) (by decide +kernel) rfl (by decide +kernel) rfl (by decide +kernel) ?_
    refine ab_fin.s2 (i := .aload_n 3) (k := 1) (pc' := 494) (lv' := [(6, .int 0), (5, .int 0), (4, .int 0), (3, .ref 3466), (2, .ref 101), (1, .ref 0), (0, .retAddr 9)]) (st' := [.ref 3466]) (by decide +kernel) rfl rfl ?_
    refine ab_fin.s1i (i := .iconst 0) (k := 1) (pc' := 495) (n := 0) (by decide +kernel) rfl (by decide +kernel) rfl ?_
    refine ab_fin.lald (v := 0) (pc' := 496) (by decide +kernel) (ab_ov_get (lt0 3466 (by decide)) rfl) (ab_bd (n := 1) (by rw [List.length_set, List.length_replicate]) (by decide +kernel)) rfl rfl ?_
    refine ab_fin.s2 (i := .iload 6) (k := 2) (pc' := 498) (lv' := [(6, .int 0), (5, .int 0), (4, .int 0), (3, .ref 3466), (2, .ref 101), (1, .ref 0), (0, .retAddr 9)]) (st' := [.int 0, .long 0]) (by decide +kernel) rfl rfl ?_
    refine ab_fin.s1l (i := .i2l) (k := 1) (pc' := 499) (n := 0) (by decide +kernel) rfl (by decide +kernel) rfl ?_
    refine ab_fin.s1i (i := .lcmp) (k := 1) (pc' := 500) (n := 0) (by decide +kernel) rfl (by decide +kernel) rfl ?_
    refine ab_fin.brT (c := (0 : Int32) = 0) (i := .ifCond .eq 5) (off := 5) (t := 505) (r := []) (by decide +kernel) rfl (by decide +kernel) (by decide +kernel) ?_
    refine ab_fin.s3 (i := .goto 585) (k := 3) (t := 1090) (st' := []) (by decide +kernel) (ab_goto (by decide +kernel)) ?_
    refine ab_fin.inc (i := .iinc 4 6) (k := 3) (pc' := 1093) (j := 4) (n := 6) (lv' := [(6, .int 0), (5, .int 0), (3, .ref 3466), (2, .ref 101), (1, .ref 0), (0, .retAddr 9)]) (by decide +kernel) rfl (by decide +kernel) rfl ?_
    refine ab_fin.s3 (i := .goto (-1070)) (k := 3) (t := 23) (st' := []) (by decide +kernel) (ab_goto (by decide +kernel)) ?_
    refine ab_fin.s2 (i := .iload 4) (k := 2) (pc' := 25) (lv' := [(4, .int 6), (6, .int 0), (5, .int 0), (3, .ref 3466), (2, .ref 101), (1, .ref 0), (0, .retAddr 9)]) (st' := [.int 6]) (by decide +kernel) rfl rfl ?_
    refine ab_fin.s2 (i := .aload_n 0) (k := 1) (pc' := 26) (lv' := [(4, .int 6), (6, .int 0), (5, .int 0), (3, .ref 3466), (2, .ref 101), (1, .ref 0), (0, .retAddr 9)]) (st' := [.retAddr 9, .int 6]) (by decide +kernel) rfl rfl ?_
    refine ab_fin.s8 (i := .arraylength) (k := 1) (pc' := 27) (st' := [.int 6, .int 6]) (by decide +kernel) rfl rfl rfl rfl ?_
    refine ab_fin.s1i (i := .bipush 6) (k := 2) (pc' := 29) (n := 6) (by decide +kernel) rfl (by decide +kernel) rfl ?_
    refine ab_fin.s1i (i := .isub) (k := 1) (pc' := 30) (n := 0) (by decide +kernel) rfl (by decide +kernel) rfl ?_
    refine ab_fin.brT (c := (0 : Int32) < (6 : Int32)) (i := .if_icmp .gt 1066) (off := 1066) (t := 1096) (r := []) (by decide +kernel) rfl (by decide +kernel) (by decide +kernel) ?_
    refine ab_fin.s1i (i := .iconst 1) (k := 1) (pc' := 1097) (n := 1) (by decide +kernel) rfl (by decide +kernel) rfl ?_
    refine ab_fin.ret (i := .ireturn) (k := 1) (some (.int 1)) (by decide +kernel) rfl ?_
    refine ⟨rfl, ?_, ?_⟩
    · rw [ab_ov_len, hl]; decide
    · refine Nat.le_trans (ab_ov_z _ _) ?_
      simp only [List.map, List.sum_cons, List.sum_nil, ab_z1, ab_len, List.length_set, List.length_replicate, List.length_cons, List.length_nil, p1_n101]
      omega
  by_cases q9 : (xs 1) = 4
  · rw [q9]
    refine ab_fin.s3 (i := .tableswitch 104 0 6 #[43, 53, 63, 74, 84, 92, 99]) (k := 43) (t := 85) (st' := []) (by decide +kernel) (ab_swI (off := 84) (by decide +kernel) (by decide +kernel) (by decide +kernel)) ?_
    refine ab_fin.s2 (i := .aload_n 0) (k := 1) (pc' := 86) (lv' := [(0, .ref 0), (1, .int 4)]) (st' := [.ref 0]) (by decide +kernel) rfl rfl ?_
    refine ab_fin.getf (ix := 21) (k := 1) (v := .ref 40) (pc' := 89) (by decide +kernel) rfl (ab_ov_no f_0 rfl) rfl rfl ?_
    refine ab_fin.getf (ix := 151) (k := 2) (v := .int 0) (pc' := 92) (by decide +kernel) rfl (ab_ov_no f_40 rfl) rfl rfl ?_
    refine ab_fin.ret (i := .ireturn) (k := 1) (some (.int 0)) (by decide +kernel) rfl ?_
    refine ab_bk.back (pc' := 7) (st' := [.int 0, .int 0, .ref 3466]) rfl rfl ?_
    refine ab_fin.s1l (i := .i2l) (k := 1) (pc' := 8) (n := 0) (by decide +kernel) rfl (by decide +kernel) rfl ?_
    refine ab_fin.last (h1 := ab_ov h [(3466, .inr (.inl (1, .inr (.inl ((List.replicate 1 0).set 0 (0))))))]) (pc' := 9) (by decide +kernel) (ab_ov_no f_3466 rfl) (ab_bd (n := 1) (by rw [List.length_replicate]) (by decide +kernel)) (ab_ov_set rfl) rfl ?_
    refine ab_fin.s3 (i := .goto 6) (k := 3) (t := 15) (st' := []) (by decide +kernel) (ab_goto (by decide +kernel)) ?_
    refine ab_fin.s1i (i := .iconst 0) (k := 1) (pc' := 16) (n := 0) (by decide +kernel) rfl (by decide +kernel) rfl ?_
    refine ab_fin.ret (i := .ireturn) (k := 1) (some (.int 0)) (by decide +kernel) rfl ?_
    refine ab_bk.back (pc' := 463) (st' := [.int 0]) rfl rfl ?_
    refine ab_fin.s2 (i := .istore 5) (k := 2) (pc' := 465) (lv' := [(5, .int 0), (4, .int 0), (3, .ref 3466), (2, .ref 101), (1, .ref 0), (0, .retAddr 9)]) (st' := []) (by decide +kernel) rfl rfl ?_
    refine ab_fin.s2 (i := .aload_n 2) (k := 1) (pc' := 466) (lv' := [(5, .int 0), (4, .int 0), (3, .ref 3466), (2, .ref 101), (1, .ref 0), (0, .retAddr 9)]) (st' := [.ref 101]) (by decide +kernel) rfl rfl ?_
    refine ab_fin.s2 (i := .aload_n 0) (k := 1) (pc' := 467) (lv' := [(5, .int 0), (4, .int 0), (3, .ref 3466), (2, .ref 101), (1, .ref 0), (0, .retAddr 9)]) (st' := [.retAddr 9, .ref 101]) (by decide +kernel) rfl rfl ?_
    refine ab_fin.s2 (i := .iload 4) (k := 2) (pc' := 469) (lv' := [(5, .int 0), (4, .int 0), (3, .ref 3466), (2, .ref 101), (1, .ref 0), (0, .retAddr 9)]) (st' := [.int 0, .retAddr 9, .ref 101]) (by decide +kernel) rfl rfl ?_
    refine ab_fin.s1i (i := .iconst 1) (k := 1) (pc' := 470) (n := 1) (by decide +kernel) rfl (by decide +kernel) rfl ?_
    refine ab_fin.s1i (i := .iadd) (k := 1) (pc' := 471) (n := 1) (by decide +kernel) rfl (by decide +kernel) rfl ?_
    refine ab_fin.s8 (i := .iaload) (k := 1) (pc' := 472) (st' := [.int ((xs 1)), .ref 101]) (by decide +kernel) (ab_x0 rfl (by decide +kernel) rfl) rfl rfl rfl ?_
    refine ab_fin.call (i := .invokevirtual 103) (k := 3) (y := 6000) (As := [.ref 101, .int ((xs 1))]) (rest := []) (M' := (mX23_count, [])) (by decide +kernel) (ab_cv rfl rfl (ab_ov_no f_101 rfl) ⟨(Nat.le_of_ble_eq_true rfl), (Nat.le_of_ble_eq_true rfl)⟩ rfl) rfl (Nat.le_of_ble_eq_true rfl) ?_
    show ab_fin _ _ _ _ 0 [(0, .ref 101), (1, .int ((xs 1)))] [] _ _
    refine ab_fin.s2 (i := .aload_n 0) (k := 1) (pc' := 1) (lv' := [(0, .ref 101), (1, .int ((xs 1)))]) (st' := [.ref 101]) (by decide +kernel) rfl rfl ?_
    refine ab_fin.s1i (i := .iconst 0) (k := 1) (pc' := 2) (n := 0) (by decide +kernel) rfl (by decide +kernel) rfl ?_
    refine ab_fin.putf (ix := 1000) (h1 := ab_ov h [(101, .inr (.inr (24, (p1_o101).set 110 (.int 0)))), (3466, .inr (.inl (1, .inr (.inl ((List.replicate 1 0).set 0 (0))))))]) (pc' := 5) (by decide +kernel) rfl (ab_ov_no f_101 rfl) (ab_klt (n := 115) (by rw [p1_n101]) (by decide)) rfl rfl (ab_ov_set rfl) rfl ?_
    refine ab_fin.s2 (i := .iload_n 1) (k := 1) (pc' := 6) (lv' := [(0, .ref 101), (1, .int ((xs 1)))]) (st' := [.int ((xs 1))]) (by decide +kernel) rfl rfl ?_
    have q10 : (xs 1) = 4 := (by have l0 : (0 : Int32).toInt = 0 := rfl; have l1 : (1 : Int32).toInt = 1 := rfl; have l2 : (2 : Int32).toInt = 2 := rfl; have l3 : (3 : Int32).toInt = 3 := rfl; have l4 : (4 : Int32).toInt = 4 := rfl; simp only [← Int32.toInt_inj, Int32.lt_iff_toInt_lt, Int32.le_iff_toInt_le, l0, l1, l2, l3, l4] at q1 q3 q5 q7 q9 ⊢; omega)
    rw [q10]
    refine ab_fin.s3 (i := .tableswitch 77 0 6 #[42, 47, 52, 57, 62, 67, 72]) (k := 42) (t := 68) (st' := []) (by decide +kernel) (ab_swI (off := 62) (by decide +kernel) (by decide +kernel) (by decide +kernel)) ?_
    refine ab_fin.s2 (i := .aload_n 0) (k := 1) (pc' := 69) (lv' := [(0, .ref 101), (1, .int 4)]) (st' := [.ref 101]) (by decide +kernel) rfl rfl ?_
    refine ab_fin.getf (ix := 1010) (k := 112) (v := .int 0) (pc' := 72) (by decide +kernel) rfl (ab_ov_get (lt0 101 (by decide)) rfl) rfl rfl ?_
    refine ab_fin.ret (i := .ireturn) (k := 1) (some (.int 0)) (by decide +kernel) rfl ?_
    refine ab_bk.back (pc' := 475) (st' := [.int 0]) rfl rfl ?_
    refine ab_fin.s2 (i := .istore 6) (k := 2) (pc' := 477) (lv' := [(6, .int 0), (5, .int 0), (4, .int 0), (3, .ref 3466), (2, .ref 101), (1, .ref 0), (0, .retAddr 9)]) (st' := []) (by decide +kernel) rfl rfl ?_
    refine ab_fin.s2 (i := .aload_n 2) (k := 1) (pc' := 478) (lv' := [(6, .int 0), (5, .int 0), (4, .int 0), (3, .ref 3466), (2, .ref 101), (1, .ref 0), (0, .retAddr 9)]) (st' := [.ref 101]) (by decide +kernel) rfl rfl ?_
    refine ab_fin.call (i := .invokevirtual 75) (k := 3) (y := 5992) (As := [.ref 101]) (rest := []) (M' := (mX23_thrown, [])) (by decide +kernel) (ab_cv rfl rfl (ab_ov_get (lt0 101 (by decide)) rfl) ⟨(Nat.le_of_ble_eq_true rfl), (Nat.le_of_ble_eq_true rfl)⟩ rfl) rfl (Nat.le_of_ble_eq_true rfl) ?_
    show ab_fin _ _ _ _ 0 [(0, .ref 101)] [] _ _
    refine ab_fin.s2 (i := .aload_n 0) (k := 1) (pc' := 1) (lv' := [(0, .ref 101)]) (st' := [.ref 101]) (by decide +kernel) rfl rfl ?_
    refine ab_fin.getf (ix := 1000) (k := 110) (v := .int 0) (pc' := 4) (by decide +kernel) rfl (ab_ov_get (lt0 101 (by decide)) rfl) rfl rfl ?_
    refine ab_fin.ret (i := .ireturn) (k := 1) (some (.int 0)) (by decide +kernel) rfl ?_
    refine ab_bk.back (pc' := 481) (st' := [.int 0]) rfl rfl ?_
    refine ab_fin.s2 (i := .iload 5) (k := 2) (pc' := 483) (lv' := [(6, .int 0), (5, .int 0), (4, .int 0), (3, .ref 3466), (2, .ref 101), (1, .ref 0), (0, .retAddr 9)]) (st' := [.int 0, .int 0]) (by decide +kernel) rfl rfl ?_
    refine ab_fin.brT (c := (0 : Int32) = (0 : Int32)) (i := .if_icmp .eq 5) (off := 5) (t := 488) (r := []) (by decide +kernel) rfl (by decide +kernel) (by decide +kernel) ?_
    refine ab_fin.s2 (i := .iload 5) (k := 2) (pc' := 490) (lv' := [(6, .int 0), (5, .int 0), (4, .int 0), (3, .ref 3466), (2, .ref 101), (1, .ref 0), (0, .retAddr 9)]) (st' := [.int 0]) (by decide +kernel) rfl rfl ?_
    refine ab_fin.brF (c := ¬ (0 : Int32) = 0) (i := .ifCond .ne 15) (off := 15) (t := 505) (pc' := 493) (r := []) (by decide +kernel) rfl (by decide +kernel) rfl (by decide +kernel) ?_
    refine ab_fin.s2 (i := .aload_n 3) (k := 1) (pc' := 494) (lv' := [(6, .int 0), (5, .int 0), (4, .int 0), (3, .ref 3466), (2, .ref 101), (1, .ref 0), (0, .retAddr 9)]) (st' := [.ref 3466]) (by decide +kernel) rfl rfl ?_
    refine ab_fin.s1i (i := .iconst 0) (k := 1) (pc' := 495) (n := 0) (by decide +kernel) rfl (by decide +kernel) rfl ?_
    refine ab_fin.lald (v := 0) (pc' := 496) (by decide +kernel) (ab_ov_get (lt0 3466 (by decide)) rfl) (ab_bd (n := 1) (by rw [List.length_set, List.length_replicate]) (by decide +kernel)) rfl rfl ?_
    refine ab_fin.s2 (i := .iload 6) (k := 2) (pc' := 498) (lv' := [(6, .int 0), (5, .int 0), (4, .int 0), (3, .ref 3466), (2, .ref 101), (1, .ref 0), (0, .retAddr 9)]) (st' := [.int 0, .long 0]) (by decide +kernel) rfl rfl ?_
    refine ab_fin.s1l (i := .i2l) (k := 1) (pc' := 499) (n := 0) (by decide +kernel) rfl (by decide +kernel) rfl ?_
    refine ab_fin.s1i (i := .lcmp) (k := 1) (pc' := 500) (n := 0) (by decide +kernel) rfl (by decide +kernel) rfl ?_
    refine ab_fin.brT (c := (0 : Int32) = 0) (i := .ifCond .eq 5) (off := 5) (t := 505) (r := []) (by decide +kernel) rfl (by decide +kernel) (by decide +kernel) ?_
    refine ab_fin.s3 (i := .goto 585) (k := 3) (t := 1090) (st' := []) (by decide +kernel) (ab_goto (by decide +kernel)) ?_
    refine ab_fin.inc (i := .iinc 4 6) (k := 3) (pc' := 1093) (j := 4) (n := 6) (lv' := [(6, .int 0), (5, .int 0), (3, .ref 3466), (2, .ref 101), (1, .ref 0), (0, .retAddr 9)]) (by decide +kernel) rfl (by decide +kernel) rfl ?_
    refine ab_fin.s3 (i := .goto (-1070)) (k := 3) (t := 23) (st' := []) (by decide +kernel) (ab_goto (by decide +kernel)) ?_
    refine ab_fin.s2 (i := .iload 4) (k := 2) (pc' := 25) (lv' := [(4, .int 6), (6, .int 0), (5, .int 0), (3, .ref 3466), (2, .ref 101), (1, .ref 0), (0, .retAddr 9)]) (st' := [.int 6]) (by decide +kernel) rfl rfl ?_
    refine ab_fin.s2 (i := .aload_n 0) (k := 1) (pc' := 26) (lv' := [(4, .int 6), (6, .int 0), (5, .int 0), (3, .ref 3466), (2, .ref 101), (1, .ref 0), (0, .retAddr 9)]) (st' := [.retAddr 9, .int 6]) (by decide +kernel) rfl rfl ?_
    refine ab_fin.s8 (i := .arraylength) (k := 1) (pc' := 27) (st' := [.int 6, .int 6]) (by decide +kernel) rfl rfl rfl rfl ?_
    refine ab_fin.s1i (i := .bipush 6) (k := 2) (pc' := 29) (n := 6) (by decide +kernel) rfl (by decide +kernel) rfl ?_
    refine ab_fin.s1i (i := .isub) (k := 1) (pc' := 30) (n := 0) (by decide +kernel) rfl (by decide +kernel) rfl ?_
    refine ab_fin.brT (c := (0 : Int32) < (6 : Int32)) (i := .if_icmp .gt 1066) (off := 1066) (t := 1096) (r := []) (by decide +kernel) rfl (by decide +kernel) (by decide +kernel) ?_
    refine ab_fin.s1i (i := .iconst 1) (k := 1) (pc' := 1097) (n := 1) (by decide +kernel) rfl (by decide +kernel) rfl ?_
    refine ab_fin.ret (i := .ireturn) (k := 1) (some (.int 1)) (by decide +kernel) rfl ?_
    refine ⟨rfl, ?_, ?_⟩
    · rw [ab_ov_len, hl]; decide
    · refine Nat.le_trans (ab_ov_z _ _) ?_
      simp only [List.map, List.sum_cons, List.sum_nil, ab_z1, ab_len, List.length_set, List.length_replicate, List.length_cons, List.length_nil, p1_n101]
      omega
  by_cases q11 : (xs 1) = 5
  · rw [q11]
    refine ab_fin.s3 (i := .tableswitch 104 0 6 #[43, 53, 63, 74, 84, 92, 99]) (k := 43) (t := 93) (st' := []) (by decide +kernel) (ab_swI (off := 92) (by decide +kernel) (by decide +kernel) (by decide +kernel)) ?_
    refine ab_fin.s1i (i := .iconst 2) (k := 1) (pc' := 94) (n := 2) (by decide +kernel) rfl (by decide +kernel) rfl ?_
    refine ab_fin.s2 (i := .aload_n 0) (k := 1) (pc' := 95) (lv' := [(0, .ref 0), (1, .int 5)]) (st' := [.ref 0, .int 2]) (by decide +kernel) rfl rfl ?_
    refine ab_fin.getf (ix := 154) (k := 10) (v := .int 0) (pc' := 98) (by decide +kernel) rfl (ab_ov_no f_0 rfl) rfl rfl ?_
    refine ab_fin.s1i (i := .imul) (k := 1) (pc' := 99) (n := 0) (by decide +kernel) rfl (by decide +kernel) rfl ?_
    refine ab_fin.ret (i := .ireturn) (k := 1) (some (.int 0)) (by decide +kernel) rfl ?_
    refine ab_bk.back (pc' := 7) (st' := [.int 0, .int 0, .ref 3466]) rfl rfl ?_
    refine ab_fin.s1l (i := .i2l) (k := 1) (pc' := 8) (n := 0) (by decide +kernel) rfl (by decide +kernel) rfl ?_
    refine ab_fin.last (h1 := ab_ov h [(3466, .inr (.inl (1, .inr (.inl ((List.replicate 1 0).set 0 (0))))))]) (pc' := 9) (by decide +kernel) (ab_ov_no f_3466 rfl) (ab_bd (n := 1) (by rw [List.length_replicate]) (by decide +kernel)) (ab_ov_set rfl) rfl ?_
    refine ab_fin.s3 (i := .goto 6) (k := 3) (t := 15) (st' := []) (by decide +kernel) (ab_goto (by decide +kernel)) ?_
    refine ab_fin.s1i (i := .iconst 0) (k := 1) (pc' := 16) (n := 0) (by decide +kernel) rfl (by decide +kernel) rfl ?_
    refine ab_fin.ret (i := .ireturn) (k := 1) (some (.int 0)) (by decide +kernel) rfl ?_
    refine ab_bk.back (pc' := 463) (st' := [.int 0]) rfl rfl ?_
    refine ab_fin.s2 (i := .istore 5) (k := 2) (pc' := 465) (lv' := [(5, .int 0), (4, .int 0), (3, .ref 3466), (2, .ref 101), (1, .ref 0), (0, .retAddr 9)]) (st' := []) (by decide +kernel) rfl rfl ?_
    refine ab_fin.s2 (i := .aload_n 2) (k := 1) (pc' := 466) (lv' := [(5, .int 0), (4, .int 0), (3, .ref 3466), (2, .ref 101), (1, .ref 0), (0, .retAddr 9)]) (st' := [.ref 101]) (by decide +kernel) rfl rfl ?_
    refine ab_fin.s2 (i := .aload_n 0) (k := 1) (pc' := 467) (lv' := [(5, .int 0), (4, .int 0), (3, .ref 3466), (2, .ref 101), (1, .ref 0), (0, .retAddr 9)]) (st' := [.retAddr 9, .ref 101]) (by decide +kernel) rfl rfl ?_
    refine ab_fin.s2 (i := .iload 4) (k := 2) (pc' := 469) (lv' := [(5, .int 0), (4, .int 0), (3, .ref 3466), (2, .ref 101), (1, .ref 0), (0, .retAddr 9)]) (st' := [.int 0, .retAddr 9, .ref 101]) (by decide +kernel) rfl rfl ?_
    refine ab_fin.s1i (i := .iconst 1) (k := 1) (pc' := 470) (n := 1) (by decide +kernel) rfl (by decide +kernel) rfl ?_
    refine ab_fin.s1i (i := .iadd) (k := 1) (pc' := 471) (n := 1) (by decide +kernel) rfl (by decide +kernel) rfl ?_
    refine ab_fin.s8 (i := .iaload) (k := 1) (pc' := 472) (st' := [.int ((xs 1)), .ref 101]) (by decide +kernel) (ab_x0 rfl (by decide +kernel) rfl) rfl rfl rfl ?_
    refine ab_fin.call (i := .invokevirtual 103) (k := 3) (y := 6000) (As := [.ref 101, .int ((xs 1))]) (rest := []) (M' := (mX23_count, [])) (by decide +kernel) (ab_cv rfl rfl (ab_ov_no f_101 rfl) ⟨(Nat.le_of_ble_eq_true rfl), (Nat.le_of_ble_eq_true rfl)⟩ rfl) rfl (Nat.le_of_ble_eq_true rfl) ?_
    show ab_fin _ _ _ _ 0 [(0, .ref 101), (1, .int ((xs 1)))] [] _ _
    refine ab_fin.s2 (i := .aload_n 0) (k := 1) (pc' := 1) (lv' := [(0, .ref 101), (1, .int ((xs 1)))]) (st' := [.ref 101]) (by decide +kernel) rfl rfl ?_
    refine ab_fin.s1i (i := .iconst 0) (k := 1) (pc' := 2) (n := 0) (by decide +kernel) rfl (by decide +kernel) rfl ?_
    refine ab_fin.putf (ix := 1000) (h1 := ab_ov h [(101, .inr (.inr (24, (p1_o101).set 110 (.int 0)))), (3466, .inr (.inl (1, .inr (.inl ((List.replicate 1 0).set 0 (0))))))]) (pc' := 5) (by decide +kernel) rfl (ab_ov_no f_101 rfl) (ab_klt (n := 115) (by rw [p1_n101]) (by decide)) rfl rfl (ab_ov_set rfl) rfl ?_
    refine ab_fin.s2 (i := .iload_n 1) (k := 1) (pc' := 6) (lv' := [(0, .ref 101), (1, .int ((xs 1)))]) (st' := [.int ((xs 1))]) (by decide +kernel) rfl rfl ?_
    have q12 : (xs 1) = 5 := (by have l0 : (0 : Int32).toInt = 0 := rfl; have l1 : (1 : Int32).toInt = 1 := rfl; have l2 : (2 : Int32).toInt = 2 := rfl; have l3 : (3 : Int32).toInt = 3 := rfl; have l4 : (4 : Int32).toInt = 4 := rfl; have l5 : (5 : Int32).toInt = 5 := rfl; simp only [← Int32.toInt_inj, Int32.lt_iff_toInt_lt, Int32.le_iff_toInt_le, l0, l1, l2, l3, l4, l5] at q1 q3 q5 q7 q9 q11 ⊢; omega)
    rw [q12]
    refine ab_fin.s3 (i := .tableswitch 77 0 6 #[42, 47, 52, 57, 62, 67, 72]) (k := 42) (t := 73) (st' := []) (by decide +kernel) (ab_swI (off := 67) (by decide +kernel) (by decide +kernel) (by decide +kernel)) ?_
    refine ab_fin.s2 (i := .aload_n 0) (k := 1) (pc' := 74) (lv' := [(0, .ref 101), (1, .int 5)]) (st' := [.ref 101]) (by decide +kernel) rfl rfl ?_
    refine ab_fin.getf (ix := 1015) (k := 111) (v := .int 0) (pc' := 77) (by decide +kernel) rfl (ab_ov_get (lt0 101 (by decide)) rfl) rfl rfl ?_
    refine ab_fin.ret (i := .ireturn) (k := 1) (some (.int 0)) (by decide +kernel) rfl ?_
    refine ab_bk.back (pc' := 475) (st' := [.int 0]) rfl rfl ?_
    refine ab_fin.s2 (i := .istore 6) (k := 2) (pc' := 477) (lv' := [(6, .int 0), (5, .int 0), (4, .int 0), (3, .ref 3466), (2, .ref 101), (1, .ref 0), (0, .retAddr 9)]) (st' := []) (by decide +kernel) rfl rfl ?_
    refine ab_fin.s2 (i := .aload_n 2) (k := 1) (pc' := 478) (lv' := [(6, .int 0), (5, .int 0), (4, .int 0), (3, .ref 3466), (2, .ref 101), (1, .ref 0), (0, .retAddr 9)]) (st' := [.ref 101]) (by decide +kernel) rfl rfl ?_
    refine ab_fin.call (i := .invokevirtual 75) (k := 3) (y := 5992) (As := [.ref 101]) (rest := []) (M' := (mX23_thrown, [])) (by decide +kernel) (ab_cv rfl rfl (ab_ov_get (lt0 101 (by decide)) rfl) ⟨(Nat.le_of_ble_eq_true rfl), (Nat.le_of_ble_eq_true rfl)⟩ rfl) rfl (Nat.le_of_ble_eq_true rfl) ?_
    show ab_fin _ _ _ _ 0 [(0, .ref 101)] [] _ _
    refine ab_fin.s2 (i := .aload_n 0) (k := 1) (pc' := 1) (lv' := [(0, .ref 101)]) (st' := [.ref 101]) (by decide +kernel) rfl rfl ?_
    refine ab_fin.getf (ix := 1000) (k := 110) (v := .int 0) (pc' := 4) (by decide +kernel) rfl (ab_ov_get (lt0 101 (by decide)) rfl) rfl rfl ?_
    refine ab_fin.ret (i := .ireturn) (k := 1) (some (.int 0)) (by decide +kernel) rfl ?_
    refine ab_bk.back (pc' := 481) (st' := [.int 0]) rfl rfl ?_
    refine ab_fin.s2 (i := .iload 5) (k := 2) (pc' := 483) (lv' := [(6, .int 0), (5, .int 0), (4, .int 0), (3, .ref 3466), (2, .ref 101), (1, .ref 0), (0, .retAddr 9)]) (st' := [.int 0, .int 0]) (by decide +kernel) rfl rfl ?_
    refine ab_fin.brT (c := (0 : Int32) = (0 : Int32)) (i := .if_icmp .eq 5) (off := 5) (t := 488) (r := []) (by decide +kernel) rfl (by decide +kernel) (by decide +kernel) ?_
    refine ab_fin.s2 (i := .iload 5) (k := 2) (pc' := 490) (lv' := [(6, .int 0), (5, .int 0), (4, .int 0), (3, .ref 3466), (2, .ref 101), (1, .ref 0), (0, .retAddr 9)]) (st' := [.int 0]) (by decide +kernel) rfl rfl ?_
    refine ab_fin.brF (c := ¬ (0 : Int32) = 0) (i := .ifCond .ne 15) (off := 15) (t := 505) (pc' := 493) (r := []) (by decide +kernel) rfl (by decide +kernel) rfl (by decide +kernel) ?_
    refine ab_fin.s2 (i := .aload_n 3) (k := 1) (pc' := 494) (lv' := [(6, .int 0), (5, .int 0), (4, .int 0), (3, .ref 3466), (2, .ref 101), (1, .ref 0), (0, .retAddr 9)]) (st' := [.ref 3466]) (by decide +kernel) rfl rfl ?_
    refine ab_fin.s1i (i := .iconst 0) (k := 1) (pc' := 495) (n := 0) (by decide +kernel) rfl (by decide +kernel) rfl ?_
    refine ab_fin.lald (v := 0) (pc' := 496) (by decide +kernel) (ab_ov_get (lt0 3466 (by decide)) rfl) (ab_bd (n := 1) (by rw [List.length_set, List.length_replicate]) (by decide +kernel)) rfl rfl ?_
    refine ab_fin.s2 (i := .iload 6) (k := 2) (pc' := 498) (lv' := [(6, .int 0), (5, .int 0), (4, .int 0), (3, .ref 3466), (2, .ref 101), (1, .ref 0), (0, .retAddr 9)]) (st' := [.int 0, .long 0]) (by decide +kernel) rfl rfl ?_
    refine ab_fin.s1l (i := .i2l) (k := 1) (pc' := 499) (n := 0) (by decide +kernel) rfl (by decide +kernel) rfl ?_
    refine ab_fin.s1i (i := .lcmp) (k := 1) (pc' := 500) (n := 0) (by decide +kernel) rfl (by decide +kernel) rfl ?_
    refine ab_fin.brT (c := (0 : Int32) = 0) (i := .ifCond .eq 5) (off := 5) (t := 505) (r := []) (by decide +kernel) rfl (by decide +kernel) (by decide +kernel) ?_
    refine ab_fin.s3 (i := .goto 585) (k := 3) (t := 1090) (st' := []) (by decide +kernel) (ab_goto (by decide +kernel)) ?_
    refine ab_fin.inc (i := .iinc 4 6) (k := 3) (pc' := 1093) (j := 4) (n := 6) (lv' := [(6, .int 0), (5, .int 0), (3, .ref 3466), (2, .ref 101), (1, .ref 0), (0, .retAddr 9)]) (by decide +kernel) rfl (by decide +kernel) rfl ?_
    refine ab_fin.s3 (i := .goto (-1070)) (k := 3) (t := 23) (st' := []) (by decide +kernel) (ab_goto (by decide +kernel)) ?_
    refine ab_fin.s2 (i := .iload 4) (k := 2) (pc' := 25) (lv' := [(4, .int 6), (6, .int 0), (5, .int 0), (3, .ref 3466), (2, .ref 101), (1, .ref 0), (0, .retAddr 9)]) (st' := [.int 6]) (by decide +kernel) rfl rfl ?_
    refine ab_fin.s2 (i := .aload_n 0) (k := 1) (pc' := 26) (lv' := [(4, .int 6), (6, .int 0), (5, .int 0), (3, .ref 3466), (2, .ref 101), (1, .ref 0), (0, .retAddr 9)]) (st' := [.retAddr 9, .int 6]) (by decide +kernel) rfl rfl ?_
    refine ab_fin.s8 (i := .arraylength) (k := 1) (pc' := 27) (st' := [.int 6, .int 6]) (by decide +kernel) rfl rfl rfl rfl ?_
    refine ab_fin.s1i (i := .bipush 6) (k := 2) (pc' := 29) (n := 6) (by decide +kernel) rfl (by decide +kernel) rfl ?_
    refine ab_fin.s1i (i := .isub) (k := 1) (pc' := 30) (n := 0) (by decide +kernel) rfl (by decide +kernel) rfl ?_
    refine ab_fin.brT (c := (0 : Int32) < (6 : Int32)) (i := .if_icmp .gt 1066) (off := 1066) (t := 1096) (r := []) (by decide +kernel) rfl (by decide +kernel) (by decide +kernel) ?_
    refine ab_fin.s1i (i := .iconst 1) (k := 1) (pc' := 1097) (n := 1) (by decide +kernel) rfl (by decide +kernel) rfl ?_
    refine ab_fin.ret (i := .ireturn) (k := 1) (some (.int 1)) (by decide +kernel) rfl ?_
    refine ⟨rfl, ?_, ?_⟩
    · rw [ab_ov_len, hl]; decide
    · refine Nat.le_trans (ab_ov_z _ _) ?_
      simp only [List.map, List.sum_cons, List.sum_nil, ab_z1, ab_len, List.length_set, List.length_replicate, List.length_cons, List.length_nil, p1_n101]
      omega
  by_cases q13 : (xs 1) = 6
  · rw [q13]
    refine ab_fin.s3 (i := .tableswitch 104 0 6 #[43, 53, 63, 74, 84, 92, 99]) (k := 43) (t := 100) (st' := []) (by decide +kernel) (ab_swI (off := 99) (by decide +kernel) (by decide +kernel) (by decide +kernel)) ?_
    refine ab_fin.s2 (i := .aload_n 0) (k := 1) (pc' := 101) (lv' := [(0, .ref 0), (1, .int 6)]) (st' := [.ref 0]) (by decide +kernel) rfl rfl ?_
    refine ab_fin.getf (ix := 77) (k := 9) (v := .int 0) (pc' := 104) (by decide +kernel) rfl (ab_ov_no f_0 rfl) rfl rfl ?_
    refine ab_fin.ret (i := .ireturn) (k := 1) (some (.int 0)) (by decide +kernel) rfl ?_
    refine ab_bk.back (pc' := 7) (st' := [.int 0, .int 0, .ref 3466]) rfl rfl ?_
    refine ab_fin.s1l (i := .i2l) (k := 1) (pc' := 8) (n := 0) (by decide +kernel) rfl (by decide +kernel) rfl ?_
    refine ab_fin.last (h1 := ab_ov h [(3466, .inr (.inl (1, .inr (.inl ((List.replicate 1 0).set 0 (0))))))]) (pc' := 9) (by decide +kernel) (ab_ov_no f_3466 rfl) (ab_bd (n := 1) (by rw [List.length_replicate]) (by decide +kernel)) (ab_ov_set rfl) rfl ?_
    refine ab_fin.s3 (i := .goto 6) (k := 3) (t := 15) (st' := []) (by decide +kernel) (ab_goto (by decide +kernel)) ?_
    refine ab_fin.s1i (i := .iconst 0) (k := 1) (pc' := 16) (n := 0) (by decide +kernel) rfl (by decide +kernel) rfl ?_
    refine ab_fin.ret (i := .ireturn) (k := 1) (some (.int 0)) (by decide +kernel) rfl ?_
    refine ab_bk.back (pc' := 463) (st' := [.int 0]) rfl rfl ?_
    refine ab_fin.s2 (i := .istore 5) (k := 2) (pc' := 465) (lv' := [(5, .int 0), (4, .int 0), (3, .ref 3466), (2, .ref 101), (1, .ref 0), (0, .retAddr 9)]) (st' := []) (by decide +kernel) rfl rfl ?_
    refine ab_fin.s2 (i := .aload_n 2) (k := 1) (pc' := 466) (lv' := [(5, .int 0), (4, .int 0), (3, .ref 3466), (2, .ref 101), (1, .ref 0), (0, .retAddr 9)]) (st' := [.ref 101]) (by decide +kernel) rfl rfl ?_
    refine ab_fin.s2 (i := .aload_n 0) (k := 1) (pc' := 467) (lv' := [(5, .int 0), (4, .int 0), (3, .ref 3466), (2, .ref 101), (1, .ref 0), (0, .retAddr 9)]) (st' := [.retAddr 9, .ref 101]) (by decide +kernel) rfl rfl ?_
    refine ab_fin.s2 (i := .iload 4) (k := 2) (pc' := 469) (lv' := [(5, .int 0), (4, .int 0), (3, .ref 3466), (2, .ref 101), (1, .ref 0), (0, .retAddr 9)]) (st' := [.int 0, .retAddr 9, .ref 101]) (by decide +kernel) rfl rfl ?_
    refine ab_fin.s1i (i := .iconst 1) (k := 1) (pc' := 470) (n := 1) (by decide +kernel) rfl (by decide +kernel) rfl ?_
    refine ab_fin.s1i (i := .iadd) (k := 1) (pc' := 471) (n := 1) (by decide +kernel) rfl (by decide +kernel) rfl ?_
    refine ab_fin.s8 (i := .iaload) (k := 1) (pc' := 472) (st' := [.int ((xs 1)), .ref 101]) (by decide +kernel) (ab_x0 rfl (by decide +kernel) rfl) rfl rfl rfl ?_
    refine ab_fin.call (i := .invokevirtual 103) (k := 3) (y := 6000) (As := [.ref 101, .int ((xs 1))]) (rest := []) (M' := (mX23_count, [])) (by decide +kernel) (ab_cv rfl rfl (ab_ov_no f_101 rfl) ⟨(Nat.le_of_ble_eq_true rfl), (Nat.le_of_ble_eq_true rfl)⟩ rfl) rfl (Nat.le_of_ble_eq_true rfl) ?_
    show ab_fin _ _ _ _ 0 [(0, .ref 101), (1, .int ((xs 1)))] [] _ _
    refine ab_fin.s2 (i := .aload_n 0) (k := 1) (pc' := 1) (lv' := [(0, .ref 101), (1, .int ((xs 1)))]) (st' := [.ref 101]) (by decide +kernel) rfl rfl ?_
    refine ab_fin.s1i (i := .iconst 0) (k := 1) (pc' := 2) (n := 0) (by decide +kernel) rfl (by decide +kernel) rfl ?_
    refine ab_fin.putf (ix := 1000) (h1 := ab_ov h [(101, .inr (.inr (24, (p1_o101).set 110 (.int 0)))), (3466, .inr (.inl (1, .inr (.inl ((List.replicate 1 0).set 0 (0))))))]) (pc' := 5) (by decide +kernel) rfl (ab_ov_no f_101 rfl) (ab_klt (n := 115) (by rw [p1_n101]) (by decide)) rfl rfl (ab_ov_set rfl) rfl ?_
    refine ab_fin.s2 (i := .iload_n 1) (k := 1) (pc' := 6) (lv' := [(0, .ref 101), (1, .int ((xs 1)))]) (st' := [.int ((xs 1))]) (by decide +kernel) rfl rfl ?_
    have q14 : (xs 1) = 6 := (by have l0 : (0 : Int32).toInt = 0 := rfl; have l1 : (1 : Int32).toInt = 1 := rfl; have l2 : (2 : Int32).toInt = 2 := rfl; have l3 : (3 : Int32).toInt = 3 := rfl; have l4 : (4 : Int32).toInt = 4 := rfl; have l5 : (5 : Int32).toInt = 5 := rfl; have l6 : (6 : Int32).toInt = 6 := rfl; simp only [← Int32.toInt_inj, Int32.lt_iff_toInt_lt, Int32.le_iff_toInt_le, l0, l1, l2, l3, l4, l5, l6] at q1 q3 q5 q7 q9 q11 q13 ⊢; omega)
    rw [q14]
    refine ab_fin.s3 (i := .tableswitch 77 0 6 #[42, 47, 52, 57, 62, 67, 72]) (k := 42) (t := 78) (st' := []) (by decide +kernel) (ab_swI (off := 72) (by decide +kernel) (by decide +kernel) (by decide +kernel)) ?_
    refine ab_fin.s2 (i := .aload_n 0) (k := 1) (pc' := 79) (lv' := [(0, .ref 101), (1, .int 6)]) (st' := [.ref 101]) (by decide +kernel) rfl rfl ?_
    refine ab_fin.getf (ix := 180) (k := 15) (v := .int 0) (pc' := 82) (by decide +kernel) rfl (ab_ov_get (lt0 101 (by decide)) rfl) rfl rfl ?_
    refine ab_fin.ret (i := .ireturn) (k := 1) (some (.int 0)) (by decide +kernel) rfl ?_
    refine ab_bk.back (pc' := 475) (st' := [.int 0]) rfl rfl ?_
    refine ab_fin.s2 (i := .istore 6) (k := 2) (pc' := 477) (lv' := [(6, .int 0), (5, .int 0), (4, .int 0), (3, .ref 3466), (2, .ref 101), (1, .ref 0), (0, .retAddr 9)]) (st' := []) (by decide +kernel) rfl rfl ?_
    refine ab_fin.s2 (i := .aload_n 2) (k := 1) (pc' := 478) (lv' := [(6, .int 0), (5, .int 0), (4, .int 0), (3, .ref 3466), (2, .ref 101), (1, .ref 0), (0, .retAddr 9)]) (st' := [.ref 101]) (by decide +kernel) rfl rfl ?_
    refine ab_fin.call (i := .invokevirtual 75) (k := 3) (y := 5992) (As := [.ref 101]) (rest := []) (M' := (mX23_thrown, [])) (by decide +kernel) (ab_cv rfl rfl (ab_ov_get (lt0 101 (by decide)) rfl) ⟨(Nat.le_of_ble_eq_true rfl), (Nat.le_of_ble_eq_true rfl)⟩ rfl) rfl (Nat.le_of_ble_eq_true rfl) ?_
    show ab_fin _ _ _ _ 0 [(0, .ref 101)] [] _ _
    refine ab_fin.s2 (i := .aload_n 0) (k := 1) (pc' := 1) (lv' := [(0, .ref 101)]) (st' := [.ref 101]) (by decide +kernel) rfl rfl ?_
    refine ab_fin.getf (ix := 1000) (k := 110) (v := .int 0) (pc' := 4) (by decide +kernel) rfl (ab_ov_get (lt0 101 (by decide)) rfl) rfl rfl ?_
    refine ab_fin.ret (i := .ireturn) (k := 1) (some (.int 0)) (by decide +kernel) rfl ?_
    refine ab_bk.back (pc' := 481) (st' := [.int 0]) rfl rfl ?_
    refine ab_fin.s2 (i := .iload 5) (k := 2) (pc' := 483) (lv' := [(6, .int 0), (5, .int 0), (4, .int 0), (3, .ref 3466), (2, .ref 101), (1, .ref 0), (0, .retAddr 9)]) (st' := [.int 0, .int 0]) (by decide +kernel) rfl rfl ?_
    refine ab_fin.brT (c := (0 : Int32) = (0 : Int32)) (i := .if_icmp .eq 5) (off := 5) (t := 488) (r := []) (by decide +kernel) rfl (by decide +kernel) (by decide +kernel) ?_
    refine ab_fin.s2 (i := .iload 5) (k := 2) (pc' := 490) (lv' := [(6, .int 0), (5, .int 0), (4, .int 0), (3, .ref 3466), (2, .ref 101), (1, .ref 0), (0, .retAddr 9)]) (st' := [.int 0]) (by decide +kernel) rfl rfl ?_
    refine ab_fin.brF (c := ¬ (0 : Int32) = 0) (i := .ifCond .ne 15) (off := 15) (t := 505) (pc' := 493) (r := []) (by decide +kernel) rfl (by decide +kernel) rfl (by decide +kernel) ?_
    refine ab_fin.s2 (i := .aload_n 3) (k := 1) (pc' := 494) (lv' := [(6, .int 0), (5, .int 0), (4, .int 0), (3, .ref 3466), (2, .ref 101), (1, .ref 0), (0, .retAddr 9)]) (st' := [.ref 3466]) (by decide +kernel) rfl rfl ?_
    refine ab_fin.s1i (i := .iconst 0) (k := 1) (pc' := 495) (n := 0) (by decide +kernel) rfl (by decide +kernel) rfl ?_
    refine ab_fin.lald (v := 0) (pc' := 496) (by decide +kernel) (ab_ov_get (lt0 3466 (by decide)) rfl) (ab_bd (n := 1) (by rw [List.length_set, List.length_replicate]) (by decide +kernel)) rfl rfl ?_
    refine ab_fin.s2 (i := .iload 6) (k := 2) (pc' := 498) (lv' := [(6, .int 0), (5, .int 0), (4, .int 0), (3, .ref 3466), (2, .ref 101), (1, .ref 0), (0, .retAddr 9)]) (st' := [.int 0, .long 0]) (by decide +kernel) rfl rfl ?_
    refine ab_fin.s1l (i := .i2l) (k := 1) (pc' := 499) (n := 0) (by decide +kernel) rfl (by decide +kernel) rfl ?_
    refine ab_fin.s1i (i := .lcmp) (k := 1) (pc' := 500) (n := 0) (by decide +kernel) rfl (by decide +kernel) rfl ?_
    refine ab_fin.brT (c := (0 : Int32) = 0) (i := .ifCond .eq 5) (off := 5) (t := 505) (r := []) (by decide +kernel) rfl (by decide +kernel) (by decide +kernel) ?_
    refine ab_fin.s3 (i := .goto 585) (k := 3) (t := 1090) (st' := []) (by decide +kernel) (ab_goto (by decide +kernel)) ?_
    refine ab_fin.inc (i := .iinc 4 6) (k := 3) (pc' := 1093) (j := 4) (n := 6) (lv' := [(6, .int 0), (5, .int 0), (3, .ref 3466), (2, .ref 101), (1, .ref 0), (0, .retAddr 9)]) (by decide +kernel) rfl (by decide +kernel) rfl ?_
    refine ab_fin.s3 (i := .goto (-1070)) (k := 3) (t := 23) (st' := []) (by decide +kernel) (ab_goto (by decide +kernel)) ?_
    refine ab_fin.s2 (i := .iload 4) (k := 2) (pc' := 25) (lv' := [(4, .int 6), (6, .int 0), (5, .int 0), (3, .ref 3466), (2, .ref 101), (1, .ref 0), (0, .retAddr 9)]) (st' := [.int 6]) (by decide +kernel) rfl rfl ?_
    refine ab_fin.s2 (i := .aload_n 0) (k := 1) (pc' := 26) (lv' := [(4, .int 6), (6, .int 0), (5, .int 0), (3, .ref 3466), (2, .ref 101), (1, .ref 0), (0, .retAddr 9)]) (st' := [.retAddr 9, .int 6]) (by decide +kernel) rfl rfl ?_
    refine ab_fin.s8 (i := .arraylength) (k := 1) (pc' := 27) (st' := [.int 6, .int 6]) (by decide +kernel) rfl rfl rfl rfl ?_
    refine ab_fin.s1i (i := .bipush 6) (k := 2) (pc' := 29) (n := 6) (by decide +kernel) rfl (by decide +kernel) rfl ?_
    refine ab_fin.s1i (i := .isub) (k := 1) (pc' := 30) (n := 0) (by decide +kernel) rfl (by decide +kernel) rfl ?_
    refine ab_fin.brT (c := (0 : Int32) < (6 : Int32)) (i := .if_icmp .gt 1066) (off := 1066) (t := 1096) (r := []) (by decide +kernel) rfl (by decide +kernel) (by decide +kernel) ?_
    refine ab_fin.s1i (i := .iconst 1) (k := 1) (pc' := 1097) (n := 1) (by decide +kernel) rfl (by decide +kernel) rfl ?_
    refine ab_fin.ret (i := .ireturn) (k := 1) (some (.int 1)) (by decide +kernel) rfl ?_
    refine ⟨rfl, ?_, ?_⟩
    · rw [ab_ov_len, hl]; decide
    · refine Nat.le_trans (ab_ov_z _ _) ?_
      simp only [List.map, List.sum_cons, List.sum_nil, ab_z1, ab_len, List.length_set, List.length_replicate, List.length_cons, List.length_nil, p1_n101]
      omega
  have qd : Int32.toInt ((xs 1)) < 0 ∨ 6 < Int32.toInt ((xs 1)) := (by simp only [← Int32.toInt_inj, Int32.lt_iff_toInt_lt, Int32.le_iff_toInt_le, show (0 : Int32).toInt = 0 from rfl, show (1 : Int32).toInt = 1 from rfl, show (2 : Int32).toInt = 2 from rfl, show (3 : Int32).toInt = 3 from rfl, show (4 : Int32).toInt = 4 from rfl, show (5 : Int32).toInt = 5 from rfl, show (6 : Int32).toInt = 6 from rfl] at q1 q3 q5 q7 q9 q11 q13; omega)
  refine ab_fin.s3 (i := .tableswitch 104 0 6 #[43, 53, 63, 74, 84, 92, 99]) (k := 43) (t := 105) (st' := []) (by decide +kernel) (ab_swD qd (by decide +kernel)) ?_
  refine ab_fin.thrN (i := .new 99) (k := 3) (cls := "java/lang/IllegalArgumentException") (n := 3467) (by decide +kernel) (by decide +kernel) (fun ix q => by cases q; rfl) (by decide) (Nat.le_of_ble_eq_true rfl) ((ab_ov_len _ _).trans hl) (ab_ov_app (by rw [hl]; decide +kernel)) ?_
  obtain ⟨h1, e1⟩ : ∃ h2 : List ab_E, h2 = h ++ [.inl 6] := ⟨_, rfl⟩
  have hl1 : h1.length = 3468 := by rw [e1, List.length_append, hl]; rfl
  have lt1 : ∀ a, a < 3468 → a < h1.length := fun a q => by rw [hl1]; exact q
  have hz1 : ab_z h1 = ab_z h + 6 := by rw [e1, ab_z_app]; rfl
  have f1_0 := (show h1[0]? = h[0]? by rw [e1, List.getElem?_append_left (by rw [hl]; decide)]).trans f_0
  have f1_1 := (show h1[1]? = h[1]? by rw [e1, List.getElem?_append_left (by rw [hl]; decide)]).trans f_1
  have f1_10 := (show h1[10]? = h[10]? by rw [e1, List.getElem?_append_left (by rw [hl]; decide)]).trans f_10
  have f1_28 := (show h1[28]? = h[28]? by rw [e1, List.getElem?_append_left (by rw [hl]; decide)]).trans f_28
  have f1_40 := (show h1[40]? = h[40]? by rw [e1, List.getElem?_append_left (by rw [hl]; decide)]).trans f_40
  have f1_101 := (show h1[101]? = h[101]? by rw [e1, List.getElem?_append_left (by rw [hl]; decide)]).trans f_101
  have f1_3466 := (show h1[3466]? = h[3466]? by rw [e1, List.getElem?_append_left (by rw [hl]; decide)]).trans f_3466
  rw [← e1]
  refine ab_bk.catch (hp := 12) (by decide +kernel) rfl ?_
  refine ab_fin.s2 (i := .astore_n 3) (k := 1) (pc' := 13) (lv' := [(3, .ref 3467), (0, .ref 0), (1, .int ((xs 1))), (2, .ref 3466)]) (st' := []) (by decide +kernel) rfl rfl ?_
  refine ab_fin.s1i (i := .iconst 1) (k := 1) (pc' := 14) (n := 1) (by decide +kernel) rfl (by decide +kernel) rfl ?_
  refine ab_fin.ret (i := .ireturn) (k := 1) (some (.int 1)) (by decide +kernel) rfl ?_
  refine ab_bk.back (pc' := 463) (st' := [.int 1]) rfl rfl ?_
  refine ab_fin.s2 (i := .istore 5) (k := 2) (pc' := 465) (lv' := [(5, .int 1), (4, .int 0), (3, .ref 3466), (2, .ref 101), (1, .ref 0), (0, .retAddr 9)]) (st' := []) (by decide +kernel) rfl rfl ?_
  refine ab_fin.s2 (i := .aload_n 2) (k := 1) (pc' := 466) (lv' := [(5, .int 1), (4, .int 0), (3, .ref 3466), (2, .ref 101), (1, .ref 0), (0, .retAddr 9)]) (st' := [.ref 101]) (by decide +kernel) rfl rfl ?_
  refine ab_fin.s2 (i := .aload_n 0) (k := 1) (pc' := 467) (lv' := [(5, .int 1), (4, .int 0), (3, .ref 3466), (2, .ref 101), (1, .ref 0), (0, .retAddr 9)]) (st' := [.retAddr 9, .ref 101]) (by decide +kernel) rfl rfl ?_
  refine ab_fin.s2 (i := .iload 4) (k := 2) (pc' := 469) (lv' := [(5, .int 1), (4, .int 0), (3, .ref 3466), (2, .ref 101), (1, .ref 0), (0, .retAddr 9)]) (st' := [.int 0, .retAddr 9, .ref 101]) (by decide +kernel) rfl rfl ?_
  refine ab_fin.s1i (i := .iconst 1) (k := 1) (pc' := 470) (n := 1) (by decide +kernel) rfl (by decide +kernel) rfl ?_
  refine ab_fin.s1i (i := .iadd) (k := 1) (pc' := 471) (n := 1) (by decide +kernel) rfl (by decide +kernel) rfl ?_
  refine ab_fin.s8 (i := .iaload) (k := 1) (pc' := 472) (st' := [.int ((xs 1)), .ref 101]) (by decide +kernel) (ab_x0 rfl (by decide +kernel) rfl) rfl rfl rfl ?_
  refine ab_fin.call (i := .invokevirtual 103) (k := 3) (y := 6000) (As := [.ref 101, .int ((xs 1))]) (rest := []) (M' := (mX23_count, [])) (by decide +kernel) (ab_cv rfl rfl (ab_ov_no f1_101 rfl) ⟨(Nat.le_of_ble_eq_true rfl), (Nat.le_of_ble_eq_true rfl)⟩ rfl) rfl (Nat.le_of_ble_eq_true rfl) ?_
  show ab_fin _ _ _ _ 0 [(0, .ref 101), (1, .int ((xs 1)))] [] _ _
  refine ab_fin.s2 (i := .aload_n 0) (k := 1) (pc' := 1) (lv' := [(0, .ref 101), (1, .int ((xs 1)))]) (st' := [.ref 101]) (by decide +kernel) rfl rfl ?_
  refine ab_fin.s1i (i := .iconst 0) (k := 1) (pc' := 2) (n := 0) (by decide +kernel) rfl (by decide +kernel) rfl ?_
  refine ab_fin.putf (ix := 1000) (h1 := ab_ov h1 [(101, .inr (.inr (24, (p1_o101).set 110 (.int 0))))]) (pc' := 5) (by decide +kernel) rfl (ab_ov_no f1_101 rfl) (ab_klt (n := 115) (by rw [p1_n101]) (by decide)) rfl rfl (ab_ov_set rfl) rfl ?_
  refine ab_fin.s2 (i := .iload_n 1) (k := 1) (pc' := 6) (lv' := [(0, .ref 101), (1, .int ((xs 1)))]) (st' := [.int ((xs 1))]) (by decide +kernel) rfl rfl ?_
  have qd : Int32.toInt ((xs 1)) < 0 ∨ 6 < Int32.toInt ((xs 1)) := (by simp only [← Int32.toInt_inj, Int32.lt_iff_toInt_lt, Int32.le_iff_toInt_le, show (0 : Int32).toInt = 0 from rfl, show (1 : Int32).toInt = 1 from rfl, show (2 : Int32).toInt = 2 from rfl, show (3 : Int32).toInt = 3 from rfl, show (4 : Int32).toInt = 4 from rfl, show (5 : Int32).toInt = 5 from rfl, show (6 : Int32).toInt = 6 from rfl] at q1 q3 q5 q7 q9 q11 q13; omega)
  refine ab_fin.s3 (i := .tableswitch 77 0 6 #[42, 47, 52, 57, 62, 67, 72]) (k := 42) (t := 83) (st' := []) (by decide +kernel) (ab_swD qd (by decide +kernel)) ?_
  refine ab_fin.s2 (i := .aload_n 0) (k := 1) (pc' := 84) (lv' := [(0, .ref 101), (1, .int ((xs 1)))]) (st' := [.ref 101]) (by decide +kernel) rfl rfl ?_
  refine ab_fin.s1i (i := .iconst 1) (k := 1) (pc' := 85) (n := 1) (by decide +kernel) rfl (by decide +kernel) rfl ?_
  refine ab_fin.call (i := .invokevirtual 1003) (k := 3) (y := 5993) (As := [.ref 101, .int 1]) (rest := []) (M' := (mX23_no_, [])) (by decide +kernel) (ab_cv rfl rfl (ab_ov_get (lt1 101 (by decide)) rfl) ⟨(Nat.le_of_ble_eq_true rfl), (Nat.le_of_ble_eq_true rfl)⟩ rfl) rfl (Nat.le_of_ble_eq_true rfl) ?_
  show ab_fin _ _ _ _ 0 [(0, .ref 101), (1, .int 1)] [] _ _
  refine ab_fin.s2 (i := .aload_n 0) (k := 1) (pc' := 1) (lv' := [(0, .ref 101), (1, .int 1)]) (st' := [.ref 101]) (by decide +kernel) rfl rfl ?_
  refine ab_fin.s2 (i := .iload_n 1) (k := 1) (pc' := 2) (lv' := [(0, .ref 101), (1, .int 1)]) (st' := [.int 1, .ref 101]) (by decide +kernel) rfl rfl ?_
  refine ab_fin.putf (ix := 1000) (h1 := ab_ov h1 [(101, .inr (.inr (24, (p1_o101).set 110 (.int 1))))]) (pc' := 5) (by decide +kernel) rfl (ab_ov_get (lt1 101 (by decide)) rfl) (ab_klt (n := 115) (by rw [List.length_set, p1_n101]) (by decide)) rfl rfl (ab_ov_set rfl) rfl ?_
  refine ab_fin.s1i (i := .iconst 0) (k := 1) (pc' := 6) (n := 0) (by decide +kernel) rfl (by decide +kernel) rfl ?_
  refine ab_fin.ret (i := .ireturn) (k := 1) (some (.int 0)) (by decide +kernel) rfl ?_
  refine ab_bk.back (pc' := 88) (st' := [.int 0]) rfl rfl ?_
  refine ab_fin.ret (i := .ireturn) (k := 1) (some (.int 0)) (by decide +kernel) rfl ?_
  refine ab_bk.back (pc' := 475) (st' := [.int 0]) rfl rfl ?_
  refine ab_fin.s2 (i := .istore 6) (k := 2) (pc' := 477) (lv' := [(6, .int 0), (5, .int 1), (4, .int 0), (3, .ref 3466), (2, .ref 101), (1, .ref 0), (0, .retAddr 9)]) (st' := []) (by decide +kernel) rfl rfl ?_
  refine ab_fin.s2 (i := .aload_n 2) (k := 1) (pc' := 478) (lv' := [(6, .int 0), (5, .int 1), (4, .int 0), (3, .ref 3466), (2, .ref 101), (1, .ref 0), (0, .retAddr 9)]) (st' := [.ref 101]) (by decide +kernel) rfl rfl ?_
  refine ab_fin.call (i := .invokevirtual 75) (k := 3) (y := 5992) (As := [.ref 101]) (rest := []) (M' := (mX23_thrown, [])) (by decide +kernel) (ab_cv rfl rfl (ab_ov_get (lt1 101 (by decide)) rfl) ⟨(Nat.le_of_ble_eq_true rfl), (Nat.le_of_ble_eq_true rfl)⟩ rfl) rfl (Nat.le_of_ble_eq_true rfl) ?_
  show ab_fin _ _ _ _ 0 [(0, .ref 101)] [] _ _
  refine ab_fin.s2 (i := .aload_n 0) (k := 1) (pc' := 1) (lv' := [(0, .ref 101)]) (st' := [.ref 101]) (by decide +kernel) rfl rfl ?_
  refine ab_fin.getf (ix := 1000) (k := 110) (v := .int 1) (pc' := 4) (by decide +kernel) rfl (ab_ov_get (lt1 101 (by decide)) rfl) rfl rfl ?_
  refine ab_fin.ret (i := .ireturn) (k := 1) (some (.int 1)) (by decide +kernel) rfl ?_
  refine ab_bk.back (pc' := 481) (st' := [.int 1]) rfl rfl ?_
  refine ab_fin.s2 (i := .iload 5) (k := 2) (pc' := 483) (lv' := [(6, .int 0), (5, .int 1), (4, .int 0), (3, .ref 3466), (2, .ref 101), (1, .ref 0), (0, .retAddr 9)]) (st' := [.int 1, .int 1]) (by decide +kernel) rfl rfl ?_
  refine ab_fin.brT (c := (1 : Int32) = (1 : Int32)) (i := .if_icmp .eq 5) (off := 5) (t := 488) (r := []) (by decide +kernel) rfl (by decide +kernel) (by decide +kernel) ?_
  refine ab_fin.s2 (i := .iload 5) (k := 2) (pc' := 490) (lv' := [(6, .int 0), (5, .int 1), (4, .int 0), (3, .ref 3466), (2, .ref 101), (1, .ref 0), (0, .retAddr 9)]) (st' := [.int 1]) (by decide +kernel) rfl rfl ?_
  refine ab_fin.brT (c := ¬ (1 : Int32) = 0) (i := .ifCond .ne 15) (off := 15) (t := 505) (r := []) (by decide +kernel) rfl (by decide +kernel) (by decide +kernel) ?_
  refine ab_fin.s3 (i := .goto 585) (k := 3) (t := 1090) (st' := []) (by decide +kernel) (ab_goto (by decide +kernel)) ?_
  refine ab_fin.inc (i := .iinc 4 6) (k := 3) (pc' := 1093) (j := 4) (n := 6) (lv' := [(6, .int 0), (5, .int 1), (3, .ref 3466), (2, .ref 101), (1, .ref 0), (0, .retAddr 9)]) (by decide +kernel) rfl (by decide +kernel) rfl ?_
  refine ab_fin.s3 (i := .goto (-1070)) (k := 3) (t := 23) (st' := []) (by decide +kernel) (ab_goto (by decide +kernel)) ?_
  refine ab_fin.s2 (i := .iload 4) (k := 2) (pc' := 25) (lv' := [(4, .int 6), (6, .int 0), (5, .int 1), (3, .ref 3466), (2, .ref 101), (1, .ref 0), (0, .retAddr 9)]) (st' := [.int 6]) (by decide +kernel) rfl rfl ?_
  refine ab_fin.s2 (i := .aload_n 0) (k := 1) (pc' := 26) (lv' := [(4, .int 6), (6, .int 0), (5, .int 1), (3, .ref 3466), (2, .ref 101), (1, .ref 0), (0, .retAddr 9)]) (st' := [.retAddr 9, .int 6]) (by decide +kernel) rfl rfl ?_
  refine ab_fin.s8 (i := .arraylength) (k := 1) (pc' := 27) (st' := [.int 6, .int 6]) (by decide +kernel) rfl rfl rfl rfl ?_
  refine ab_fin.s1i (i := .bipush 6) (k := 2) (pc' := 29) (n := 6) (by decide +kernel) rfl (by decide +kernel) rfl ?_
  refine ab_fin.s1i (i := .isub) (k := 1) (pc' := 30) (n := 0) (by decide +kernel) rfl (by decide +kernel) rfl ?_
  refine ab_fin.brT (c := (0 : Int32) < (6 : Int32)) (i := .if_icmp .gt 1066) (off := 1066) (t := 1096) (r := []) (by decide +kernel) rfl (by decide +kernel) (by decide +kernel) ?_
  refine ab_fin.s1i (i := .iconst 1) (k := 1) (pc' := 1097) (n := 1) (by decide +kernel) rfl (by decide +kernel) rfl ?_
  refine ab_fin.ret (i := .ireturn) (k := 1) (some (.int 1)) (by decide +kernel) rfl ?_
  refine ⟨rfl, ?_, ?_⟩
  · rw [ab_ov_len, hl1]; decide
  · refine Nat.le_trans (ab_ov_z _ _) ?_
    simp only [List.map, List.sum_cons, List.sum_nil, ab_z1, ab_len, List.length_set, List.length_replicate, List.length_cons, List.length_nil, p1_n101]
    have z1 : ab_z h1 = _ := hz1
    omega

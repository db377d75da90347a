set_option maxRecDepth 100000 in
set_option maxHeartbeats 0 in
theorem p1_end (z4 z5 z6 : Value) (n_z4 : z4 = .null ∨ z4 = .retAddr 4) (n_z5 : z5 = .null ∨ z5 = .retAddr 5) (n_z6 : z6 = .null ∨ z6 = .retAddr 6) (xs : Nat → Int32) (h : List ab_E) (hl : h.length = 3467) (hz : ab_z h ≤ 400000) (f_0 : h[0]? = some (.inr (.inr (13, p1_o0)))) (f_101 : h[101]? = some (.inr (.inr (24, p1_o101)))) (f_3466 : h[3466]? = some (.inr (.inl (1, .inr (.inl (List.replicate 1 0)))))) : ab_fin (hb_Gz (some z4, some z5, some z6) (some (0, 6, fun i => .int (xs i)))) hb_GT 2046 (mL_law, []) 228 [(4, .int 0), (3, .ref 3466), (2, .ref 101), (1, .ref 0), (0, .retAddr 9)] [] h p1_Q := by
  have lt0 : ∀ a, a < 3467 → a < h.length := fun a q => by rw [hl]; exact q
  show ab_fin _ _ _ _ _ _ _ (ab_ov h []) _
  refine ab_fin.s2 (i := .aload_n 1) (k := 1) (pc' := 229) (lv' := [(4, .int 0), (3, .ref 3466), (2, .ref 101), (1, .ref 0), (0, .retAddr 9)]) (st' := [.ref 0]) (by decide +kernel) rfl rfl ?_
  refine ab_fin.s2 (i := .aload_n 0) (k := 1) (pc' := 230) (lv' := [(4, .int 0), (3, .ref 3466), (2, .ref 101), (1, .ref 0), (0, .retAddr 9)]) (st' := [.retAddr 9, .ref 0]) (by decide +kernel) rfl rfl ?_
  refine ab_fin.s2 (i := .iload 4) (k := 2) (pc' := 232) (lv' := [(4, .int 0), (3, .ref 3466), (2, .ref 101), (1, .ref 0), (0, .retAddr 9)]) (st' := [.int 0, .retAddr 9, .ref 0]) (by decide +kernel) rfl rfl ?_
  refine ab_fin.s1i (i := .iconst 1) (k := 1) (pc' := 233) (n := 1) (by decide +kernel) rfl (by decide +kernel) rfl ?_
  refine ab_fin.s1i (i := .iadd) (k := 1) (pc' := 234) (n := 1) (by decide +kernel) rfl (by decide +kernel) rfl ?_
  refine ab_fin.s8 (i := .iaload) (k := 1) (pc' := 235) (st' := [.int ((xs 1)), .ref 0]) (by decide +kernel) (ab_x0 rfl (by decide +kernel) rfl) rfl rfl rfl ?_
  refine ab_fin.s2 (i := .aload_n 3) (k := 1) (pc' := 236) (lv' := [(4, .int 0), (3, .ref 3466), (2, .ref 101), (1, .ref 0), (0, .retAddr 9)]) (st' := [.ref 3466, .int ((xs 1)), .ref 0]) (by decide +kernel) rfl rfl ?_
  refine ab_fin.call (i := .invokestatic 78) (k := 3) (y := 13513) (As := [.ref 0, .int ((xs 1)), .ref 3466]) (rest := []) (M' := (mL_end, [(0, 9, 12, 19)])) (by decide +kernel) (ab_cs rfl rfl ⟨(Nat.le_of_ble_eq_true rfl), (Nat.le_of_ble_eq_true rfl)⟩ rfl) rfl (Nat.le_of_ble_eq_true rfl) ?_
  show ab_fin _ _ _ _ 0 [(0, .ref 0), (1, .int ((xs 1))), (2, .ref 3466)] [] _ _
  refine ab_fin.s2 (i := .aload_n 2) (k := 1) (pc' := 1) (lv' := [(0, .ref 0), (1, .int ((xs 1))), (2, .ref 3466)]) (st' := [.ref 3466]) (by decide +kernel) rfl rfl ?_
  refine ab_fin.s1i (i := .iconst 0) (k := 1) (pc' := 2) (n := 0) (by decide +kernel) rfl (by decide +kernel) rfl ?_
  refine ab_fin.s2 (i := .aload_n 0) (k := 1) (pc' := 3) (lv' := [(0, .ref 0), (1, .int ((xs 1))), (2, .ref 3466)]) (st' := [.ref 0, .int 0, .ref 3466]) (by decide +kernel) rfl rfl ?_
  refine ab_fin.s2 (i := .iload_n 1) (k := 1) (pc' := 4) (lv' := [(0, .ref 0), (1, .int ((xs 1))), (2, .ref 3466)]) (st' := [.int ((xs 1)), .ref 0, .int 0, .ref 3466]) (by decide +kernel) rfl rfl ?_
  refine ab_fin.call (i := .invokevirtual 15) (k := 3) (y := 3075) (As := [.ref 0, .int ((xs 1))]) (rest := [.int 0, .ref 3466]) (M' := (mX12_end, [])) (by decide +kernel) (ab_cv rfl rfl (ab_ov_no f_0 rfl) ⟨(Nat.le_of_ble_eq_true rfl), (Nat.le_of_ble_eq_true rfl)⟩ rfl) rfl (Nat.le_of_ble_eq_true rfl) ?_
  show ab_fin _ _ _ _ 0 [(0, .ref 0), (1, .int ((xs 1)))] [] _ _
  refine ab_fin.s2 (i := .iload_n 1) (k := 1) (pc' := 1) (lv' := [(0, .ref 0), (1, .int ((xs 1)))]) (st' := [.int ((xs 1))]) (by decide +kernel) rfl rfl ?_
  refine ab_fin.br (c := (xs 1) < 0) (i := .ifCond .lt 11) (off := 11) (t := 12) (pc' := 4) (r := []) (by decide +kernel) rfl (by decide +kernel) rfl (fun q1 => ?_) (fun q1 => ?_)
  · refine ab_fin.thrN (i := .new 99) (k := 3) (cls := "java/lang/IllegalArgumentException") (n := 3467) (by decide +kernel) (by decide +kernel) (fun ix q => by cases q; rfl) (by decide) (Nat.le_of_ble_eq_true rfl) ((ab_ov_len _ _).trans hl) (ab_ov_app (by rw [hl]; decide +kernel)) ?_
    obtain ⟨h1, e1⟩ : ∃ h2 : List ab_E, h2 = h ++ [.inl 6] := ⟨_, rfl⟩
    have hl1 : h1.length = 3468 := by rw [e1, List.length_append, hl]; rfl
    have lt1 : ∀ a, a < 3468 → a < h1.length := fun a q => by rw [hl1]; exact q
    have hz1 : ab_z h1 = ab_z h + 6 := by rw [e1, ab_z_app]; rfl
    have f1_0 := (show h1[0]? = h[0]? by rw [e1, List.getElem?_append_left (by rw [hl]; decide)]).trans f_0
    have f1_101 := (show h1[101]? = h[101]? by rw [e1, List.getElem?_append_left (by rw [hl]; decide)]).trans f_101
    have f1_3466 := (show h1[3466]? = h[3466]? by rw [e1, List.getElem?_append_left (by rw [hl]; decide)]).trans f_3466
    rw [← e1]
    refine ab_bk.catch (hp := 12) (by decide +kernel) rfl ?_
    refine ab_fin.s2 (i := .astore_n 3) (k := 1) (pc' := 13) (lv' := [(3, .ref 3467), (0, .ref 0), (1, .int ((xs 1))), (2, .ref 3466)]) (st' := []) (by decide +kernel) rfl rfl ?_
    refine ab_fin.s1i (i := .iconst 1) (k := 1) (pc' := 14) (n := 1) (by decide +kernel) rfl (by decide +kernel) rfl ?_
    refine ab_fin.ret (i := .ireturn) (k := 1) (some (.int 1)) (by decide +kernel) rfl ?_
    refine ab_bk.back (pc' := 239) (st' := [.int 1]) rfl rfl ?_
    refine ab_fin.s2 (i := .istore 5) (k := 2) (pc' := 241) (lv' := [(5, .int 1), (4, .int 0), (3, .ref 3466), (2, .ref 101), (1, .ref 0), (0, .retAddr 9)]) (st' := []) (by decide +kernel) rfl rfl ?_
    refine ab_fin.s2 (i := .aload_n 2) (k := 1) (pc' := 242) (lv' := [(5, .int 1), (4, .int 0), (3, .ref 3466), (2, .ref 101), (1, .ref 0), (0, .retAddr 9)]) (st' := [.ref 101]) (by decide +kernel) rfl rfl ?_
    refine ab_fin.s2 (i := .aload_n 0) (k := 1) (pc' := 243) (lv' := [(5, .int 1), (4, .int 0), (3, .ref 3466), (2, .ref 101), (1, .ref 0), (0, .retAddr 9)]) (st' := [.retAddr 9, .ref 101]) (by decide +kernel) rfl rfl ?_
    refine ab_fin.s2 (i := .iload 4) (k := 2) (pc' := 245) (lv' := [(5, .int 1), (4, .int 0), (3, .ref 3466), (2, .ref 101), (1, .ref 0), (0, .retAddr 9)]) (st' := [.int 0, .retAddr 9, .ref 101]) (by decide +kernel) rfl rfl ?_
    refine ab_fin.s1i (i := .iconst 1) (k := 1) (pc' := 246) (n := 1) (by decide +kernel) rfl (by decide +kernel) rfl ?_
    refine ab_fin.s1i (i := .iadd) (k := 1) (pc' := 247) (n := 1) (by decide +kernel) rfl (by decide +kernel) rfl ?_
    refine ab_fin.s8 (i := .iaload) (k := 1) (pc' := 248) (st' := [.int ((xs 1)), .ref 101]) (by decide +kernel) (ab_x0 rfl (by decide +kernel) rfl) rfl rfl rfl ?_
    refine ab_fin.call (i := .invokevirtual 81) (k := 3) (y := 5996) (As := [.ref 101, .int ((xs 1))]) (rest := []) (M' := (mX23_end, [])) (by decide +kernel) (ab_cv rfl rfl (ab_ov_no f1_101 rfl) ⟨(Nat.le_of_ble_eq_true rfl), (Nat.le_of_ble_eq_true rfl)⟩ rfl) rfl (Nat.le_of_ble_eq_true rfl) ?_
    show ab_fin _ _ _ _ 0 [(0, .ref 101), (1, .int ((xs 1)))] [] _ _
    refine ab_fin.s2 (i := .aload_n 0) (k := 1) (pc' := 1) (lv' := [(0, .ref 101), (1, .int ((xs 1)))]) (st' := [.ref 101]) (by decide +kernel) rfl rfl ?_
    refine ab_fin.s1i (i := .iconst 0) (k := 1) (pc' := 2) (n := 0) (by decide +kernel) rfl (by decide +kernel) rfl ?_
    refine ab_fin.putf (ix := 1000) (h1 := ab_ov h1 [(101, .inr (.inr (24, (p1_o101).set 110 (.int 0))))]) (pc' := 5) (by decide +kernel) rfl (ab_ov_no f1_101 rfl) (ab_klt (n := 115) (by rw [p1_n101]) (by decide)) rfl rfl (ab_ov_set rfl) rfl ?_
    refine ab_fin.s2 (i := .iload_n 1) (k := 1) (pc' := 6) (lv' := [(0, .ref 101), (1, .int ((xs 1)))]) (st' := [.int ((xs 1))]) (by decide +kernel) rfl rfl ?_
    refine ab_fin.brT (c := (xs 1) < 0) (i := .ifCond .lt 11) (off := 11) (t := 17) (r := []) (by decide +kernel) rfl (by decide +kernel) (by have l0 : (0 : Int32).toInt = 0 := rfl; simp only [← Int32.toInt_inj, Int32.lt_iff_toInt_lt, Int32.le_iff_toInt_le, l0] at q1 ⊢; omega) ?_
    refine ab_fin.s2 (i := .aload_n 0) (k := 1) (pc' := 18) (lv' := [(0, .ref 101), (1, .int ((xs 1)))]) (st' := [.ref 101]) (by decide +kernel) rfl rfl ?_
    refine ab_fin.s1i (i := .iconst 1) (k := 1) (pc' := 19) (n := 1) (by decide +kernel) rfl (by decide +kernel) rfl ?_
    refine ab_fin.call (i := .invokevirtual 1003) (k := 3) (y := 5993) (As := [.ref 101, .int 1]) (rest := []) (M' := (mX23_no_, [])) (by decide +kernel) (ab_cv rfl rfl (ab_ov_get (lt1 101 (by decide)) rfl) ⟨(Nat.le_of_ble_eq_true rfl), (Nat.le_of_ble_eq_true rfl)⟩ rfl) rfl (Nat.le_of_ble_eq_true rfl) ?_
    show ab_fin _ _ _ _ 0 [(0, .ref 101), (1, .int 1)] [] _ _
    refine ab_fin.s2 (i := .aload_n 0) (k := 1) (pc' := 1) (lv' := [(0, .ref 101), (1, .int 1)]) (st' := [.ref 101]) (by decide +kernel) rfl rfl ?_
    refine ab_fin.s2 (i := .iload_n 1) (k := 1) (pc' := 2) (lv' := [(0, .ref 101), (1, .int 1)]) (st' := [.int 1, .ref 101]) (by decide +kernel) rfl rfl ?_
    refine ab_fin.putf (ix := 1000) (h1 := ab_ov h1 [(101, .inr (.inr (24, (p1_o101).set 110 (.int 1))))]) (pc' := 5) (by decide +kernel) rfl (ab_ov_get (lt1 101 (by decide)) rfl) (ab_klt (n := 115) (by rw [List.length_set, p1_n101]) (by decide)) rfl rfl (ab_ov_set rfl) rfl ?_
    refine ab_fin.s1i (i := .iconst 0) (k := 1) (pc' := 6) (n := 0) (by decide +kernel) rfl (by decide +kernel) rfl ?_
    refine ab_fin.ret (i := .ireturn) (k := 1) (some (.int 0)) (by decide +kernel) rfl ?_
    refine ab_bk.back (pc' := 22) (st' := [.int 0]) rfl rfl ?_
    refine ab_fin.ret (i := .ireturn) (k := 1) (some (.int 0)) (by decide +kernel) rfl ?_
    refine ab_bk.back (pc' := 251) (st' := [.int 0]) rfl rfl ?_
    refine ab_fin.s2 (i := .istore 6) (k := 2) (pc' := 253) (lv' := [(6, .int 0), (5, .int 1), (4, .int 0), (3, .ref 3466), (2, .ref 101), (1, .ref 0), (0, .retAddr 9)]) (st' := []) (by decide +kernel) rfl rfl ?_
    refine ab_fin.s2 (i := .aload_n 2) (k := 1) (pc' := 254) (lv' := [(6, .int 0), (5, .int 1), (4, .int 0), (3, .ref 3466), (2, .ref 101), (1, .ref 0), (0, .retAddr 9)]) (st' := [.ref 101]) (by decide +kernel) rfl rfl ?_
    refine ab_fin.call (i := .invokevirtual 75) (k := 3) (y := 5992) (As := [.ref 101]) (rest := []) (M' := (mX23_thrown, [])) (by decide +kernel) (ab_cv rfl rfl (ab_ov_get (lt1 101 (by decide)) rfl) ⟨(Nat.le_of_ble_eq_true rfl), (Nat.le_of_ble_eq_true rfl)⟩ rfl) rfl (Nat.le_of_ble_eq_true rfl) ?_
    show ab_fin _ _ _ _ 0 [(0, .ref 101)] [] _ _
    refine ab_fin.s2 (i := .aload_n 0) (k := 1) (pc' := 1) (lv' := [(0, .ref 101)]) (st' := [.ref 101]) (by decide +kernel) rfl rfl ?_
    refine ab_fin.getf (ix := 1000) (k := 110) (v := .int 1) (pc' := 4) (by decide +kernel) rfl (ab_ov_get (lt1 101 (by decide)) rfl) rfl rfl ?_
    refine ab_fin.ret (i := .ireturn) (k := 1) (some (.int 1)) (by decide +kernel) rfl ?_
    refine ab_bk.back (pc' := 257) (st' := [.int 1]) rfl rfl ?_
    refine ab_fin.s2 (i := .iload 5) (k := 2) (pc' := 259) (lv' := [(6, .int 0), (5, .int 1), (4, .int 0), (3, .ref 3466), (2, .ref 101), (1, .ref 0), (0, .retAddr 9)]) (st' := [.int 1, .int 1]) (by decide +kernel) rfl rfl ?_
    refine ab_fin.brT (c := (1 : Int32) = (1 : Int32)) (i := .if_icmp .eq 5) (off := 5) (t := 264) (r := []) (by decide +kernel) rfl (by decide +kernel) (by decide +kernel) ?_
    refine ab_fin.s2 (i := .iload 5) (k := 2) (pc' := 266) (lv' := [(6, .int 0), (5, .int 1), (4, .int 0), (3, .ref 3466), (2, .ref 101), (1, .ref 0), (0, .retAddr 9)]) (st' := [.int 1]) (by decide +kernel) rfl rfl ?_
    refine ab_fin.brT (c := ¬ (1 : Int32) = 0) (i := .ifCond .ne 15) (off := 15) (t := 281) (r := []) (by decide +kernel) rfl (by decide +kernel) (by decide +kernel) ?_
    refine ab_fin.s3 (i := .goto 809) (k := 3) (t := 1090) (st' := []) (by decide +kernel) (ab_goto (by decide +kernel)) ?_
    refine ab_fin.inc (i := .iinc 4 6) (k := 3) (pc' := 1093) (j := 4) (n := 6) (lv' := [(6, .int 0), (5, .int 1), (3, .ref 3466), (2, .ref 101), (1, .ref 0), (0, .retAddr 9)]) (by decide +kernel) rfl (by decide +kernel) rfl ?_
    refine ab_fin.s3 (i := .goto (-1070)) (k := 3) (t := 23) (st' := []) (by decide +kernel) (ab_goto (by decide +kernel)) ?_
    refine ab_fin.s2 (i := .iload 4) (k := 2) (pc' := 25) (lv' := [(4, .int 6), (6, .int 0), (5, .int 1), (3, .ref 3466), (2, .ref 101), (1, .ref 0), (0, .retAddr 9)]) (st' := [.int 6]) (by decide +kernel) rfl rfl ?_
    refine ab_fin.s2 (i := .aload_n 0) (k := 1) (pc' := 26) (lv' := [(4, .int 6), (6, .int 0), (5, .int 1), (3, .ref 3466), (2, .ref 101), (1, .ref 0), (0, .retAddr 9)]) (st' := [.retAddr 9, .int 6]) (by decide +kernel) rfl rfl ?_
    refine ab_fin.s8 (i := .arraylength) (k := 1) (pc' := 27) (st' := [.int 6, .int 6]) (by decide +kernel) rfl rfl rfl rfl ?_
    refine ab_fin.s1i (i := .bipush 6) (k := 2) (pc' := 29) (n := 6) (by decide +kernel) rfl (by decide +kernel) rfl ?_
    refine ab_fin.s1i (i := .isub) (k := 1) (pc' := 30) (n := 0) (by decide +kernel) rfl (by decide +kernel) rfl ?_
    refine ab_fin.brT (c := (0 : Int32) < (6 : Int32)) (i := .if_icmp .gt 1066) (off := 1066) (t := 1096) (r := []) (by decide +kernel) rfl (by decide +kernel) (by decide +kernel) ?_
    refine ab_fin.s1i (i := .iconst 1) (k := 1) (pc' := 1097) (n := 1) (by decide +kernel) rfl (by decide +kernel) rfl ?_
    refine ab_fin.ret (i := .ireturn) (k := 1) (some (.int 1)) (by decide +kernel) rfl ?_
    refine ⟨rfl, ?_, ?_⟩
    · rw [ab_ov_len, hl1]; decide
    · refine Nat.le_trans (ab_ov_z _ _) ?_
      simp only [List.map, List.sum_cons, List.sum_nil, ab_z1, ab_len, List.length_set, List.length_replicate, List.length_cons, List.length_nil, p1_n101]
      have z1 : ab_z h1 = _ := hz1
      omega
  · refine ab_fin.s2 (i := .iload_n 1) (k := 1) (pc' := 5) (lv' := [(0, .ref 0), (1, .int ((xs 1)))]) (st' := [.int ((xs 1))]) (by decide +kernel) rfl rfl ?_
    refine ab_fin.s2 (i := .aload_n 0) (k := 1) (pc' := 6) (lv' := [(0, .ref 0), (1, .int ((xs 1)))]) (st' := [.ref 0, .int ((xs 1))]) (by decide +kernel) rfl rfl ?_
    refine ab_fin.getf (ix := 77) (k := 9) (v := .int 0) (pc' := 9) (by decide +kernel) rfl (ab_ov_no f_0 rfl) rfl rfl ?_
    refine ab_fin.br (c := (xs 1) ≤ (0 : Int32)) (i := .if_icmp .le 11) (off := 11) (t := 20) (pc' := 12) (r := []) (by decide +kernel) rfl (by decide +kernel) rfl (fun q2 => ?_) (fun q2 => ?_)
    · refine ab_fin.s2 (i := .aload_n 0) (k := 1) (pc' := 21) (lv' := [(0, .ref 0), (1, .int ((xs 1)))]) (st' := [.ref 0]) (by decide +kernel) rfl rfl ?_
      refine ab_fin.s2 (i := .iload_n 1) (k := 1) (pc' := 22) (lv' := [(0, .ref 0), (1, .int ((xs 1)))]) (st' := [.int ((xs 1)), .ref 0]) (by decide +kernel) rfl rfl ?_
      refine ab_fin.putf (ix := 77) (h1 := ab_ov h [(0, .inr (.inr (13, (p1_o0).set 9 (.int ((xs 1))))))]) (pc' := 25) (by decide +kernel) rfl (ab_ov_no f_0 rfl) (ab_klt (n := 14) (by rw [p1_n0]) (by decide)) rfl rfl (ab_ov_set rfl) rfl ?_
      refine ab_fin.s2 (i := .iload_n 1) (k := 1) (pc' := 26) (lv' := [(0, .ref 0), (1, .int ((xs 1)))]) (st' := [.int ((xs 1))]) (by decide +kernel) rfl rfl ?_
      refine ab_fin.ret (i := .ireturn) (k := 1) (some (.int ((xs 1)))) (by decide +kernel) rfl ?_
      refine ab_bk.back (pc' := 7) (st' := [.int ((xs 1)), .int 0, .ref 3466]) rfl rfl ?_
      refine ab_fin.s1 (i := .i2l) (k := 1) (pc' := 8) (st' := [.long ((Int32.toInt64 (xs 1))), .int 0, .ref 3466]) (by decide +kernel) rfl rfl ?_
      refine ab_fin.last (h1 := ab_ov h [(3466, .inr (.inl (1, .inr (.inl ((List.replicate 1 0).set 0 ((Int32.toInt64 (xs 1)))))))), (0, .inr (.inr (13, (p1_o0).set 9 (.int ((xs 1))))))]) (pc' := 9) (by decide +kernel) (ab_ov_no f_3466 rfl) (ab_bd (n := 1) (by rw [List.length_replicate]) (by decide +kernel)) (ab_ov_set rfl) rfl ?_
      refine ab_fin.s3 (i := .goto 6) (k := 3) (t := 15) (st' := []) (by decide +kernel) (ab_goto (by decide +kernel)) ?_
      refine ab_fin.s1i (i := .iconst 0) (k := 1) (pc' := 16) (n := 0) (by decide +kernel) rfl (by decide +kernel) rfl ?_
      refine ab_fin.ret (i := .ireturn) (k := 1) (some (.int 0)) (by decide +kernel) rfl ?_
      refine ab_bk.back (pc' := 239) (st' := [.int 0]) rfl rfl ?_
      refine ab_fin.s2 (i := .istore 5) (k := 2) (pc' := 241) (lv' := [(5, .int 0), (4, .int 0), (3, .ref 3466), (2, .ref 101), (1, .ref 0), (0, .retAddr 9)]) (st' := []) (by decide +kernel) rfl rfl ?_
      refine ab_fin.s2 (i := .aload_n 2) (k := 1) (pc' := 242) (lv' := [(5, .int 0), (4, .int 0), (3, .ref 3466), (2, .ref 101), (1, .ref 0), (0, .retAddr 9)]) (st' := [.ref 101]) (by decide +kernel) rfl rfl ?_
      refine ab_fin.s2 (i := .aload_n 0) (k := 1) (pc' := 243) (lv' := [(5, .int 0), (4, .int 0), (3, .ref 3466), (2, .ref 101), (1, .ref 0), (0, .retAddr 9)]) (st' := [.retAddr 9, .ref 101]) (by decide +kernel) rfl rfl ?_
      refine ab_fin.s2 (i := .iload 4) (k := 2) (pc' := 245) (lv' := [(5, .int 0), (4, .int 0), (3, .ref 3466), (2, .ref 101), (1, .ref 0), (0, .retAddr 9)]) (st' := [.int 0, .retAddr 9, .ref 101]) (by decide +kernel) rfl rfl ?_
      refine ab_fin.s1i (i := .iconst 1) (k := 1) (pc' := 246) (n := 1) (by decide +kernel) rfl (by decide +kernel) rfl ?_
      refine ab_fin.s1i (i := .iadd) (k := 1) (pc' := 247) (n := 1) (by decide +kernel) rfl (by decide +kernel) rfl ?_
      refine ab_fin.s8 (i := .iaload) (k := 1) (pc' := 248) (st' := [.int ((xs 1)), .ref 101]) (by decide +kernel) (ab_x0 rfl (by decide +kernel) rfl) rfl rfl rfl ?_
      refine ab_fin.call (i := .invokevirtual 81) (k := 3) (y := 5996) (As := [.ref 101, .int ((xs 1))]) (rest := []) (M' := (mX23_end, [])) (by decide +kernel) (ab_cv rfl rfl (ab_ov_no f_101 rfl) ⟨(Nat.le_of_ble_eq_true rfl), (Nat.le_of_ble_eq_true rfl)⟩ rfl) rfl (Nat.le_of_ble_eq_true rfl) ?_
      show ab_fin _ _ _ _ 0 [(0, .ref 101), (1, .int ((xs 1)))] [] _ _
      refine ab_fin.s2 (i := .aload_n 0) (k := 1) (pc' := 1) (lv' := [(0, .ref 101), (1, .int ((xs 1)))]) (st' := [.ref 101]) (by decide +kernel) rfl rfl ?_
      refine ab_fin.s1i (i := .iconst 0) (k := 1) (pc' := 2) (n := 0) (by decide +kernel) rfl (by decide +kernel) rfl ?_
      refine ab_fin.putf (ix := 1000) (h1 := ab_ov h [(101, .inr (.inr (24, (p1_o101).set 110 (.int 0)))), (3466, .inr (.inl (1, .inr (.inl ((List.replicate 1 0).set 0 ((Int32.toInt64 (xs 1)))))))), (0, .inr (.inr (13, (p1_o0).set 9 (.int ((xs 1))))))]) (pc' := 5) (by decide +kernel) rfl (ab_ov_no f_101 rfl) (ab_klt (n := 115) (by rw [p1_n101]) (by decide)) rfl rfl (ab_ov_set rfl) rfl ?_
      refine ab_fin.s2 (i := .iload_n 1) (k := 1) (pc' := 6) (lv' := [(0, .ref 101), (1, .int ((xs 1)))]) (st' := [.int ((xs 1))]) (by decide +kernel) rfl rfl ?_
      refine ab_fin.brF (c := (xs 1) < 0) (i := .ifCond .lt 11) (off := 11) (t := 17) (pc' := 9) (r := []) (by decide +kernel) rfl (by decide +kernel) rfl (by have l0 : (0 : Int32).toInt = 0 := rfl; simp only [← Int32.toInt_inj, Int32.lt_iff_toInt_lt, Int32.le_iff_toInt_le, l0] at q1 q2 ⊢; omega) ?_
      refine ab_fin.s2 (i := .iload_n 1) (k := 1) (pc' := 10) (lv' := [(0, .ref 101), (1, .int ((xs 1)))]) (st' := [.int ((xs 1))]) (by decide +kernel) rfl rfl ?_
      refine ab_fin.s2 (i := .aload_n 0) (k := 1) (pc' := 11) (lv' := [(0, .ref 101), (1, .int ((xs 1)))]) (st' := [.ref 101, .int ((xs 1))]) (by decide +kernel) rfl rfl ?_
      refine ab_fin.getf (ix := 180) (k := 15) (v := .int 0) (pc' := 14) (by decide +kernel) rfl (ab_ov_get (lt0 101 (by decide)) rfl) rfl rfl ?_
      refine ab_fin.brT (c := (xs 1) ≤ (0 : Int32)) (i := .if_icmp .le 9) (off := 9) (t := 23) (r := []) (by decide +kernel) rfl (by decide +kernel) (by have l0 : (0 : Int32).toInt = 0 := rfl; simp only [← Int32.toInt_inj, Int32.lt_iff_toInt_lt, Int32.le_iff_toInt_le, l0] at q1 q2 ⊢; omega) ?_
      refine ab_fin.s2 (i := .aload_n 0) (k := 1) (pc' := 24) (lv' := [(0, .ref 101), (1, .int ((xs 1)))]) (st' := [.ref 101]) (by decide +kernel) rfl rfl ?_
      refine ab_fin.s2 (i := .iload_n 1) (k := 1) (pc' := 25) (lv' := [(0, .ref 101), (1, .int ((xs 1)))]) (st' := [.int ((xs 1)), .ref 101]) (by decide +kernel) rfl rfl ?_
      refine ab_fin.putf (ix := 180) (h1 := ab_ov h [(101, .inr (.inr (24, ((p1_o101).set 110 (.int 0)).set 15 (.int ((xs 1)))))), (3466, .inr (.inl (1, .inr (.inl ((List.replicate 1 0).set 0 ((Int32.toInt64 (xs 1)))))))), (0, .inr (.inr (13, (p1_o0).set 9 (.int ((xs 1))))))]) (pc' := 28) (by decide +kernel) rfl (ab_ov_get (lt0 101 (by decide)) rfl) (ab_klt (n := 115) (by rw [List.length_set, p1_n101]) (by decide)) rfl rfl (ab_ov_set rfl) rfl ?_
      refine ab_fin.s2 (i := .iload_n 1) (k := 1) (pc' := 29) (lv' := [(0, .ref 101), (1, .int ((xs 1)))]) (st' := [.int ((xs 1))]) (by decide +kernel) rfl rfl ?_
      refine ab_fin.ret (i := .ireturn) (k := 1) (some (.int ((xs 1)))) (by decide +kernel) rfl ?_
      refine ab_bk.back (pc' := 251) (st' := [.int ((xs 1))]) rfl rfl ?_
      refine ab_fin.s2 (i := .istore 6) (k := 2) (pc' := 253) (lv' := [(6, .int ((xs 1))), (5, .int 0), (4, .int 0), (3, .ref 3466), (2, .ref 101), (1, .ref 0), (0, .retAddr 9)]) (st' := []) (by decide +kernel) rfl rfl ?_
      refine ab_fin.s2 (i := .aload_n 2) (k := 1) (pc' := 254) (lv' := [(6, .int ((xs 1))), (5, .int 0), (4, .int 0), (3, .ref 3466), (2, .ref 101), (1, .ref 0), (0, .retAddr 9)]) (st' := [.ref 101]) (by decide +kernel) rfl rfl ?_
      refine ab_fin.call (i := .invokevirtual 75) (k := 3) (y := 5992) (As := [.ref 101]) (rest := []) (M' := (mX23_thrown, [])) (by decide +kernel) (ab_cv rfl rfl (ab_ov_get (lt0 101 (by decide)) rfl) ⟨(Nat.le_of_ble_eq_true rfl), (Nat.le_of_ble_eq_true rfl)⟩ rfl) rfl (Nat.le_of_ble_eq_true rfl) ?_
      show ab_fin _ _ _ _ 0 [(0, .ref 101)] [] _ _
      refine ab_fin.s2 (i := .aload_n 0) (k := 1) (pc' := 1) (lv' := [(0, .ref 101)]) (st' := [.ref 101]) (by decide +kernel) rfl rfl ?_
      refine ab_fin.getf (ix := 1000) (k := 110) (v := .int 0) (pc' := 4) (by decide +kernel) rfl (ab_ov_get (lt0 101 (by decide)) rfl) rfl rfl ?_
      refine ab_fin.ret (i := .ireturn) (k := 1) (some (.int 0)) (by decide +kernel) rfl ?_
      refine ab_bk.back (pc' := 257) (st' := [.int 0]) rfl rfl ?_
      refine ab_fin.s2 (i := .iload 5) (k := 2) (pc' := 259) (lv' := [(6, .int ((xs 1))), (5, .int 0), (4, .int 0), (3, .ref 3466), (2, .ref 101), (1, .ref 0), (0, .retAddr 9)]) (st' := [.int 0, .int 0]) (by decide +kernel) rfl rfl ?_
      refine ab_fin.brT (c := (0 : Int32) = (0 : Int32)) (i := .if_icmp .eq 5) (off := 5) (t := 264) (r := []) (by decide +kernel) rfl (by decide +kernel) (by decide +kernel) ?_
      refine ab_fin.s2 (i := .iload 5) (k := 2) (pc' := 266) (lv' := [(6, .int ((xs 1))), (5, .int 0), (4, .int 0), (3, .ref 3466), (2, .ref 101), (1, .ref 0), (0, .retAddr 9)]) (st' := [.int 0]) (by decide +kernel) rfl rfl ?_
      refine ab_fin.brF (c := ¬ (0 : Int32) = 0) (i := .ifCond .ne 15) (off := 15) (t := 281) (pc' := 269) (r := []) (by decide +kernel) rfl (by decide +kernel) rfl (by decide +kernel) ?_
      refine ab_fin.s2 (i := .aload_n 3) (k := 1) (pc' := 270) (lv' := [(6, .int ((xs 1))), (5, .int 0), (4, .int 0), (3, .ref 3466), (2, .ref 101), (1, .ref 0), (0, .retAddr 9)]) (st' := [.ref 3466]) (by decide +kernel) rfl rfl ?_
      refine ab_fin.s1i (i := .iconst 0) (k := 1) (pc' := 271) (n := 0) (by decide +kernel) rfl (by decide +kernel) rfl ?_
      refine ab_fin.lald (v := (Int32.toInt64 (xs 1))) (pc' := 272) (by decide +kernel) (ab_ov_get (lt0 3466 (by decide)) rfl) (ab_bd (n := 1) (by rw [List.length_set, List.length_replicate]) (by decide +kernel)) rfl rfl ?_
      refine ab_fin.s2 (i := .iload 6) (k := 2) (pc' := 274) (lv' := [(6, .int ((xs 1))), (5, .int 0), (4, .int 0), (3, .ref 3466), (2, .ref 101), (1, .ref 0), (0, .retAddr 9)]) (st' := [.int ((xs 1)), .long ((Int32.toInt64 (xs 1)))]) (by decide +kernel) rfl rfl ?_
      refine ab_fin.s1 (i := .i2l) (k := 1) (pc' := 275) (st' := [.long ((Int32.toInt64 (xs 1))), .long ((Int32.toInt64 (xs 1)))]) (by decide +kernel) rfl rfl ?_
      have q3 : (xs 1) = 0 := (by have l0 : (0 : Int32).toInt = 0 := rfl; simp only [← Int32.toInt_inj, Int32.lt_iff_toInt_lt, Int32.le_iff_toInt_le, l0] at q1 q2 ⊢; omega)
      rw [q3]
      try rw [show (Int32.toInt64 0) = (0 : Int64) by decide +kernel]
      try rw [show (Int32.toInt64 0) = (0 : Int64) by decide +kernel]
      refine ab_fin.s1i (i := .lcmp) (k := 1) (pc' := 276) (n := 0) (by decide +kernel) rfl (by decide +kernel) rfl ?_
      refine ab_fin.brT (c := (0 : Int32) = 0) (i := .ifCond .eq 5) (off := 5) (t := 281) (r := []) (by decide +kernel) rfl (by decide +kernel) (by decide +kernel) ?_
      refine ab_fin.s3 (i := .goto 809) (k := 3) (t := 1090) (st' := []) (by decide +kernel) (ab_goto (by decide +kernel)) ?_
      refine ab_fin.inc (i := .iinc 4 6) (k := 3) (pc' := 1093) (j := 4) (n := 6) (lv' := [(6, .int 0), (5, .int 0), (3, .ref 3466), (2, .ref 101), (1, .ref 0), (0, .retAddr 9)]) (by decide +kernel) rfl (by decide +kernel) rfl ?_
      refine ab_fin.s3 (i := .goto (-1070)) (k := 3) (t := 23) (st' := []) (by decide +kernel) (ab_goto (by decide +kernel)) ?_
      refine ab_fin.s2 (i := .iload 4) (k := 2) (pc' := 25) (lv' := [(4, .int 6), (6, .int 0), (5, .int 0), (3, .ref 3466), (2, .ref 101), (1, .ref 0), (0, .retAddr 9)]) (st' := [.int 6]) (by decide +kernel) rfl rfl ?_
      refine ab_fin.s2 (i := .aload_n 0) (k := 1) (pc' := 26) (lv' := [(4, .int 6), (6, .int 0), (5, .int 0), (3, .ref 3466), (2, .ref 101), (1, .ref 0), (0, .retAddr 9)]) (st' := [.retAddr 9, .int 6]) (by decide +kernel) rfl rfl ?_
      refine ab_fin.s8 (i := .arraylength) (k := 1) (pc' := 27) (st' := [.int 6, .int 6]) (by decide +kernel) rfl rfl rfl rfl ?_
      refine ab_fin.s1i (i := .bipush 6) (k := 2) (pc' := 29) (n := 6) (by decide +kernel) rfl (by decide +kernel) rfl ?_
      refine ab_fin.s1i (i := .isub) (k := 1) (pc' := 30) (n := 0) (by decide +kernel) rfl (by decide +kernel) rfl ?_
      refine ab_fin.brT (c := (0 : Int32) < (6 : Int32)) (i := .if_icmp .gt 1066) (off := 1066) (t := 1096) (r := []) (by decide +kernel) rfl (by decide +kernel) (by decide +kernel) ?_
      refine ab_fin.s1i (i := .iconst 1) (k := 1) (pc' := 1097) (n := 1) (by decide +kernel) rfl (by decide +kernel) rfl ?_
      refine ab_fin.ret (i := .ireturn) (k := 1) (some (.int 1)) (by decide +kernel) rfl ?_
      refine ⟨rfl, ?_, ?_⟩
      · rw [ab_ov_len, hl]; decide
      · refine Nat.le_trans (ab_ov_z _ _) ?_
        simp only [List.map, List.sum_cons, List.sum_nil, ab_z1, ab_len, List.length_set, List.length_replicate, List.length_cons, List.length_nil, p1_n0, p1_n101]
        omega
    · refine ab_fin.thrN (i := .new 99) (k := 3) (cls := "java/lang/IllegalArgumentException") (n := 3467) (by decide +kernel) (by decide +kernel) (fun ix q => by cases q; rfl) (by decide) (Nat.le_of_ble_eq_true rfl) ((ab_ov_len _ _).trans hl) (ab_ov_app (by rw [hl]; decide +kernel)) ?_
      obtain ⟨h1, e1⟩ : ∃ h2 : List ab_E, h2 = h ++ [.inl 6] := ⟨_, rfl⟩
      have hl1 : h1.length = 3468 := by rw [e1, List.length_append, hl]; rfl
      have lt1 : ∀ a, a < 3468 → a < h1.length := fun a q => by rw [hl1]; exact q
      have hz1 : ab_z h1 = ab_z h + 6 := by rw [e1, ab_z_app]; rfl
      have f1_0 := (show h1[0]? = h[0]? by rw [e1, List.getElem?_append_left (by rw [hl]; decide)]).trans f_0
      have f1_101 := (show h1[101]? = h[101]? by rw [e1, List.getElem?_append_left (by rw [hl]; decide)]).trans f_101
      have f1_3466 := (show h1[3466]? = h[3466]? by rw [e1, List.getElem?_append_left (by rw [hl]; decide)]).trans f_3466
      rw [← e1]
      refine ab_bk.catch (hp := 12) (by decide +kernel) rfl ?_
      refine ab_fin.s2 (i := .astore_n 3) (k := 1) (pc' := 13) (lv' := [(3, .ref 3467), (0, .ref 0), (1, .int ((xs 1))), (2, .ref 3466)]) (st' := []) (by decide +kernel) rfl rfl ?_
      refine ab_fin.s1i (i := .iconst 1) (k := 1) (pc' := 14) (n := 1) (by decide +kernel) rfl (by decide +kernel) rfl ?_
      refine ab_fin.ret (i := .ireturn) (k := 1) (some (.int 1)) (by decide +kernel) rfl ?_
      refine ab_bk.back (pc' := 239) (st' := [.int 1]) rfl rfl ?_
      refine ab_fin.s2 (i := .istore 5) (k := 2) (pc' := 241) (lv' := [(5, .int 1), (4, .int 0), (3, .ref 3466), (2, .ref 101), (1, .ref 0), (0, .retAddr 9)]) (st' := []) (by decide +kernel) rfl rfl ?_
      refine ab_fin.s2 (i := .aload_n 2) (k := 1) (pc' := 242) (lv' := [(5, .int 1), (4, .int 0), (3, .ref 3466), (2, .ref 101), (1, .ref 0), (0, .retAddr 9)]) (st' := [.ref 101]) (by decide +kernel) rfl rfl ?_
      refine ab_fin.s2 (i := .aload_n 0) (k := 1) (pc' := 243) (lv' := [(5, .int 1), (4, .int 0), (3, .ref 3466), (2, .ref 101), (1, .ref 0), (0, .retAddr 9)]) (st' := [.retAddr 9, .ref 101]) (by decide +kernel) rfl rfl ?_
      refine ab_fin.s2 (i := .iload 4) (k := 2) (pc' := 245) (lv' := [(5, .int 1), (4, .int 0), (3, .ref 3466), (2, .ref 101), (1, .ref 0), (0, .retAddr 9)]) (st' := [.int 0, .retAddr 9, .ref 101]) (by decide +kernel) rfl rfl ?_
      refine ab_fin.s1i (i := .iconst 1) (k := 1) (pc' := 246) (n := 1) (by decide +kernel) rfl (by decide +kernel) rfl ?_
      refine ab_fin.s1i (i := .iadd) (k := 1) (pc' := 247) (n := 1) (by decide +kernel) rfl (by decide +kernel) rfl ?_
      refine ab_fin.s8 (i := .iaload) (k := 1) (pc' := 248) (st' := [.int ((xs 1)), .ref 101]) (by decide +kernel) (ab_x0 rfl (by decide +kernel) rfl) rfl rfl rfl ?_
      refine ab_fin.call (i := .invokevirtual 81) (k := 3) (y := 5996) (As := [.ref 101, .int ((xs 1))]) (rest := []) (M' := (mX23_end, [])) (by decide +kernel) (ab_cv rfl rfl (ab_ov_no f1_101 rfl) ⟨(Nat.le_of_ble_eq_true rfl), (Nat.le_of_ble_eq_true rfl)⟩ rfl) rfl (Nat.le_of_ble_eq_true rfl) ?_
      show ab_fin _ _ _ _ 0 [(0, .ref 101), (1, .int ((xs 1)))] [] _ _
      refine ab_fin.s2 (i := .aload_n 0) (k := 1) (pc' := 1) (lv' := [(0, .ref 101), (1, .int ((xs 1)))]) (st' := [.ref 101]) (by decide +kernel) rfl rfl ?_
      refine ab_fin.s1i (i := .iconst 0) (k := 1) (pc' := 2) (n := 0) (by decide +kernel) rfl (by decide +kernel) rfl ?_
      refine ab_fin.putf (ix := 1000) (h1 := ab_ov h1 [(101, .inr (.inr (24, (p1_o101).set 110 (.int 0))))]) (pc' := 5) (by decide +kernel) rfl (ab_ov_no f1_101 rfl) (ab_klt (n := 115) (by rw [p1_n101]) (by decide)) rfl rfl (ab_ov_set rfl) rfl ?_
      refine ab_fin.s2 (i := .iload_n 1) (k := 1) (pc' := 6) (lv' := [(0, .ref 101), (1, .int ((xs 1)))]) (st' := [.int ((xs 1))]) (by decide +kernel) rfl rfl ?_
      refine ab_fin.brF (c := (xs 1) < 0) (i := .ifCond .lt 11) (off := 11) (t := 17) (pc' := 9) (r := []) (by decide +kernel) rfl (by decide +kernel) rfl (by have l0 : (0 : Int32).toInt = 0 := rfl; simp only [← Int32.toInt_inj, Int32.lt_iff_toInt_lt, Int32.le_iff_toInt_le, l0] at q1 q2 ⊢; omega) ?_
      refine ab_fin.s2 (i := .iload_n 1) (k := 1) (pc' := 10) (lv' := [(0, .ref 101), (1, .int ((xs 1)))]) (st' := [.int ((xs 1))]) (by decide +kernel) rfl rfl ?_
      refine ab_fin.s2 (i := .aload_n 0) (k := 1) (pc' := 11) (lv' := [(0, .ref 101), (1, .int ((xs 1)))]) (st' := [.ref 101, .int ((xs 1))]) (by decide +kernel) rfl rfl ?_
      refine ab_fin.getf (ix := 180) (k := 15) (v := .int 0) (pc' := 14) (by decide +kernel) rfl (ab_ov_get (lt1 101 (by decide)) rfl) rfl rfl ?_
      refine ab_fin.brF (c := (xs 1) ≤ (0 : Int32)) (i := .if_icmp .le 9) (off := 9) (t := 23) (pc' := 17) (r := []) (by decide +kernel) rfl (by decide +kernel) rfl (by have l0 : (0 : Int32).toInt = 0 := rfl; simp only [← Int32.toInt_inj, Int32.lt_iff_toInt_lt, Int32.le_iff_toInt_le, l0] at q1 q2 ⊢; omega) ?_
      refine ab_fin.s2 (i := .aload_n 0) (k := 1) (pc' := 18) (lv' := [(0, .ref 101), (1, .int ((xs 1)))]) (st' := [.ref 101]) (by decide +kernel) rfl rfl ?_
      refine ab_fin.s1i (i := .iconst 1) (k := 1) (pc' := 19) (n := 1) (by decide +kernel) rfl (by decide +kernel) rfl ?_
      refine ab_fin.call (i := .invokevirtual 1003) (k := 3) (y := 5993) (As := [.ref 101, .int 1]) (rest := []) (M' := (mX23_no_, [])) (by decide +kernel) (ab_cv rfl rfl (ab_ov_get (lt1 101 (by decide)) rfl) ⟨(Nat.le_of_ble_eq_true rfl), (Nat.le_of_ble_eq_true rfl)⟩ rfl) rfl (Nat.le_of_ble_eq_true rfl) ?_
      show ab_fin _ _ _ _ 0 [(0, .ref 101), (1, .int 1)] [] _ _
      refine ab_fin.s2 (i := .aload_n 0) (k := 1) (pc' := 1) (lv' := [(0, .ref 101), (1, .int 1)]) (st' := [.ref 101]) (by decide +kernel) rfl rfl ?_
      refine ab_fin.s2 (i := .iload_n 1) (k := 1) (pc' := 2) (lv' := [(0, .ref 101), (1, .int 1)]) (st' := [.int 1, .ref 101]) (by decide +kernel) rfl rfl ?_
      refine ab_fin.putf (ix := 1000) (h1 := ab_ov h1 [(101, .inr (.inr (24, (p1_o101).set 110 (.int 1))))]) (pc' := 5) (by decide +kernel) rfl (ab_ov_get (lt1 101 (by decide)) rfl) (ab_klt (n := 115) (by rw [List.length_set, p1_n101]) (by decide)) rfl rfl (ab_ov_set rfl) rfl ?_
      refine ab_fin.s1i (i := .iconst 0) (k := 1) (pc' := 6) (n := 0) (by decide +kernel) rfl (by decide +kernel) rfl ?_
      refine ab_fin.ret (i := .ireturn) (k := 1) (some (.int 0)) (by decide +kernel) rfl ?_
      refine ab_bk.back (pc' := 22) (st' := [.int 0]) rfl rfl ?_
      refine ab_fin.ret (i := .ireturn) (k := 1) (some (.int 0)) (by decide +kernel) rfl ?_
      refine ab_bk.back (pc' := 251) (st' := [.int 0]) rfl rfl ?_
      refine ab_fin.s2 (i := .istore 6) (k := 2) (pc' := 253) (lv' := [(6, .int 0), (5, .int 1), (4, .int 0), (3, .ref 3466), (2, .ref 101), (1, .ref 0), (0, .retAddr 9)]) (st' := []) (by decide +kernel) rfl rfl ?_
      refine ab_fin.s2 (i := .aload_n 2) (k := 1) (pc' := 254) (lv' := [(6, .int 0), (5, .int 1), (4, .int 0), (3, .ref 3466), (2, .ref 101), (1, .ref 0), (0, .retAddr 9)]) (st' := [.ref 101]) (by decide +kernel) rfl rfl ?_
      refine ab_fin.call (i := .invokevirtual 75) (k := 3) (y := 5992) (As := [.ref 101]) (rest := []) (M' := (mX23_thrown, [])) (by decide +kernel) (ab_cv rfl rfl (ab_ov_get (lt1 101 (by decide)) rfl) ⟨(Nat.le_of_ble_eq_true rfl), (Nat.le_of_ble_eq_true rfl)⟩ rfl) rfl (Nat.le_of_ble_eq_true rfl) ?_
      show ab_fin _ _ _ _ 0 [(0, .ref 101)] [] _ _
      refine ab_fin.s2 (i := .aload_n 0) (k := 1) (pc' := 1) (lv' := [(0, .ref 101)]) (st' := [.ref 101]) (by decide +kernel) rfl rfl ?_
      refine ab_fin.getf (ix := 1000) (k := 110) (v := .int 1) (pc' := 4) (by decide +kernel) rfl (ab_ov_get (lt1 101 (by decide)) rfl) rfl rfl ?_
      refine ab_fin.ret (i := .ireturn) (k := 1) (some (.int 1)) (by decide +kernel) rfl ?_
      refine ab_bk.back (pc' := 257) (st' := [.int 1]) rfl rfl ?_
      refine ab_fin.s2 (i := .iload 5) (k := 2) (pc' := 259) (lv' := [(6, .int 0), (5, .int 1), (4, .int 0), (3, .ref 3466), (2, .ref 101), (1, .ref 0), (0, .retAddr 9)]) (st' := [.int 1, .int 1]) (by decide +kernel) rfl rfl ?_
      refine ab_fin.brT (c := (1 : Int32) = (1 : Int32)) (i := .if_icmp .eq 5) (off := 5) (t := 264) (r := []) (by decide +kernel) rfl (by decide +kernel) (by decide +kernel) ?_
      refine ab_fin.s2 (i := .iload 5) (k := 2) (pc' := 266) (lv' := [(6, .int 0), (5, .int 1), (4, .int 0), (3, .ref 3466), (2, .ref 101), (1, .ref 0), (0, .retAddr 9)]) (st' := [.int 1]) (by decide +kernel) rfl rfl ?_
      refine ab_fin.brT (c := ¬ (1 : Int32) = 0) (i := .ifCond .ne 15) (off := 15) (t := 281) (r := []) (by decide +kernel) rfl (by decide +kernel) (by decide +kernel) ?_
      refine ab_fin.s3 (i := .goto 809) (k := 3) (t := 1090) (st' := []) (by decide +kernel) (ab_goto (by decide +kernel)) ?_
      refine ab_fin.inc (i := .iinc 4 6) (k := 3) (pc' := 1093) (j := 4) (n := 6) (lv' := [(6, .int 0), (5, .int 1), (3, .ref 3466), (2, .ref 101), (1, .ref 0), (0, .retAddr 9)]) (by decide +kernel) rfl (by decide +kernel) rfl ?_
      refine ab_fin.s3 (i := .goto (-1070)) (k := 3) (t := 23) (st' := []) (by decide +kernel) (ab_goto (by decide +kernel)) ?_
      refine ab_fin.s2 (i := .iload 4) (k := 2) (pc' := 25) (lv' := [(4, .int 6), (6, .int 0), (5, .int 1), (3, .ref 3466), (2, .ref 101), (1, .ref 0), (0, .retAddr 9)]) (st' := [.int 6]) (by decide +kernel) rfl rfl ?_
      refine ab_fin.s2 (i := .aload_n 0) (k := 1) (pc' := 26) (lv' := [(4, .int 6), (6, .int 0), (5, .int 1), (3, .ref 3466), (2, .ref 101), (1, .ref 0), (0, .retAddr 9)]) (st' := [.retAddr 9, .int 6]) (by decide +kernel) rfl rfl ?_
      refine ab_fin.s8 (i := .arraylength) (k := 1) (pc' := 27) (st' := [.int 6, .int 6]) (by decide +kernel) rfl rfl rfl rfl ?_
      refine ab_fin.s1i (i := .bipush 6) (k := 2) (pc' := 29) (n := 6) (by decide +kernel) rfl (by decide +kernel) rfl ?_
      refine ab_fin.s1i (i := .isub) (k := 1) (pc' := 30) (n := 0) (by decide +kernel) rfl (by decide +kernel) rfl ?_
      refine ab_fin.brT (c := (0 : Int32) < (6 : Int32)) (i := .if_icmp .gt 1066) (off := 1066) (t := 1096) (r := []) (by decide +kernel) rfl (by decide +kernel) (by decide +kernel) ?_
      refine ab_fin.s1i (i := .iconst 1) (k := 1) (pc' := 1097) (n := 1) (by decide +kernel) rfl (by decide +kernel) rfl ?_
      refine ab_fin.ret (i := .ireturn) (k := 1) (some (.int 1)) (by decide +kernel) rfl ?_
      refine ⟨rfl, ?_, ?_⟩
      · rw [ab_ov_len, hl1]; decide
      · refine Nat.le_trans (ab_ov_z _ _) ?_
        simp only [List.map, List.sum_cons, List.sum_nil, ab_z1, ab_len, List.length_set, List.length_replicate, List.length_cons, List.length_nil, p1_n101]
        have z1 : ab_z h1 = _ := hz1
        omega

set_option maxRecDepth 100000 in
set_option maxHeartbeats 0 in
theorem p1_set (z4 z5 z6 : Value) (n_z4 : z4 = .null ∨ z4 = .retAddr 4) (n_z5 : z5 = .null ∨ z5 = .retAddr 5) (n_z6 : z6 = .null ∨ z6 = .retAddr 6) (xs : Nat → Int32) (h : List ab_E) (hl : h.length = 3467) (hz : ab_z h ≤ 400000) (f_0 : h[0]? = some (.inr (.inr (13, p1_o0)))) (f_1 : h[1]? = some (.inr (.inr (12, p1_o1)))) (f_101 : h[101]? = some (.inr (.inr (24, p1_o101)))) (f_2170 : h[2170]? = some (.inr (.inl (0, .inl (List.replicate 8192 (-1)))))) (f_3466 : h[3466]? = some (.inr (.inl (1, .inr (.inl (List.replicate 1 0)))))) : ab_fin (hb_Gz (some z4, some z5, some z6) (some (0, 6, fun i => .int (xs i)))) hb_GT 2046 (mL_law, []) 384 [(4, .int 0), (3, .ref 3466), (2, .ref 101), (1, .ref 0), (0, .retAddr 9)] [] h p1_Q := by
  have lt0 : ∀ a, a < 3467 → a < h.length := fun a q => by rw [hl]; exact q
  show ab_fin _ _ _ _ _ _ _ (ab_ov h []) _
  refine ab_fin.s2 (i := .aload_n 1) (k := 1) (pc' := 385) (lv' := [(4, .int 0), (3, .ref 3466), (2, .ref 101), (1, .ref 0), (0, .retAddr 9)]) (st' := [.ref 0]) (by decide +kernel) rfl rfl ?_
  refine ab_fin.s2 (i := .aload_n 0) (k := 1) (pc' := 386) (lv' := [(4, .int 0), (3, .ref 3466), (2, .ref 101), (1, .ref 0), (0, .retAddr 9)]) (st' := [.retAddr 9, .ref 0]) (by decide +kernel) rfl rfl ?_
  refine ab_fin.s2 (i := .iload 4) (k := 2) (pc' := 388) (lv' := [(4, .int 0), (3, .ref 3466), (2, .ref 101), (1, .ref 0), (0, .retAddr 9)]) (st' := [.int 0, .retAddr 9, .ref 0]) (by decide +kernel) rfl rfl ?_
  refine ab_fin.s1i (i := .iconst 1) (k := 1) (pc' := 389) (n := 1) (by decide +kernel) rfl (by decide +kernel) rfl ?_
  refine ab_fin.s1i (i := .iadd) (k := 1) (pc' := 390) (n := 1) (by decide +kernel) rfl (by decide +kernel) rfl ?_
  refine ab_fin.s8 (i := .iaload) (k := 1) (pc' := 391) (st' := [.int ((xs 1)), .ref 0]) (by decide +kernel) (ab_x0 rfl (by decide +kernel) rfl) rfl rfl rfl ?_
  refine ab_fin.s2 (i := .aload_n 0) (k := 1) (pc' := 392) (lv' := [(4, .int 0), (3, .ref 3466), (2, .ref 101), (1, .ref 0), (0, .retAddr 9)]) (st' := [.retAddr 9, .int ((xs 1)), .ref 0]) (by decide +kernel) rfl rfl ?_
  refine ab_fin.s2 (i := .iload 4) (k := 2) (pc' := 394) (lv' := [(4, .int 0), (3, .ref 3466), (2, .ref 101), (1, .ref 0), (0, .retAddr 9)]) (st' := [.int 0, .retAddr 9, .int ((xs 1)), .ref 0]) (by decide +kernel) rfl rfl ?_
  refine ab_fin.s1i (i := .iconst 2) (k := 1) (pc' := 395) (n := 2) (by decide +kernel) rfl (by decide +kernel) rfl ?_
  refine ab_fin.s1i (i := .iadd) (k := 1) (pc' := 396) (n := 2) (by decide +kernel) rfl (by decide +kernel) rfl ?_
  refine ab_fin.s8 (i := .iaload) (k := 1) (pc' := 397) (st' := [.int ((xs 2)), .int ((xs 1)), .ref 0]) (by decide +kernel) (ab_x0 rfl (by decide +kernel) rfl) rfl rfl rfl ?_
  refine ab_fin.s2 (i := .aload_n 3) (k := 1) (pc' := 398) (lv' := [(4, .int 0), (3, .ref 3466), (2, .ref 101), (1, .ref 0), (0, .retAddr 9)]) (st' := [.ref 3466, .int ((xs 2)), .int ((xs 1)), .ref 0]) (by decide +kernel) rfl rfl ?_
  refine ab_fin.call (i := .invokestatic 97) (k := 3) (y := 13515) (As := [.ref 0, .int ((xs 1)), .int ((xs 2)), .ref 3466]) (rest := []) (M' := (mL_set, [(0, 10, 13, 19)])) (by decide +kernel) (ab_cs rfl rfl ⟨(Nat.le_of_ble_eq_true rfl), (Nat.le_of_ble_eq_true rfl)⟩ rfl) rfl (Nat.le_of_ble_eq_true rfl) ?_
  show ab_fin _ _ _ _ 0 [(0, .ref 0), (1, .int ((xs 1))), (2, .int ((xs 2))), (3, .ref 3466)] [] _ _
  refine ab_fin.s2 (i := .aload_n 3) (k := 1) (pc' := 1) (lv' := [(0, .ref 0), (1, .int ((xs 1))), (2, .int ((xs 2))), (3, .ref 3466)]) (st' := [.ref 3466]) (by decide +kernel) rfl rfl ?_
  refine ab_fin.s1i (i := .iconst 0) (k := 1) (pc' := 2) (n := 0) (by decide +kernel) rfl (by decide +kernel) rfl ?_
  refine ab_fin.s2 (i := .aload_n 0) (k := 1) (pc' := 3) (lv' := [(0, .ref 0), (1, .int ((xs 1))), (2, .int ((xs 2))), (3, .ref 3466)]) (st' := [.ref 0, .int 0, .ref 3466]) (by decide +kernel) rfl rfl ?_
  refine ab_fin.s2 (i := .iload_n 1) (k := 1) (pc' := 4) (lv' := [(0, .ref 0), (1, .int ((xs 1))), (2, .int ((xs 2))), (3, .ref 3466)]) (st' := [.int ((xs 1)), .ref 0, .int 0, .ref 3466]) (by decide +kernel) rfl rfl ?_
  refine ab_fin.s2 (i := .iload_n 2) (k := 1) (pc' := 5) (lv' := [(0, .ref 0), (1, .int ((xs 1))), (2, .int ((xs 2))), (3, .ref 3466)]) (st' := [.int ((xs 2)), .int ((xs 1)), .ref 0, .int 0, .ref 3466]) (by decide +kernel) rfl rfl ?_
  refine ab_fin.call (i := .invokevirtual 25) (k := 3) (y := 3080) (As := [.ref 0, .int ((xs 1)), .int ((xs 2))]) (rest := [.int 0, .ref 3466]) (M' := (mX12_set, [])) (by decide +kernel) (ab_cv rfl rfl (ab_ov_no f_0 rfl) ⟨(Nat.le_of_ble_eq_true rfl), (Nat.le_of_ble_eq_true rfl)⟩ rfl) rfl (Nat.le_of_ble_eq_true rfl) ?_
  show ab_fin _ _ _ _ 0 [(0, .ref 0), (1, .int ((xs 1))), (2, .int ((xs 2)))] [] _ _
  refine ab_fin.s2 (i := .iload_n 1) (k := 1) (pc' := 1) (lv' := [(0, .ref 0), (1, .int ((xs 1))), (2, .int ((xs 2)))]) (st' := [.int ((xs 1))]) (by decide +kernel) rfl rfl ?_
  refine ab_fin.br (c := ¬ (xs 1) = 0) (i := .ifCond .ne 25) (off := 25) (t := 26) (pc' := 4) (r := []) (by decide +kernel) rfl (by decide +kernel) rfl (fun q1 => ?_) (fun q1 => ?_)
  · refine ab_fin.s2 (i := .iload_n 1) (k := 1) (pc' := 27) (lv' := [(0, .ref 0), (1, .int ((xs 1))), (2, .int ((xs 2)))]) (st' := [.int ((xs 1))]) (by decide +kernel) rfl rfl ?_
    refine ab_fin.s1i (i := .iconst 1) (k := 1) (pc' := 28) (n := 1) (by decide +kernel) rfl (by decide +kernel) rfl ?_
    refine ab_fin.br (c := ¬ (xs 1) = (1 : Int32)) (i := .if_icmp .ne 44) (off := 44) (t := 72) (pc' := 31) (r := []) (by decide +kernel) rfl (by decide +kernel) rfl (fun q2 => ?_) (fun q2 => ?_)
    · refine ab_fin.s2 (i := .iload_n 1) (k := 1) (pc' := 73) (lv' := [(0, .ref 0), (1, .int ((xs 1))), (2, .int ((xs 2)))]) (st' := [.int ((xs 1))]) (by decide +kernel) rfl rfl ?_
      refine ab_fin.s1i (i := .iconst 2) (k := 1) (pc' := 74) (n := 2) (by decide +kernel) rfl (by decide +kernel) rfl ?_
      refine ab_fin.br (c := ¬ (xs 1) = (2 : Int32)) (i := .if_icmp .ne 27) (off := 27) (t := 101) (pc' := 77) (r := []) (by decide +kernel) rfl (by decide +kernel) rfl (fun q3 => ?_) (fun q3 => ?_)
      · refine ab_fin.thrN (i := .new 99) (k := 3) (cls := "java/lang/IllegalArgumentException") (n := 3467) (by decide +kernel) (by decide +kernel) (fun ix q => by cases q; rfl) (by decide) (Nat.le_of_ble_eq_true rfl) ((ab_ov_len _ _).trans hl) (ab_ov_app (by rw [hl]; decide +kernel)) ?_
        obtain ⟨h1, e1⟩ : ∃ h2 : List ab_E, h2 = h ++ [.inl 6] := ⟨_, rfl⟩
        have hl1 : h1.length = 3468 := by rw [e1, List.length_append, hl]; rfl
        have lt1 : ∀ a, a < 3468 → a < h1.length := fun a q => by rw [hl1]; exact q
        have hz1 : ab_z h1 = ab_z h + 6 := by rw [e1, ab_z_app]; rfl
        have f1_0 := (show h1[0]? = h[0]? by rw [e1, List.getElem?_append_left (by rw [hl]; decide)]).trans f_0
        have f1_1 := (show h1[1]? = h[1]? by rw [e1, List.getElem?_append_left (by rw [hl]; decide)]).trans f_1
        have f1_101 := (show h1[101]? = h[101]? by rw [e1, List.getElem?_append_left (by rw [hl]; decide)]).trans f_101
        have f1_2170 := (show h1[2170]? = h[2170]? by rw [e1, List.getElem?_append_left (by rw [hl]; decide)]).trans f_2170
        have f1_3466 := (show h1[3466]? = h[3466]? by rw [e1, List.getElem?_append_left (by rw [hl]; decide)]).trans f_3466
        rw [← e1]
        refine ab_bk.catch (hp := 13) (by decide +kernel) rfl ?_
        refine ab_fin.s2 (i := .astore 4) (k := 2) (pc' := 15) (lv' := [(4, .ref 3467), (0, .ref 0), (1, .int ((xs 1))), (2, .int ((xs 2))), (3, .ref 3466)]) (st' := []) (by decide +kernel) rfl rfl ?_
        refine ab_fin.s1i (i := .iconst 1) (k := 1) (pc' := 16) (n := 1) (by decide +kernel) rfl (by decide +kernel) rfl ?_
        refine ab_fin.ret (i := .ireturn) (k := 1) (some (.int 1)) (by decide +kernel) rfl ?_
        refine ab_bk.back (pc' := 401) (st' := [.int 1]) rfl rfl ?_
        refine ab_fin.s2 (i := .istore 5) (k := 2) (pc' := 403) (lv' := [(5, .int 1), (4, .int 0), (3, .ref 3466), (2, .ref 101), (1, .ref 0), (0, .retAddr 9)]) (st' := []) (by decide +kernel) rfl rfl ?_
        refine ab_fin.s2 (i := .aload_n 2) (k := 1) (pc' := 404) (lv' := [(5, .int 1), (4, .int 0), (3, .ref 3466), (2, .ref 101), (1, .ref 0), (0, .retAddr 9)]) (st' := [.ref 101]) (by decide +kernel) rfl rfl ?_
        refine ab_fin.s2 (i := .aload_n 0) (k := 1) (pc' := 405) (lv' := [(5, .int 1), (4, .int 0), (3, .ref 3466), (2, .ref 101), (1, .ref 0), (0, .retAddr 9)]) (st' := [.retAddr 9, .ref 101]) (by decide +kernel) rfl rfl ?_
        refine ab_fin.s2 (i := .iload 4) (k := 2) (pc' := 407) (lv' := [(5, .int 1), (4, .int 0), (3, .ref 3466), (2, .ref 101), (1, .ref 0), (0, .retAddr 9)]) (st' := [.int 0, .retAddr 9, .ref 101]) (by decide +kernel) rfl rfl ?_
        refine ab_fin.s1i (i := .iconst 1) (k := 1) (pc' := 408) (n := 1) (by decide +kernel) rfl (by decide +kernel) rfl ?_
        refine ab_fin.s1i (i := .iadd) (k := 1) (pc' := 409) (n := 1) (by decide +kernel) rfl (by decide +kernel) rfl ?_
        refine ab_fin.s8 (i := .iaload) (k := 1) (pc' := 410) (st' := [.int ((xs 1)), .ref 101]) (by decide +kernel) (ab_x0 rfl (by decide +kernel) rfl) rfl rfl rfl ?_
        refine ab_fin.s2 (i := .aload_n 0) (k := 1) (pc' := 411) (lv' := [(5, .int 1), (4, .int 0), (3, .ref 3466), (2, .ref 101), (1, .ref 0), (0, .retAddr 9)]) (st' := [.retAddr 9, .int ((xs 1)), .ref 101]) (by decide +kernel) rfl rfl ?_
        refine ab_fin.s2 (i := .iload 4) (k := 2) (pc' := 413) (lv' := [(5, .int 1), (4, .int 0), (3, .ref 3466), (2, .ref 101), (1, .ref 0), (0, .retAddr 9)]) (st' := [.int 0, .retAddr 9, .int ((xs 1)), .ref 101]) (by decide +kernel) rfl rfl ?_
        refine ab_fin.s1i (i := .iconst 2) (k := 1) (pc' := 414) (n := 2) (by decide +kernel) rfl (by decide +kernel) rfl ?_
        refine ab_fin.s1i (i := .iadd) (k := 1) (pc' := 415) (n := 2) (by decide +kernel) rfl (by decide +kernel) rfl ?_
        refine ab_fin.s8 (i := .iaload) (k := 1) (pc' := 416) (st' := [.int ((xs 2)), .int ((xs 1)), .ref 101]) (by decide +kernel) (ab_x0 rfl (by decide +kernel) rfl) rfl rfl rfl ?_
        refine ab_fin.call (i := .invokevirtual 100) (k := 3) (y := 5999) (As := [.ref 101, .int ((xs 1)), .int ((xs 2))]) (rest := []) (M' := (mX23_set, [])) (by decide +kernel) (ab_cv rfl rfl (ab_ov_no f1_101 rfl) ⟨(Nat.le_of_ble_eq_true rfl), (Nat.le_of_ble_eq_true rfl)⟩ rfl) rfl (Nat.le_of_ble_eq_true rfl) ?_
        show ab_fin _ _ _ _ 0 [(0, .ref 101), (1, .int ((xs 1))), (2, .int ((xs 2)))] [] _ _
        refine ab_fin.s2 (i := .aload_n 0) (k := 1) (pc' := 1) (lv' := [(0, .ref 101), (1, .int ((xs 1))), (2, .int ((xs 2)))]) (st' := [.ref 101]) (by decide +kernel) rfl rfl ?_
        refine ab_fin.s1i (i := .iconst 0) (k := 1) (pc' := 2) (n := 0) (by decide +kernel) rfl (by decide +kernel) rfl ?_
        refine ab_fin.putf (ix := 1000) (h1 := ab_ov h1 [(101, .inr (.inr (24, (p1_o101).set 110 (.int 0))))]) (pc' := 5) (by decide +kernel) rfl (ab_ov_no f1_101 rfl) (ab_klt (n := 115) (by rw [p1_n101]) (by decide)) rfl rfl (ab_ov_set rfl) rfl ?_
        refine ab_fin.s2 (i := .iload_n 1) (k := 1) (pc' := 6) (lv' := [(0, .ref 101), (1, .int ((xs 1))), (2, .int ((xs 2)))]) (st' := [.int ((xs 1))]) (by decide +kernel) rfl rfl ?_
        refine ab_fin.brT (c := ¬ (xs 1) = 0) (i := .ifCond .ne 25) (off := 25) (t := 31) (r := []) (by decide +kernel) rfl (by decide +kernel) (by have l0 : (0 : Int32).toInt = 0 := rfl; have l1 : (1 : Int32).toInt = 1 := rfl; have l2 : (2 : Int32).toInt = 2 := rfl; simp only [← Int32.toInt_inj, Int32.lt_iff_toInt_lt, Int32.le_iff_toInt_le, l0, l1, l2] at q1 q2 q3 ⊢; omega) ?_
        refine ab_fin.s2 (i := .iload_n 1) (k := 1) (pc' := 32) (lv' := [(0, .ref 101), (1, .int ((xs 1))), (2, .int ((xs 2)))]) (st' := [.int ((xs 1))]) (by decide +kernel) rfl rfl ?_
        refine ab_fin.s1i (i := .iconst 1) (k := 1) (pc' := 33) (n := 1) (by decide +kernel) rfl (by decide +kernel) rfl ?_
        refine ab_fin.brT (c := ¬ (xs 1) = (1 : Int32)) (i := .if_icmp .ne 29) (off := 29) (t := 62) (r := []) (by decide +kernel) rfl (by decide +kernel) (by have l0 : (0 : Int32).toInt = 0 := rfl; have l1 : (1 : Int32).toInt = 1 := rfl; have l2 : (2 : Int32).toInt = 2 := rfl; simp only [← Int32.toInt_inj, Int32.lt_iff_toInt_lt, Int32.le_iff_toInt_le, l0, l1, l2] at q1 q2 q3 ⊢; omega) ?_
        refine ab_fin.s2 (i := .iload_n 1) (k := 1) (pc' := 63) (lv' := [(0, .ref 101), (1, .int ((xs 1))), (2, .int ((xs 2)))]) (st' := [.int ((xs 1))]) (by decide +kernel) rfl rfl ?_
        refine ab_fin.s1i (i := .iconst 2) (k := 1) (pc' := 64) (n := 2) (by decide +kernel) rfl (by decide +kernel) rfl ?_
        refine ab_fin.brT (c := ¬ (xs 1) = (2 : Int32)) (i := .if_icmp .ne 28) (off := 28) (t := 92) (r := []) (by decide +kernel) rfl (by decide +kernel) (by have l0 : (0 : Int32).toInt = 0 := rfl; have l1 : (1 : Int32).toInt = 1 := rfl; have l2 : (2 : Int32).toInt = 2 := rfl; simp only [← Int32.toInt_inj, Int32.lt_iff_toInt_lt, Int32.le_iff_toInt_le, l0, l1, l2] at q1 q2 q3 ⊢; omega) ?_
        refine ab_fin.s2 (i := .aload_n 0) (k := 1) (pc' := 93) (lv' := [(0, .ref 101), (1, .int ((xs 1))), (2, .int ((xs 2)))]) (st' := [.ref 101]) (by decide +kernel) rfl rfl ?_
        refine ab_fin.s1i (i := .iconst 1) (k := 1) (pc' := 94) (n := 1) (by decide +kernel) rfl (by decide +kernel) rfl ?_
        refine ab_fin.call (i := .invokevirtual 1003) (k := 3) (y := 5993) (As := [.ref 101, .int 1]) (rest := []) (M' := (mX23_no_, [])) (by decide +kernel) (ab_cv rfl rfl (ab_ov_get (lt1 101 (by decide)) rfl) ⟨(Nat.le_of_ble_eq_true rfl), (Nat.le_of_ble_eq_true rfl)⟩ rfl) rfl (Nat.le_of_ble_eq_true rfl) ?_
        show ab_fin _ _ _ _ 0 [(0, .ref 101), (1, .int 1)] [] _ _
        refine ab_fin.s2 (i := .aload_n 0) (k := 1) (pc' := 1) (lv' := [(0, .ref 101), (1, .int 1)]) (st' := [.ref 101]) (by decide +kernel) rfl rfl ?_
        refine ab_fin.s2 (i := .iload_n 1) (k := 1) (pc' := 2) (lv' := [(0, .ref 101), (1, .int 1)]) (st' := [.int 1, .ref 101]) (by decide +kernel) rfl rfl ?_
        refine ab_fin.putf (ix := 1000) (h1 := ab_ov h1 [(101, .inr (.inr (24, (p1_o101).set 110 (.int 1))))]) (pc' := 5) (by decide +kernel) rfl (ab_ov_get (lt1 101 (by decide)) rfl) (ab_klt (n := 115) (by rw [List.length_set, p1_n101]) (by decide)) rfl rfl (ab_ov_set rfl) rfl ?_
        refine ab_fin.s1i (i := .iconst 0) (k := 1) (pc' := 6) (n := 0) (by decide +kernel) rfl (by decide +kernel) rfl ?_
        refine ab_fin.ret (i := .ireturn) (k := 1) (some (.int 0)) (by decide +kernel) rfl ?_
        refine ab_bk.back (pc' := 97) (st' := [.int 0]) rfl rfl ?_
        refine ab_fin.ret (i := .ireturn) (k := 1) (some (.int 0)) (by decide +kernel) rfl ?_
        refine ab_bk.back (pc' := 419) (st' := [.int 0]) rfl rfl ?_
        refine ab_fin.s2 (i := .istore 6) (k := 2) (pc' := 421) (lv' := [(6, .int 0), (5, .int 1), (4, .int 0), (3, .ref 3466), (2, .ref 101), (1, .ref 0), (0, .retAddr 9)]) (st' := []) (by decide +kernel) rfl rfl ?_
        refine ab_fin.s2 (i := .aload_n 2) (k := 1) (pc' := 422) (lv' := [(6, .int 0), (5, .int 1), (4, .int 0), (3, .ref 3466), (2, .ref 101), (1, .ref 0), (0, .retAddr 9)]) (st' := [.ref 101]) (by decide +kernel) rfl rfl ?_
        refine ab_fin.call (i := .invokevirtual 75) (k := 3) (y := 5992) (As := [.ref 101]) (rest := []) (M' := (mX23_thrown, [])) (by decide +kernel) (ab_cv rfl rfl (ab_ov_get (lt1 101 (by decide)) rfl) ⟨(Nat.le_of_ble_eq_true rfl), (Nat.le_of_ble_eq_true rfl)⟩ rfl) rfl (Nat.le_of_ble_eq_true rfl) ?_
        show ab_fin _ _ _ _ 0 [(0, .ref 101)] [] _ _
        refine ab_fin.s2 (i := .aload_n 0) (k := 1) (pc' := 1) (lv' := [(0, .ref 101)]) (st' := [.ref 101]) (by decide +kernel) rfl rfl ?_
        refine ab_fin.getf (ix := 1000) (k := 110) (v := .int 1) (pc' := 4) (by decide +kernel) rfl (ab_ov_get (lt1 101 (by decide)) rfl) rfl rfl ?_
        refine ab_fin.ret (i := .ireturn) (k := 1) (some (.int 1)) (by decide +kernel) rfl ?_
        refine ab_bk.back (pc' := 425) (st' := [.int 1]) rfl rfl ?_
        refine ab_fin.s2 (i := .iload 5) (k := 2) (pc' := 427) (lv' := [(6, .int 0), (5, .int 1), (4, .int 0), (3, .ref 3466), (2, .ref 101), (1, .ref 0), (0, .retAddr 9)]) (st' := [.int 1, .int 1]) (by decide +kernel) rfl rfl ?_
        refine ab_fin.brT (c := (1 : Int32) = (1 : Int32)) (i := .if_icmp .eq 5) (off := 5) (t := 432) (r := []) (by decide +kernel) rfl (by decide +kernel) (by decide +kernel) ?_
        refine ab_fin.s2 (i := .iload 5) (k := 2) (pc' := 434) (lv' := [(6, .int 0), (5, .int 1), (4, .int 0), (3, .ref 3466), (2, .ref 101), (1, .ref 0), (0, .retAddr 9)]) (st' := [.int 1]) (by decide +kernel) rfl rfl ?_
        refine ab_fin.brT (c := ¬ (1 : Int32) = 0) (i := .ifCond .ne 15) (off := 15) (t := 449) (r := []) (by decide +kernel) rfl (by decide +kernel) (by decide +kernel) ?_
        refine ab_fin.s3 (i := .goto 641) (k := 3) (t := 1090) (st' := []) (by decide +kernel) (ab_goto (by decide +kernel)) ?_
        refine ab_fin.inc (i := .iinc 4 6) (k := 3) (pc' := 1093) (j := 4) (n := 6) (lv' := [(6, .int 0), (5, .int 1), (3, .ref 3466), (2, .ref 101), (1, .ref 0), (0, .retAddr 9)]) (by decide +kernel) rfl (by decide +kernel) rfl ?_
        refine ab_fin.s3 (i := .goto (-1070)) (k := 3) (t := 23) (st' := []) (by decide +kernel) (ab_goto (by decide +kernel)) ?_
        refine ab_fin.s2 (i := .iload 4) (k := 2) (pc' := 25) (lv' := [(4, .int 6), (6, .int 0), (5, .int 1), (3, .ref 3466), (2, .ref 101), (1, .ref 0), (0, .retAddr 9)]) (st' := [.int 6]) (by decide +kernel) rfl rfl ?_
        refine ab_fin.s2 (i := .aload_n 0) (k := 1) (pc' := 26) (lv' := [(4, .int 6), (6, .int 0), (5, .int 1), (3, .ref 3466), (2, .ref 101), (1, .ref 0), (0, .retAddr 9)]) (st' := [.retAddr 9, .int 6]) (by decide +kernel) rfl rfl ?_
        refine ab_fin.s8 (i := .arraylength) (k := 1) (pc' := 27) (st' := [.int 6, .int 6]) (by decide +kernel) rfl rfl rfl rfl ?_
        refine ab_fin.s1i (i := .bipush 6) (k := 2) (pc' := 29) (n := 6) (by decide +kernel) rfl (by decide +kernel) rfl ?_
        refine ab_fin.s1i (i := .isub) (k := 1) (pc' := 30) (n := 0) (by decide +kernel) rfl (by decide +kernel) rfl ?_
        refine ab_fin.brT (c := (0 : Int32) < (6 : Int32)) (i := .if_icmp .gt 1066) (off := 1066) (t := 1096) (r := []) (by decide +kernel) rfl (by decide +kernel) (by decide +kernel) ?_
        refine ab_fin.s1i (i := .iconst 1) (k := 1) (pc' := 1097) (n := 1) (by decide +kernel) rfl (by decide +kernel) rfl ?_
        refine ab_fin.ret (i := .ireturn) (k := 1) (some (.int 1)) (by decide +kernel) rfl ?_
        refine ⟨rfl, ?_, ?_⟩
        · rw [ab_ov_len, hl1]; decide
        · refine Nat.le_trans (ab_ov_z _ _) ?_
          simp only [List.map, List.sum_cons, List.sum_nil, ab_z1, ab_len, List.length_set, List.length_replicate, List.length_cons, List.length_nil, p1_n101]
          have z1 : ab_z h1 = _ := hz1
          omega
      · refine ab_fin.s2 (i := .iload_n 2) (k := 1) (pc' := 78) (lv' := [(0, .ref 0), (1, .int ((xs 1))), (2, .int ((xs 2)))]) (st' := [.int ((xs 2))]) (by decide +kernel) rfl rfl ?_
        refine ab_fin.s1i (i := .iconst 1) (k := 1) (pc' := 79) (n := 1) (by decide +kernel) rfl (by decide +kernel) rfl ?_
        refine ab_fin.br (c := (xs 2) < (1 : Int32)) (i := .if_icmp .lt 22) (off := 22) (t := 101) (pc' := 82) (r := []) (by decide +kernel) rfl (by decide +kernel) rfl (fun q4 => ?_) (fun q4 => ?_)
        · refine ab_fin.thrN (i := .new 99) (k := 3) (cls := "java/lang/IllegalArgumentException") (n := 3467) (by decide +kernel) (by decide +kernel) (fun ix q => by cases q; rfl) (by decide) (Nat.le_of_ble_eq_true rfl) ((ab_ov_len _ _).trans hl) (ab_ov_app (by rw [hl]; decide +kernel)) ?_
          obtain ⟨h1, e1⟩ : ∃ h2 : List ab_E, h2 = h ++ [.inl 6] := ⟨_, rfl⟩
          have hl1 : h1.length = 3468 := by rw [e1, List.length_append, hl]; rfl
          have lt1 : ∀ a, a < 3468 → a < h1.length := fun a q => by rw [hl1]; exact q
          have hz1 : ab_z h1 = ab_z h + 6 := by rw [e1, ab_z_app]; rfl
          have f1_0 := (show h1[0]? = h[0]? by rw [e1, List.getElem?_append_left (by rw [hl]; decide)]).trans f_0
          have f1_1 := (show h1[1]? = h[1]? by rw [e1, List.getElem?_append_left (by rw [hl]; decide)]).trans f_1
          have f1_101 := (show h1[101]? = h[101]? by rw [e1, List.getElem?_append_left (by rw [hl]; decide)]).trans f_101
          have f1_2170 := (show h1[2170]? = h[2170]? by rw [e1, List.getElem?_append_left (by rw [hl]; decide)]).trans f_2170
          have f1_3466 := (show h1[3466]? = h[3466]? by rw [e1, List.getElem?_append_left (by rw [hl]; decide)]).trans f_3466
          rw [← e1]
          refine ab_bk.catch (hp := 13) (by decide +kernel) rfl ?_
          refine ab_fin.s2 (i := .astore 4) (k := 2) (pc' := 15) (lv' := [(4, .ref 3467), (0, .ref 0), (1, .int ((xs 1))), (2, .int ((xs 2))), (3, .ref 3466)]) (st' := []) (by decide +kernel) rfl rfl ?_
          refine ab_fin.s1i (i := .iconst 1) (k := 1) (pc' := 16) (n := 1) (by decide +kernel) rfl (by decide +kernel) rfl ?_
          refine ab_fin.ret (i := .ireturn) (k := 1) (some (.int 1)) (by decide +kernel) rfl ?_
          refine ab_bk.back (pc' := 401) (st' := [.int 1]) rfl rfl ?_
          refine ab_fin.s2 (i := .istore 5) (k := 2) (pc' := 403) (lv' := [(5, .int 1), (4, .int 0), (3, .ref 3466), (2, .ref 101), (1, .ref 0), (0, .retAddr 9)]) (st' := []) (by decide +kernel) rfl rfl ?_
          refine ab_fin.s2 (i := .aload_n 2) (k := 1) (pc' := 404) (lv' := [(5, .int 1), (4, .int 0), (3, .ref 3466), (2, .ref 101), (1, .ref 0), (0, .retAddr 9)]) (st' := [.ref 101]) (by decide +kernel) rfl rfl ?_
          refine ab_fin.s2 (i := .aload_n 0) (k := 1) (pc' := 405) (lv' := [(5, .int 1), (4, .int 0), (3, .ref 3466), (2, .ref 101), (1, .ref 0), (0, .retAddr 9)]) (st' := [.retAddr 9, .ref 101]) (by decide +kernel) rfl rfl ?_
          refine ab_fin.s2 (i := .iload 4) (k := 2) (pc' := 407) (lv' := [(5, .int 1), (4, .int 0), (3, .ref 3466), (2, .ref 101), (1, .ref 0), (0, .retAddr 9)]) (st' := [.int 0, .retAddr 9, .ref 101]) (by decide +kernel) rfl rfl ?_
          refine ab_fin.s1i (i := .iconst 1) (k := 1) (pc' := 408) (n := 1) (by decide +kernel) rfl (by decide +kernel) rfl ?_
          refine ab_fin.s1i (i := .iadd) (k := 1) (pc' := 409) (n := 1) (by decide +kernel) rfl (by decide +kernel) rfl ?_
          refine ab_fin.s8 (i := .iaload) (k := 1) (pc' := 410) (st' := [.int ((xs 1)), .ref 101]) (by decide +kernel) (ab_x0 rfl (by decide +kernel) rfl) rfl rfl rfl ?_
          refine ab_fin.s2 (i := .aload_n 0) (k := 1) (pc' := 411) (lv' := [(5, .int 1), (4, .int 0), (3, .ref 3466), (2, .ref 101), (1, .ref 0), (0, .retAddr 9)]) (st' := [.retAddr 9, .int ((xs 1)), .ref 101]) (by decide +kernel) rfl rfl ?_
          refine ab_fin.s2 (i := .iload 4) (k := 2) (pc' := 413) (lv' := [(5, .int 1), (4, .int 0), (3, .ref 3466), (2, .ref 101), (1, .ref 0), (0, .retAddr 9)]) (st' := [.int 0, .retAddr 9, .int ((xs 1)), .ref 101]) (by decide +kernel) rfl rfl ?_
          refine ab_fin.s1i (i := .iconst 2) (k := 1) (pc' := 414) (n := 2) (by decide +kernel) rfl (by decide +kernel) rfl ?_
          refine ab_fin.s1i (i := .iadd) (k := 1) (pc' := 415) (n := 2) (by decide +kernel) rfl (by decide +kernel) rfl ?_
          refine ab_fin.s8 (i := .iaload) (k := 1) (pc' := 416) (st' := [.int ((xs 2)), .int ((xs 1)), .ref 101]) (by decide +kernel) (ab_x0 rfl (by decide +kernel) rfl) rfl rfl rfl ?_
          refine ab_fin.call (i := .invokevirtual 100) (k := 3) (y := 5999) (As := [.ref 101, .int ((xs 1)), .int ((xs 2))]) (rest := []) (M' := (mX23_set, [])) (by decide +kernel) (ab_cv rfl rfl (ab_ov_no f1_101 rfl) ⟨(Nat.le_of_ble_eq_true rfl), (Nat.le_of_ble_eq_true rfl)⟩ rfl) rfl (Nat.le_of_ble_eq_true rfl) ?_
          show ab_fin _ _ _ _ 0 [(0, .ref 101), (1, .int ((xs 1))), (2, .int ((xs 2)))] [] _ _
          refine ab_fin.s2 (i := .aload_n 0) (k := 1) (pc' := 1) (lv' := [(0, .ref 101), (1, .int ((xs 1))), (2, .int ((xs 2)))]) (st' := [.ref 101]) (by decide +kernel) rfl rfl ?_
          refine ab_fin.s1i (i := .iconst 0) (k := 1) (pc' := 2) (n := 0) (by decide +kernel) rfl (by decide +kernel) rfl ?_
          refine ab_fin.putf (ix := 1000) (h1 := ab_ov h1 [(101, .inr (.inr (24, (p1_o101).set 110 (.int 0))))]) (pc' := 5) (by decide +kernel) rfl (ab_ov_no f1_101 rfl) (ab_klt (n := 115) (by rw [p1_n101]) (by decide)) rfl rfl (ab_ov_set rfl) rfl ?_
          refine ab_fin.s2 (i := .iload_n 1) (k := 1) (pc' := 6) (lv' := [(0, .ref 101), (1, .int ((xs 1))), (2, .int ((xs 2)))]) (st' := [.int ((xs 1))]) (by decide +kernel) rfl rfl ?_
          refine ab_fin.brT (c := ¬ (xs 1) = 0) (i := .ifCond .ne 25) (off := 25) (t := 31) (r := []) (by decide +kernel) rfl (by decide +kernel) (by have l0 : (0 : Int32).toInt = 0 := rfl; have l1 : (1 : Int32).toInt = 1 := rfl; have l2 : (2 : Int32).toInt = 2 := rfl; simp only [← Int32.toInt_inj, Int32.lt_iff_toInt_lt, Int32.le_iff_toInt_le, l0, l1, l2] at q1 q2 q3 q4 ⊢; omega) ?_
          refine ab_fin.s2 (i := .iload_n 1) (k := 1) (pc' := 32) (lv' := [(0, .ref 101), (1, .int ((xs 1))), (2, .int ((xs 2)))]) (st' := [.int ((xs 1))]) (by decide +kernel) rfl rfl ?_
          refine ab_fin.s1i (i := .iconst 1) (k := 1) (pc' := 33) (n := 1) (by decide +kernel) rfl (by decide +kernel) rfl ?_
          refine ab_fin.brT (c := ¬ (xs 1) = (1 : Int32)) (i := .if_icmp .ne 29) (off := 29) (t := 62) (r := []) (by decide +kernel) rfl (by decide +kernel) (by have l0 : (0 : Int32).toInt = 0 := rfl; have l1 : (1 : Int32).toInt = 1 := rfl; have l2 : (2 : Int32).toInt = 2 := rfl; simp only [← Int32.toInt_inj, Int32.lt_iff_toInt_lt, Int32.le_iff_toInt_le, l0, l1, l2] at q1 q2 q3 q4 ⊢; omega) ?_
          refine ab_fin.s2 (i := .iload_n 1) (k := 1) (pc' := 63) (lv' := [(0, .ref 101), (1, .int ((xs 1))), (2, .int ((xs 2)))]) (st' := [.int ((xs 1))]) (by decide +kernel) rfl rfl ?_
          refine ab_fin.s1i (i := .iconst 2) (k := 1) (pc' := 64) (n := 2) (by decide +kernel) rfl (by decide +kernel) rfl ?_
          refine ab_fin.brF (c := ¬ (xs 1) = (2 : Int32)) (i := .if_icmp .ne 28) (off := 28) (t := 92) (pc' := 67) (r := []) (by decide +kernel) rfl (by decide +kernel) rfl (by have l0 : (0 : Int32).toInt = 0 := rfl; have l1 : (1 : Int32).toInt = 1 := rfl; have l2 : (2 : Int32).toInt = 2 := rfl; simp only [← Int32.toInt_inj, Int32.lt_iff_toInt_lt, Int32.le_iff_toInt_le, l0, l1, l2] at q1 q2 q3 q4 ⊢; omega) ?_
          refine ab_fin.s2 (i := .iload_n 2) (k := 1) (pc' := 68) (lv' := [(0, .ref 101), (1, .int ((xs 1))), (2, .int ((xs 2)))]) (st' := [.int ((xs 2))]) (by decide +kernel) rfl rfl ?_
          refine ab_fin.s1i (i := .iconst 1) (k := 1) (pc' := 69) (n := 1) (by decide +kernel) rfl (by decide +kernel) rfl ?_
          refine ab_fin.brT (c := (xs 2) < (1 : Int32)) (i := .if_icmp .lt 23) (off := 23) (t := 92) (r := []) (by decide +kernel) rfl (by decide +kernel) (by have l0 : (0 : Int32).toInt = 0 := rfl; have l1 : (1 : Int32).toInt = 1 := rfl; have l2 : (2 : Int32).toInt = 2 := rfl; simp only [← Int32.toInt_inj, Int32.lt_iff_toInt_lt, Int32.le_iff_toInt_le, l0, l1, l2] at q1 q2 q3 q4 ⊢; omega) ?_
          refine ab_fin.s2 (i := .aload_n 0) (k := 1) (pc' := 93) (lv' := [(0, .ref 101), (1, .int ((xs 1))), (2, .int ((xs 2)))]) (st' := [.ref 101]) (by decide +kernel) rfl rfl ?_
          refine ab_fin.s1i (i := .iconst 1) (k := 1) (pc' := 94) (n := 1) (by decide +kernel) rfl (by decide +kernel) rfl ?_
          refine ab_fin.call (i := .invokevirtual 1003) (k := 3) (y := 5993) (As := [.ref 101, .int 1]) (rest := []) (M' := (mX23_no_, [])) (by decide +kernel) (ab_cv rfl rfl (ab_ov_get (lt1 101 (by decide)) rfl) ⟨(Nat.le_of_ble_eq_true rfl), (Nat.le_of_ble_eq_true rfl)⟩ rfl) rfl (Nat.le_of_ble_eq_true rfl) ?_
          show ab_fin _ _ _ _ 0 [(0, .ref 101), (1, .int 1)] [] _ _
          refine ab_fin.s2 (i := .aload_n 0) (k := 1) (pc' := 1) (lv' := [(0, .ref 101), (1, .int 1)]) (st' := [.ref 101]) (by decide +kernel) rfl rfl ?_
          refine ab_fin.s2 (i := .iload_n 1) (k := 1) (pc' := 2) (lv' := [(0, .ref 101), (1, .int 1)]) (st' := [.int 1, .ref 101]) (by decide +kernel) rfl rfl ?_
          refine ab_fin.putf (ix := 1000) (h1 := ab_ov h1 [(101, .inr (.inr (24, (p1_o101).set 110 (.int 1))))]) (pc' := 5) (by decide +kernel) rfl (ab_ov_get (lt1 101 (by decide)) rfl) (ab_klt (n := 115) (by rw [List.length_set, p1_n101]) (by decide)) rfl rfl (ab_ov_set rfl) rfl ?_
          refine ab_fin.s1i (i := .iconst 0) (k := 1) (pc' := 6) (n := 0) (by decide +kernel) rfl (by decide +kernel) rfl ?_
          refine ab_fin.ret (i := .ireturn) (k := 1) (some (.int 0)) (by decide +kernel) rfl ?_
          refine ab_bk.back (pc' := 97) (st' := [.int 0]) rfl rfl ?_
          refine ab_fin.ret (i := .ireturn) (k := 1) (some (.int 0)) (by decide +kernel) rfl ?_
          refine ab_bk.back (pc' := 419) (st' := [.int 0]) rfl rfl ?_
          refine ab_fin.s2 (i := .istore 6) (k := 2) (pc' := 421) (lv' := [(6, .int 0), (5, .int 1), (4, .int 0), (3, .ref 3466), (2, .ref 101), (1, .ref 0), (0, .retAddr 9)]) (st' := []) (by decide +kernel) rfl rfl ?_
          refine ab_fin.s2 (i := .aload_n 2) (k := 1) (pc' := 422) (lv' := [(6, .int 0), (5, .int 1), (4, .int 0), (3, .ref 3466), (2, .ref 101), (1, .ref 0), (0, .retAddr 9)]) (st' := [.ref 101]) (by decide +kernel) rfl rfl ?_
          refine ab_fin.call (i := .invokevirtual 75) (k := 3) (y := 5992) (As := [.ref 101]) (rest := []) (M' := (mX23_thrown, [])) (by decide +kernel) (ab_cv rfl rfl (ab_ov_get (lt1 101 (by decide)) rfl) ⟨(Nat.le_of_ble_eq_true rfl), (Nat.le_of_ble_eq_true rfl)⟩ rfl) rfl (Nat.le_of_ble_eq_true rfl) ?_
          show ab_fin _ _ _ _ 0 [(0, .ref 101)] [] _ _
          refine ab_fin.s2 (i := .aload_n 0) (k := 1) (pc' := 1) (lv' := [(0, .ref 101)]) (st' := [.ref 101]) (by decide +kernel) rfl rfl ?_
          refine ab_fin.getf (ix := 1000) (k := 110) (v := .int 1) (pc' := 4) (by decide +kernel) rfl (ab_ov_get (lt1 101 (by decide)) rfl) rfl rfl ?_
          refine ab_fin.ret (i := .ireturn) (k := 1) (some (.int 1)) (by decide +kernel) rfl ?_
          refine ab_bk.back (pc' := 425) (st' := [.int 1]) rfl rfl ?_
          refine ab_fin.s2 (i := .iload 5) (k := 2) (pc' := 427) (lv' := [(6, .int 0), (5, .int 1), (4, .int 0), (3, .ref 3466), (2, .ref 101), (1, .ref 0), (0, .retAddr 9)]) (st' := [.int 1, .int 1]) (by decide +kernel) rfl rfl ?_
          refine ab_fin.brT (c := (1 : Int32) = (1 : Int32)) (i := .if_icmp .eq 5) (off := 5) (t := 432) (r := []) (by decide +kernel) rfl (by decide +kernel) (by decide +kernel) ?_
          refine ab_fin.s2 (i := .iload 5) (k := 2) (pc' := 434) (lv' := [(6, .int 0), (5, .int 1), (4, .int 0), (3, .ref 3466), (2, .ref 101), (1, .ref 0), (0, .retAddr 9)]) (st' := [.int 1]) (by decide +kernel) rfl rfl ?_
          refine ab_fin.brT (c := ¬ (1 : Int32) = 0) (i := .ifCond .ne 15) (off := 15) (t := 449) (r := []) (by decide +kernel) rfl (by decide +kernel) (by decide +kernel) ?_
          refine ab_fin.s3 (i := .goto 641) (k := 3) (t := 1090) (st' := []) (by decide +kernel) (ab_goto (by decide +kernel)) ?_
          refine ab_fin.inc (i := .iinc 4 6) (k := 3) (pc' := 1093) (j := 4) (n := 6) (lv' := [(6, .int 0), (5, .int 1), (3, .ref 3466), (2, .ref 101), (1, .ref 0), (0, .retAddr 9)]) (by decide +kernel) rfl (by decide +kernel) rfl ?_
          refine ab_fin.s3 (i := .goto (-1070)) (k := 3) (t := 23) (st' := []) (by decide +kernel) (ab_goto (by decide +kernel)) ?_
          refine ab_fin.s2 (i := .iload 4) (k := 2) (pc' := 25) (lv' := [(4, .int 6), (6, .int 0), (5, .int 1), (3, .ref 3466), (2, .ref 101), (1, .ref 0), (0, .retAddr 9)]) (st' := [.int 6]) (by decide +kernel) rfl rfl ?_
          refine ab_fin.s2 (i := .aload_n 0) (k := 1) (pc' := 26) (lv' := [(4, .int 6), (6, .int 0), (5, .int 1), (3, .ref 3466), (2, .ref 101), (1, .ref 0), (0, .retAddr 9)]) (st' := [.retAddr 9, .int 6]) (by decide +kernel) rfl rfl ?_
          refine ab_fin.s8 (i := .arraylength) (k := 1) (pc' := 27) (st' := [.int 6, .int 6]) (by decide +kernel) rfl rfl rfl rfl ?_
          refine ab_fin.s1i (i := .bipush 6) (k := 2) (pc' := 29) (n := 6) (by decide +kernel) rfl (by decide +kernel) rfl ?_
          refine ab_fin.s1i (i := .isub) (k := 1) (pc' := 30) (n := 0) (by decide +kernel) rfl (by decide +kernel) rfl ?_
          refine ab_fin.brT (c := (0 : Int32) < (6 : Int32)) (i := .if_icmp .gt 1066) (off := 1066) (t := 1096) (r := []) (by decide +kernel) rfl (by decide +kernel) (by decide +kernel) ?_
          refine ab_fin.s1i (i := .iconst 1) (k := 1) (pc' := 1097) (n := 1) (by decide +kernel) rfl (by decide +kernel) rfl ?_
          refine ab_fin.ret (i := .ireturn) (k := 1) (some (.int 1)) (by decide +kernel) rfl ?_
          refine ⟨rfl, ?_, ?_⟩
          · rw [ab_ov_len, hl1]; decide
          · refine Nat.le_trans (ab_ov_z _ _) ?_
            simp only [List.map, List.sum_cons, List.sum_nil, ab_z1, ab_len, List.length_set, List.length_replicate, List.length_cons, List.length_nil, p1_n101]
            have z1 : ab_z h1 = _ := hz1
            omega
        · refine ab_fin.s2 (i := .iload_n 2) (k := 1) (pc' := 83) (lv' := [(0, .ref 0), (1, .int ((xs 1))), (2, .int ((xs 2)))]) (st' := [.int ((xs 2))]) (by decide +kernel) rfl rfl ?_
          refine ab_fin.s7 (i := .ldc 147) (k := 2) (pc' := 85) (st' := [.int 100000, .int ((xs 2))]) (by decide +kernel) rfl rfl ?_
          refine ab_fin.br (c := (100000 : Int32) < (xs 2)) (i := .if_icmp .gt 16) (off := 16) (t := 101) (pc' := 88) (r := []) (by decide +kernel) rfl (by decide +kernel) rfl (fun q5 => ?_) (fun q5 => ?_)
          · refine ab_fin.thrN (i := .new 99) (k := 3) (cls := "java/lang/IllegalArgumentException") (n := 3467) (by decide +kernel) (by decide +kernel) (fun ix q => by cases q; rfl) (by decide) (Nat.le_of_ble_eq_true rfl) ((ab_ov_len _ _).trans hl) (ab_ov_app (by rw [hl]; decide +kernel)) ?_
            obtain ⟨h1, e1⟩ : ∃ h2 : List ab_E, h2 = h ++ [.inl 6] := ⟨_, rfl⟩
            have hl1 : h1.length = 3468 := by rw [e1, List.length_append, hl]; rfl
            have lt1 : ∀ a, a < 3468 → a < h1.length := fun a q => by rw [hl1]; exact q
            have hz1 : ab_z h1 = ab_z h + 6 := by rw [e1, ab_z_app]; rfl
            have f1_0 := (show h1[0]? = h[0]? by rw [e1, List.getElem?_append_left (by rw [hl]; decide)]).trans f_0
            have f1_1 := (show h1[1]? = h[1]? by rw [e1, List.getElem?_append_left (by rw [hl]; decide)]).trans f_1
            have f1_101 := (show h1[101]? = h[101]? by rw [e1, List.getElem?_append_left (by rw [hl]; decide)]).trans f_101
            have f1_2170 := (show h1[2170]? = h[2170]? by rw [e1, List.getElem?_append_left (by rw [hl]; decide)]).trans f_2170
            have f1_3466 := (show h1[3466]? = h[3466]? by rw [e1, List.getElem?_append_left (by rw [hl]; decide)]).trans f_3466
            rw [← e1]
            refine ab_bk.catch (hp := 13) (by decide +kernel) rfl ?_
            refine ab_fin.s2 (i := .astore 4) (k := 2) (pc' := 15) (lv' := [(4, .ref 3467), (0, .ref 0), (1, .int ((xs 1))), (2, .int ((xs 2))), (3, .ref 3466)]) (st' := []) (by decide +kernel) rfl rfl ?_
            refine ab_fin.s1i (i := .iconst 1) (k := 1) (pc' := 16) (n := 1) (by decide +kernel) rfl (by decide +kernel) rfl ?_
            refine ab_fin.ret (i := .ireturn) (k := 1) (some (.int 1)) (by decide +kernel) rfl ?_
            refine ab_bk.back (pc' := 401) (st' := [.int 1]) rfl rfl ?_
            refine ab_fin.s2 (i := .istore 5) (k := 2) (pc' := 403) (lv' := [(5, .int 1), (4, .int 0), (3, .ref 3466), (2, .ref 101), (1, .ref 0), (0, .retAddr 9)]) (st' := []) (by decide +kernel) rfl rfl ?_
            refine ab_fin.s2 (i := .aload_n 2) (k := 1) (pc' := 404) (lv' := [(5, .int 1), (4, .int 0), (3, .ref 3466), (2, .ref 101), (1, .ref 0), (0, .retAddr 9)]) (st' := [.ref 101]) (by decide +kernel) rfl rfl ?_
            refine ab_fin.s2 (i := .aload_n 0) (k := 1) (pc' := 405) (lv' := [(5, .int 1), (4, .int 0), (3, .ref 3466), (2, .ref 101), (1, .ref 0), (0, .retAddr 9)]) (st' := [.retAddr 9, .ref 101]) (by decide +kernel) rfl rfl ?_
            refine ab_fin.s2 (i := .iload 4) (k := 2) (pc' := 407) (lv' := [(5, .int 1), (4, .int 0), (3, .ref 3466), (2, .ref 101), (1, .ref 0), (0, .retAddr 9)]) (st' := [.int 0, .retAddr 9, .ref 101]) (by decide +kernel) rfl rfl ?_
            refine ab_fin.s1i (i := .iconst 1) (k := 1) (pc' := 408) (n := 1) (by decide +kernel) rfl (by decide +kernel) rfl ?_
            refine ab_fin.s1i (i := .iadd) (k := 1) (pc' := 409) (n := 1) (by decide +kernel) rfl (by decide +kernel) rfl ?_
            refine ab_fin.s8 (i := .iaload) (k := 1) (pc' := 410) (st' := [.int ((xs 1)), .ref 101]) (by decide +kernel) (ab_x0 rfl (by decide +kernel) rfl) rfl rfl rfl ?_
            refine ab_fin.s2 (i := .aload_n 0) (k := 1) (pc' := 411) (lv' := [(5, .int 1), (4, .int 0), (3, .ref 3466), (2, .ref 101), (1, .ref 0), (0, .retAddr 9)]) (st' := [.retAddr 9, .int ((xs 1)), .ref 101]) (by decide +kernel) rfl rfl ?_
            refine ab_fin.s2 (i := .iload 4) (k := 2) (pc' := 413) (lv' := [(5, .int 1), (4, .int 0), (3, .ref 3466), (2, .ref 101), (1, .ref 0), (0, .retAddr 9)]) (st' := [.int 0, .retAddr 9, .int ((xs 1)), .ref 101]) (by decide +kernel) rfl rfl ?_
            refine ab_fin.s1i (i := .iconst 2) (k := 1) (pc' := 414) (n := 2) (by decide +kernel) rfl (by decide +kernel) rfl ?_
            refine ab_fin.s1i (i := .iadd) (k := 1) (pc' := 415) (n := 2) (by decide +kernel) rfl (by decide +kernel) rfl ?_
            refine ab_fin.s8 (i := .iaload) (k := 1) (pc' := 416) (st' := [.int ((xs 2)), .int ((xs 1)), .ref 101]) (by decide +kernel) (ab_x0 rfl (by decide +kernel) rfl) rfl rfl rfl ?_
            refine ab_fin.call (i := .invokevirtual 100) (k := 3) (y := 5999) (As := [.ref 101, .int ((xs 1)), .int ((xs 2))]) (rest := []) (M' := (mX23_set, [])) (by decide +kernel) (ab_cv rfl rfl (ab_ov_no f1_101 rfl) ⟨(Nat.le_of_ble_eq_true rfl), (Nat.le_of_ble_eq_true rfl)⟩ rfl) rfl (Nat.le_of_ble_eq_true rfl) ?_
            show ab_fin _ _ _ _ 0 [(0, .ref 101), (1, .int ((xs 1))), (2, .int ((xs 2)))] [] _ _
            refine ab_fin.s2 (i := .aload_n 0) (k := 1) (pc' := 1) (lv' := [(0, .ref 101), (1, .int ((xs 1))), (2, .int ((xs 2)))]) (st' := [.ref 101]) (by decide +kernel) rfl rfl ?_
            refine ab_fin.s1i (i := .iconst 0) (k := 1) (pc' := 2) (n := 0) (by decide +kernel) rfl (by decide +kernel) rfl ?_
            refine ab_fin.putf (ix := 1000) (h1 := ab_ov h1 [(101, .inr (.inr (24, (p1_o101).set 110 (.int 0))))]) (pc' := 5) (by decide +kernel) rfl (ab_ov_no f1_101 rfl) (ab_klt (n := 115) (by rw [p1_n101]) (by decide)) rfl rfl (ab_ov_set rfl) rfl ?_
            refine ab_fin.s2 (i := .iload_n 1) (k := 1) (pc' := 6) (lv' := [(0, .ref 101), (1, .int ((xs 1))), (2, .int ((xs 2)))]) (st' := [.int ((xs 1))]) (by decide +kernel) rfl rfl ?_
            refine ab_fin.brT (c := ¬ (xs 1) = 0) (i := .ifCond .ne 25) (off := 25) (t := 31) (r := []) (by decide +kernel) rfl (by decide +kernel) (by have l0 : (0 : Int32).toInt = 0 := rfl; have l1 : (1 : Int32).toInt = 1 := rfl; have l2 : (2 : Int32).toInt = 2 := rfl; have l100000 : (100000 : Int32).toInt = 100000 := rfl; simp only [← Int32.toInt_inj, Int32.lt_iff_toInt_lt, Int32.le_iff_toInt_le, l0, l1, l2, l100000] at q1 q2 q3 q4 q5 ⊢; omega) ?_
            refine ab_fin.s2 (i := .iload_n 1) (k := 1) (pc' := 32) (lv' := [(0, .ref 101), (1, .int ((xs 1))), (2, .int ((xs 2)))]) (st' := [.int ((xs 1))]) (by decide +kernel) rfl rfl ?_
            refine ab_fin.s1i (i := .iconst 1) (k := 1) (pc' := 33) (n := 1) (by decide +kernel) rfl (by decide +kernel) rfl ?_
            refine ab_fin.brT (c := ¬ (xs 1) = (1 : Int32)) (i := .if_icmp .ne 29) (off := 29) (t := 62) (r := []) (by decide +kernel) rfl (by decide +kernel) (by have l0 : (0 : Int32).toInt = 0 := rfl; have l1 : (1 : Int32).toInt = 1 := rfl; have l2 : (2 : Int32).toInt = 2 := rfl; have l100000 : (100000 : Int32).toInt = 100000 := rfl; simp only [← Int32.toInt_inj, Int32.lt_iff_toInt_lt, Int32.le_iff_toInt_le, l0, l1, l2, l100000] at q1 q2 q3 q4 q5 ⊢; omega) ?_
            refine ab_fin.s2 (i := .iload_n 1) (k := 1) (pc' := 63) (lv' := [(0, .ref 101), (1, .int ((xs 1))), (2, .int ((xs 2)))]) (st' := [.int ((xs 1))]) (by decide +kernel) rfl rfl ?_
            refine ab_fin.s1i (i := .iconst 2) (k := 1) (pc' := 64) (n := 2) (by decide +kernel) rfl (by decide +kernel) rfl ?_
            refine ab_fin.brF (c := ¬ (xs 1) = (2 : Int32)) (i := .if_icmp .ne 28) (off := 28) (t := 92) (pc' := 67) (r := []) (by decide +kernel) rfl (by decide +kernel) rfl (by have l0 : (0 : Int32).toInt = 0 := rfl; have l1 : (1 : Int32).toInt = 1 := rfl; have l2 : (2 : Int32).toInt = 2 := rfl; have l100000 : (100000 : Int32).toInt = 100000 := rfl; simp only [← Int32.toInt_inj, Int32.lt_iff_toInt_lt, Int32.le_iff_toInt_le, l0, l1, l2, l100000] at q1 q2 q3 q4 q5 ⊢; omega) ?_
            refine ab_fin.s2 (i := .iload_n 2) (k := 1) (pc' := 68) (lv' := [(0, .ref 101), (1, .int ((xs 1))), (2, .int ((xs 2)))]) (st' := [.int ((xs 2))]) (by decide +kernel) rfl rfl ?_
            refine ab_fin.s1i (i := .iconst 1) (k := 1) (pc' := 69) (n := 1) (by decide +kernel) rfl (by decide +kernel) rfl ?_
            refine ab_fin.brF (c := (xs 2) < (1 : Int32)) (i := .if_icmp .lt 23) (off := 23) (t := 92) (pc' := 72) (r := []) (by decide +kernel) rfl (by decide +kernel) rfl (by have l0 : (0 : Int32).toInt = 0 := rfl; have l1 : (1 : Int32).toInt = 1 := rfl; have l2 : (2 : Int32).toInt = 2 := rfl; have l100000 : (100000 : Int32).toInt = 100000 := rfl; simp only [← Int32.toInt_inj, Int32.lt_iff_toInt_lt, Int32.le_iff_toInt_le, l0, l1, l2, l100000] at q1 q2 q3 q4 q5 ⊢; omega) ?_
            refine ab_fin.s2 (i := .iload_n 2) (k := 1) (pc' := 73) (lv' := [(0, .ref 101), (1, .int ((xs 1))), (2, .int ((xs 2)))]) (st' := [.int ((xs 2))]) (by decide +kernel) rfl rfl ?_
            refine ab_fin.s7 (i := .ldc_w 1014) (k := 3) (pc' := 76) (st' := [.int 100000, .int ((xs 2))]) (by decide +kernel) rfl rfl ?_
            refine ab_fin.brT (c := (100000 : Int32) < (xs 2)) (i := .if_icmp .gt 16) (off := 16) (t := 92) (r := []) (by decide +kernel) rfl (by decide +kernel) (by have l0 : (0 : Int32).toInt = 0 := rfl; have l1 : (1 : Int32).toInt = 1 := rfl; have l2 : (2 : Int32).toInt = 2 := rfl; have l100000 : (100000 : Int32).toInt = 100000 := rfl; simp only [← Int32.toInt_inj, Int32.lt_iff_toInt_lt, Int32.le_iff_toInt_le, l0, l1, l2, l100000] at q1 q2 q3 q4 q5 ⊢; omega) ?_
            refine ab_fin.s2 (i := .aload_n 0) (k := 1) (pc' := 93) (lv' := [(0, .ref 101), (1, .int ((xs 1))), (2, .int ((xs 2)))]) (st' := [.ref 101]) (by decide +kernel) rfl rfl ?_
            refine ab_fin.s1i (i := .iconst 1) (k := 1) (pc' := 94) (n := 1) (by decide +kernel) rfl (by decide +kernel) rfl ?_
            refine ab_fin.call (i := .invokevirtual 1003) (k := 3) (y := 5993) (As := [.ref 101, .int 1]) (rest := []) (M' := (mX23_no_, [])) (by decide +kernel) (ab_cv rfl rfl (ab_ov_get (lt1 101 (by decide)) rfl) ⟨(Nat.le_of_ble_eq_true rfl), (Nat.le_of_ble_eq_true rfl)⟩ rfl) rfl (Nat.le_of_ble_eq_true rfl) ?_
            show ab_fin _ _ _ _ 0 [(0, .ref 101), (1, .int 1)] [] _ _
            refine ab_fin.s2 (i := .aload_n 0) (k := 1) (pc' := 1) (lv' := [(0, .ref 101), (1, .int 1)]) (st' := [.ref 101]) (by decide +kernel) rfl rfl ?_
            refine ab_fin.s2 (i := .iload_n 1) (k := 1) (pc' := 2) (lv' := [(0, .ref 101), (1, .int 1)]) (st' := [.int 1, .ref 101]) (by decide +kernel) rfl rfl ?_
            refine ab_fin.putf (ix := 1000) (h1 := ab_ov h1 [(101, .inr (.inr (24, (p1_o101).set 110 (.int 1))))]) (pc' := 5) (by decide +kernel) rfl (ab_ov_get (lt1 101 (by decide)) rfl) (ab_klt (n := 115) (by rw [List.length_set, p1_n101]) (by decide)) rfl rfl (ab_ov_set rfl) rfl ?_
            refine ab_fin.s1i (i := .iconst 0) (k := 1) (pc' := 6) (n := 0) (by decide +kernel) rfl (by decide +kernel) rfl ?_
            refine ab_fin.ret (i := .ireturn) (k := 1) (some (.int 0)) (by decide +kernel) rfl ?_
            refine ab_bk.back (pc' := 97) (st' := [.int 0]) rfl rfl ?_
            refine ab_fin.ret (i := .ireturn) (k := 1) (some (.int 0)) (by decide +kernel) rfl ?_
            refine ab_bk.back (pc' := 419) (st' := [.int 0]) rfl rfl ?_
            refine ab_fin.s2 (i := .istore 6) (k := 2) (pc' := 421) (lv' := [(6, .int 0), (5, .int 1), (4, .int 0), (3, .ref 3466), (2, .ref 101), (1, .ref 0), (0, .retAddr 9)]) (st' := []) (by decide +kernel) rfl rfl ?_
            refine ab_fin.s2 (i := .aload_n 2) (k := 1) (pc' := 422) (lv' := [(6, .int 0), (5, .int 1), (4, .int 0), (3, .ref 3466), (2, .ref 101), (1, .ref 0), (0, .retAddr 9)]) (st' := [.ref 101]) (by decide +kernel) rfl rfl ?_
            refine ab_fin.call (i := .invokevirtual 75) (k := 3) (y := 5992) (As := [.ref 101]) (rest := []) (M' := (mX23_thrown, [])) (by decide +kernel) (ab_cv rfl rfl (ab_ov_get (lt1 101 (by decide)) rfl) ⟨(Nat.le_of_ble_eq_true rfl), (Nat.le_of_ble_eq_true rfl)⟩ rfl) rfl (Nat.le_of_ble_eq_true rfl) ?_
            show ab_fin _ _ _ _ 0 [(0, .ref 101)] [] _ _
            refine ab_fin.s2 (i := .aload_n 0) (k := 1) (pc' := 1) (lv' := [(0, .ref 101)]) (st' := [.ref 101]) (by decide +kernel) rfl rfl ?_
            refine ab_fin.getf (ix := 1000) (k := 110) (v := .int 1) (pc' := 4) (by decide +kernel) rfl (ab_ov_get (lt1 101 (by decide)) rfl) rfl rfl ?_
            refine ab_fin.ret (i := .ireturn) (k := 1) (some (.int 1)) (by decide +kernel) rfl ?_
            refine ab_bk.back (pc' := 425) (st' := [.int 1]) rfl rfl ?_
            refine ab_fin.s2 (i := .iload 5) (k := 2) (pc' := 427) (lv' := [(6, .int 0), (5, .int 1), (4, .int 0), (3, .ref 3466), (2, .ref 101), (1, .ref 0), (0, .retAddr 9)]) (st' := [.int 1, .int 1]) (by decide +kernel) rfl rfl ?_
            refine ab_fin.brT (c := (1 : Int32) = (1 : Int32)) (i := .if_icmp .eq 5) (off := 5) (t := 432) (r := []) (by decide +kernel) rfl (by decide +kernel) (by decide +kernel) ?_
            refine ab_fin.s2 (i := .iload 5) (k := 2) (pc' := 434) (lv' := [(6, .int 0), (5, .int 1), (4, .int 0), (3, .ref 3466), (2, .ref 101), (1, .ref 0), (0, .retAddr 9)]) (st' := [.int 1]) (by decide +kernel) rfl rfl ?_
            refine ab_fin.brT (c := ¬ (1 : Int32) = 0) (i := .ifCond .ne 15) (off := 15) (t := 449) (r := []) (by decide +kernel) rfl (by decide +kernel) (by decide +kernel) ?_
            refine ab_fin.s3 (i := .goto 641) (k := 3) (t := 1090) (st' := []) (by decide +kernel) (ab_goto (by decide +kernel)) ?_
            refine ab_fin.inc (i := .iinc 4 6) (k := 3) (pc' := 1093) (j := 4) (n := 6) (lv' := [(6, .int 0), (5, .int 1), (3, .ref 3466), (2, .ref 101), (1, .ref 0), (0, .retAddr 9)]) (by decide +kernel) rfl (by decide +kernel) rfl ?_
            refine ab_fin.s3 (i := .goto (-1070)) (k := 3) (t := 23) (st' := []) (by decide +kernel) (ab_goto (by decide +kernel)) ?_
            refine ab_fin.s2 (i := .iload 4) (k := 2) (pc' := 25) (lv' := [(4, .int 6), (6, .int 0), (5, .int 1), (3, .ref 3466), (2, .ref 101), (1, .ref 0), (0, .retAddr 9)]) (st' := [.int 6]) (by decide +kernel) rfl rfl ?_
            refine ab_fin.s2 (i := .aload_n 0) (k := 1) (pc' := 26) (lv' := [(4, .int 6), (6, .int 0), (5, .int 1), (3, .ref 3466), (2, .ref 101), (1, .ref 0), (0, .retAddr 9)]) (st' := [.retAddr 9, .int 6]) (by decide +kernel) rfl rfl ?_
            refine ab_fin.s8 (i := .arraylength) (k := 1) (pc' := 27) (st' := [.int 6, .int 6]) (by decide +kernel) rfl rfl rfl rfl ?_
            refine ab_fin.s1i (i := .bipush 6) (k := 2) (pc' := 29) (n := 6) (by decide +kernel) rfl (by decide +kernel) rfl ?_
            refine ab_fin.s1i (i := .isub) (k := 1) (pc' := 30) (n := 0) (by decide +kernel) rfl (by decide +kernel) rfl ?_
            refine ab_fin.brT (c := (0 : Int32) < (6 : Int32)) (i := .if_icmp .gt 1066) (off := 1066) (t := 1096) (r := []) (by decide +kernel) rfl (by decide +kernel) (by decide +kernel) ?_
            refine ab_fin.s1i (i := .iconst 1) (k := 1) (pc' := 1097) (n := 1) (by decide +kernel) rfl (by decide +kernel) rfl ?_
            refine ab_fin.ret (i := .ireturn) (k := 1) (some (.int 1)) (by decide +kernel) rfl ?_
            refine ⟨rfl, ?_, ?_⟩
            · rw [ab_ov_len, hl1]; decide
            · refine Nat.le_trans (ab_ov_z _ _) ?_
              simp only [List.map, List.sum_cons, List.sum_nil, ab_z1, ab_len, List.length_set, List.length_replicate, List.length_cons, List.length_nil, p1_n101]
              have z1 : ab_z h1 = _ := hz1
              omega
          · refine ab_fin.s2 (i := .aload_n 0) (k := 1) (pc' := 89) (lv' := [(0, .ref 0), (1, .int ((xs 1))), (2, .int ((xs 2)))]) (st' := [.ref 0]) (by decide +kernel) rfl rfl ?_
            refine ab_fin.getf (ix := 73) (k := 12) (v := .int 10000) (pc' := 92) (by decide +kernel) rfl (ab_ov_no f_0 rfl) rfl rfl ?_
            refine ab_fin.s2 (i := .istore_n 3) (k := 1) (pc' := 93) (lv' := [(3, .int 10000), (0, .ref 0), (1, .int ((xs 1))), (2, .int ((xs 2)))]) (st' := []) (by decide +kernel) rfl rfl ?_
            refine ab_fin.s2 (i := .aload_n 0) (k := 1) (pc' := 94) (lv' := [(3, .int 10000), (0, .ref 0), (1, .int ((xs 1))), (2, .int ((xs 2)))]) (st' := [.ref 0]) (by decide +kernel) rfl rfl ?_
            refine ab_fin.s2 (i := .iload_n 2) (k := 1) (pc' := 95) (lv' := [(3, .int 10000), (0, .ref 0), (1, .int ((xs 1))), (2, .int ((xs 2)))]) (st' := [.int ((xs 2)), .ref 0]) (by decide +kernel) rfl rfl ?_
            refine ab_fin.putf (ix := 73) (h1 := ab_ov h [(0, .inr (.inr (13, (p1_o0).set 12 (.int ((xs 2))))))]) (pc' := 98) (by decide +kernel) rfl (ab_ov_no f_0 rfl) (ab_klt (n := 14) (by rw [p1_n0]) (by decide)) rfl rfl (ab_ov_set rfl) rfl ?_
            refine ab_fin.s3 (i := .goto 11) (k := 3) (t := 109) (st' := []) (by decide +kernel) (ab_goto (by decide +kernel)) ?_
            refine ab_fin.s2 (i := .iload_n 3) (k := 1) (pc' := 110) (lv' := [(3, .int 10000), (0, .ref 0), (1, .int ((xs 1))), (2, .int ((xs 2)))]) (st' := [.int 10000]) (by decide +kernel) rfl rfl ?_
            refine ab_fin.ret (i := .ireturn) (k := 1) (some (.int 10000)) (by decide +kernel) rfl ?_
            refine ab_bk.back (pc' := 8) (st' := [.int 10000, .int 0, .ref 3466]) rfl rfl ?_
            refine ab_fin.s1l (i := .i2l) (k := 1) (pc' := 9) (n := 10000) (by decide +kernel) rfl (by decide +kernel) rfl ?_
            refine ab_fin.last (h1 := ab_ov h [(3466, .inr (.inl (1, .inr (.inl ((List.replicate 1 0).set 0 (10000)))))), (0, .inr (.inr (13, (p1_o0).set 12 (.int ((xs 2))))))]) (pc' := 10) (by decide +kernel) (ab_ov_no f_3466 rfl) (ab_bd (n := 1) (by rw [List.length_replicate]) (by decide +kernel)) (ab_ov_set rfl) rfl ?_
            refine ab_fin.s3 (i := .goto 7) (k := 3) (t := 17) (st' := []) (by decide +kernel) (ab_goto (by decide +kernel)) ?_
            refine ab_fin.s1i (i := .iconst 0) (k := 1) (pc' := 18) (n := 0) (by decide +kernel) rfl (by decide +kernel) rfl ?_
            refine ab_fin.ret (i := .ireturn) (k := 1) (some (.int 0)) (by decide +kernel) rfl ?_
            refine ab_bk.back (pc' := 401) (st' := [.int 0]) rfl rfl ?_
            refine ab_fin.s2 (i := .istore 5) (k := 2) (pc' := 403) (lv' := [(5, .int 0), (4, .int 0), (3, .ref 3466), (2, .ref 101), (1, .ref 0), (0, .retAddr 9)]) (st' := []) (by decide +kernel) rfl rfl ?_
            refine ab_fin.s2 (i := .aload_n 2) (k := 1) (pc' := 404) (lv' := [(5, .int 0), (4, .int 0), (3, .ref 3466), (2, .ref 101), (1, .ref 0), (0, .retAddr 9)]) (st' := [.ref 101]) (by decide +kernel) rfl rfl ?_
            refine ab_fin.s2 (i := .aload_n 0) (k := 1) (pc' := 405) (lv' := [(5, .int 0), (4, .int 0), (3, .ref 3466), (2, .ref 101), (1, .ref 0), (0, .retAddr 9)]) (st' := [.retAddr 9, .ref 101]) (by decide +kernel) rfl rfl ?_
            refine ab_fin.s2 (i := .iload 4) (k := 2) (pc' := 407) (lv' := [(5, .int 0), (4, .int 0), (3, .ref 3466), (2, .ref 101), (1, .ref 0), (0, .retAddr 9)]) (st' := [.int 0, .retAddr 9, .ref 101]) (by decide +kernel) rfl rfl ?_
            refine ab_fin.s1i (i := .iconst 1) (k := 1) (pc' := 408) (n := 1) (by decide +kernel) rfl (by decide +kernel) rfl ?_
            refine ab_fin.s1i (i := .iadd) (k := 1) (pc' := 409) (n := 1) (by decide +kernel) rfl (by decide +kernel) rfl ?_
            refine ab_fin.s8 (i := .iaload) (k := 1) (pc' := 410) (st' := [.int ((xs 1)), .ref 101]) (by decide +kernel) (ab_x0 rfl (by decide +kernel) rfl) rfl rfl rfl ?_
            refine ab_fin.s2 (i := .aload_n 0) (k := 1) (pc' := 411) (lv' := [(5, .int 0), (4, .int 0), (3, .ref 3466), (2, .ref 101), (1, .ref 0), (0, .retAddr 9)]) (st' := [.retAddr 9, .int ((xs 1)), .ref 101]) (by decide +kernel) rfl rfl ?_
            refine ab_fin.s2 (i := .iload 4) (k := 2) (pc' := 413) (lv' := [(5, .int 0), (4, .int 0), (3, .ref 3466), (2, .ref 101), (1, .ref 0), (0, .retAddr 9)]) (st' := [.int 0, .retAddr 9, .int ((xs 1)), .ref 101]) (by decide +kernel) rfl rfl ?_
            refine ab_fin.s1i (i := .iconst 2) (k := 1) (pc' := 414) (n := 2) (by decide +kernel) rfl (by decide +kernel) rfl ?_
            refine ab_fin.s1i (i := .iadd) (k := 1) (pc' := 415) (n := 2) (by decide +kernel) rfl (by decide +kernel) rfl ?_
            refine ab_fin.s8 (i := .iaload) (k := 1) (pc' := 416) (st' := [.int ((xs 2)), .int ((xs 1)), .ref 101]) (by decide +kernel) (ab_x0 rfl (by decide +kernel) rfl) rfl rfl rfl ?_
            refine ab_fin.call (i := .invokevirtual 100) (k := 3) (y := 5999) (As := [.ref 101, .int ((xs 1)), .int ((xs 2))]) (rest := []) (M' := (mX23_set, [])) (by decide +kernel) (ab_cv rfl rfl (ab_ov_no f_101 rfl) ⟨(Nat.le_of_ble_eq_true rfl), (Nat.le_of_ble_eq_true rfl)⟩ rfl) rfl (Nat.le_of_ble_eq_true rfl) ?_
            show ab_fin _ _ _ _ 0 [(0, .ref 101), (1, .int ((xs 1))), (2, .int ((xs 2)))] [] _ _
            refine ab_fin.s2 (i := .aload_n 0) (k := 1) (pc' := 1) (lv' := [(0, .ref 101), (1, .int ((xs 1))), (2, .int ((xs 2)))]) (st' := [.ref 101]) (by decide +kernel) rfl rfl ?_
            refine ab_fin.s1i (i := .iconst 0) (k := 1) (pc' := 2) (n := 0) (by decide +kernel) rfl (by decide +kernel) rfl ?_
            refine ab_fin.putf (ix := 1000) (h1 := ab_ov h [(101, .inr (.inr (24, (p1_o101).set 110 (.int 0)))), (3466, .inr (.inl (1, .inr (.inl ((List.replicate 1 0).set 0 (10000)))))), (0, .inr (.inr (13, (p1_o0).set 12 (.int ((xs 2))))))]) (pc' := 5) (by decide +kernel) rfl (ab_ov_no f_101 rfl) (ab_klt (n := 115) (by rw [p1_n101]) (by decide)) rfl rfl (ab_ov_set rfl) rfl ?_
            refine ab_fin.s2 (i := .iload_n 1) (k := 1) (pc' := 6) (lv' := [(0, .ref 101), (1, .int ((xs 1))), (2, .int ((xs 2)))]) (st' := [.int ((xs 1))]) (by decide +kernel) rfl rfl ?_
            refine ab_fin.brT (c := ¬ (xs 1) = 0) (i := .ifCond .ne 25) (off := 25) (t := 31) (r := []) (by decide +kernel) rfl (by decide +kernel) (by have l0 : (0 : Int32).toInt = 0 := rfl; have l1 : (1 : Int32).toInt = 1 := rfl; have l2 : (2 : Int32).toInt = 2 := rfl; have l100000 : (100000 : Int32).toInt = 100000 := rfl; simp only [← Int32.toInt_inj, Int32.lt_iff_toInt_lt, Int32.le_iff_toInt_le, l0, l1, l2, l100000] at q1 q2 q3 q4 q5 ⊢; omega) ?_
            refine ab_fin.s2 (i := .iload_n 1) (k := 1) (pc' := 32) (lv' := [(0, .ref 101), (1, .int ((xs 1))), (2, .int ((xs 2)))]) (st' := [.int ((xs 1))]) (by decide +kernel) rfl rfl ?_
            refine ab_fin.s1i (i := .iconst 1) (k := 1) (pc' := 33) (n := 1) (by decide +kernel) rfl (by decide +kernel) rfl ?_
            refine ab_fin.brT (c := ¬ (xs 1) = (1 : Int32)) (i := .if_icmp .ne 29) (off := 29) (t := 62) (r := []) (by decide +kernel) rfl (by decide +kernel) (by have l0 : (0 : Int32).toInt = 0 := rfl; have l1 : (1 : Int32).toInt = 1 := rfl; have l2 : (2 : Int32).toInt = 2 := rfl; have l100000 : (100000 : Int32).toInt = 100000 := rfl; simp only [← Int32.toInt_inj, Int32.lt_iff_toInt_lt, Int32.le_iff_toInt_le, l0, l1, l2, l100000] at q1 q2 q3 q4 q5 ⊢; omega) ?_
            refine ab_fin.s2 (i := .iload_n 1) (k := 1) (pc' := 63) (lv' := [(0, .ref 101), (1, .int ((xs 1))), (2, .int ((xs 2)))]) (st' := [.int ((xs 1))]) (by decide +kernel) rfl rfl ?_
            refine ab_fin.s1i (i := .iconst 2) (k := 1) (pc' := 64) (n := 2) (by decide +kernel) rfl (by decide +kernel) rfl ?_
            refine ab_fin.brF (c := ¬ (xs 1) = (2 : Int32)) (i := .if_icmp .ne 28) (off := 28) (t := 92) (pc' := 67) (r := []) (by decide +kernel) rfl (by decide +kernel) rfl (by have l0 : (0 : Int32).toInt = 0 := rfl; have l1 : (1 : Int32).toInt = 1 := rfl; have l2 : (2 : Int32).toInt = 2 := rfl; have l100000 : (100000 : Int32).toInt = 100000 := rfl; simp only [← Int32.toInt_inj, Int32.lt_iff_toInt_lt, Int32.le_iff_toInt_le, l0, l1, l2, l100000] at q1 q2 q3 q4 q5 ⊢; omega) ?_
            refine ab_fin.s2 (i := .iload_n 2) (k := 1) (pc' := 68) (lv' := [(0, .ref 101), (1, .int ((xs 1))), (2, .int ((xs 2)))]) (st' := [.int ((xs 2))]) (by decide +kernel) rfl rfl ?_
            refine ab_fin.s1i (i := .iconst 1) (k := 1) (pc' := 69) (n := 1) (by decide +kernel) rfl (by decide +kernel) rfl ?_
            refine ab_fin.brF (c := (xs 2) < (1 : Int32)) (i := .if_icmp .lt 23) (off := 23) (t := 92) (pc' := 72) (r := []) (by decide +kernel) rfl (by decide +kernel) rfl (by have l0 : (0 : Int32).toInt = 0 := rfl; have l1 : (1 : Int32).toInt = 1 := rfl; have l2 : (2 : Int32).toInt = 2 := rfl; have l100000 : (100000 : Int32).toInt = 100000 := rfl; simp only [← Int32.toInt_inj, Int32.lt_iff_toInt_lt, Int32.le_iff_toInt_le, l0, l1, l2, l100000] at q1 q2 q3 q4 q5 ⊢; omega) ?_
            refine ab_fin.s2 (i := .iload_n 2) (k := 1) (pc' := 73) (lv' := [(0, .ref 101), (1, .int ((xs 1))), (2, .int ((xs 2)))]) (st' := [.int ((xs 2))]) (by decide +kernel) rfl rfl ?_
            refine ab_fin.s7 (i := .ldc_w 1014) (k := 3) (pc' := 76) (st' := [.int 100000, .int ((xs 2))]) (by decide +kernel) rfl rfl ?_
            refine ab_fin.brF (c := (100000 : Int32) < (xs 2)) (i := .if_icmp .gt 16) (off := 16) (t := 92) (pc' := 79) (r := []) (by decide +kernel) rfl (by decide +kernel) rfl (by have l0 : (0 : Int32).toInt = 0 := rfl; have l1 : (1 : Int32).toInt = 1 := rfl; have l2 : (2 : Int32).toInt = 2 := rfl; have l100000 : (100000 : Int32).toInt = 100000 := rfl; simp only [← Int32.toInt_inj, Int32.lt_iff_toInt_lt, Int32.le_iff_toInt_le, l0, l1, l2, l100000] at q1 q2 q3 q4 q5 ⊢; omega) ?_
            refine ab_fin.s2 (i := .aload_n 0) (k := 1) (pc' := 80) (lv' := [(0, .ref 101), (1, .int ((xs 1))), (2, .int ((xs 2)))]) (st' := [.ref 101]) (by decide +kernel) rfl rfl ?_
            refine ab_fin.getf (ix := 765) (k := 81) (v := .int 10000) (pc' := 83) (by decide +kernel) rfl (ab_ov_get (lt0 101 (by decide)) rfl) rfl rfl ?_
            refine ab_fin.s2 (i := .istore_n 3) (k := 1) (pc' := 84) (lv' := [(3, .int 10000), (0, .ref 101), (1, .int ((xs 1))), (2, .int ((xs 2)))]) (st' := []) (by decide +kernel) rfl rfl ?_
            refine ab_fin.s2 (i := .aload_n 0) (k := 1) (pc' := 85) (lv' := [(3, .int 10000), (0, .ref 101), (1, .int ((xs 1))), (2, .int ((xs 2)))]) (st' := [.ref 101]) (by decide +kernel) rfl rfl ?_
            refine ab_fin.s2 (i := .iload_n 2) (k := 1) (pc' := 86) (lv' := [(3, .int 10000), (0, .ref 101), (1, .int ((xs 1))), (2, .int ((xs 2)))]) (st' := [.int ((xs 2)), .ref 101]) (by decide +kernel) rfl rfl ?_
            refine ab_fin.putf (ix := 765) (h1 := ab_ov h [(101, .inr (.inr (24, ((p1_o101).set 110 (.int 0)).set 81 (.int ((xs 2)))))), (3466, .inr (.inl (1, .inr (.inl ((List.replicate 1 0).set 0 (10000)))))), (0, .inr (.inr (13, (p1_o0).set 12 (.int ((xs 2))))))]) (pc' := 89) (by decide +kernel) rfl (ab_ov_get (lt0 101 (by decide)) rfl) (ab_klt (n := 115) (by rw [List.length_set, p1_n101]) (by decide)) rfl rfl (ab_ov_set rfl) rfl ?_
            refine ab_fin.s3 (i := .goto 9) (k := 3) (t := 98) (st' := []) (by decide +kernel) (ab_goto (by decide +kernel)) ?_
            refine ab_fin.s2 (i := .iload_n 3) (k := 1) (pc' := 99) (lv' := [(3, .int 10000), (0, .ref 101), (1, .int ((xs 1))), (2, .int ((xs 2)))]) (st' := [.int 10000]) (by decide +kernel) rfl rfl ?_
            refine ab_fin.ret (i := .ireturn) (k := 1) (some (.int 10000)) (by decide +kernel) rfl ?_
            refine ab_bk.back (pc' := 419) (st' := [.int 10000]) rfl rfl ?_
            refine ab_fin.s2 (i := .istore 6) (k := 2) (pc' := 421) (lv' := [(6, .int 10000), (5, .int 0), (4, .int 0), (3, .ref 3466), (2, .ref 101), (1, .ref 0), (0, .retAddr 9)]) (st' := []) (by decide +kernel) rfl rfl ?_
            refine ab_fin.s2 (i := .aload_n 2) (k := 1) (pc' := 422) (lv' := [(6, .int 10000), (5, .int 0), (4, .int 0), (3, .ref 3466), (2, .ref 101), (1, .ref 0), (0, .retAddr 9)]) (st' := [.ref 101]) (by decide +kernel) rfl rfl ?_
            refine ab_fin.call (i := .invokevirtual 75) (k := 3) (y := 5992) (As := [.ref 101]) (rest := []) (M' := (mX23_thrown, [])) (by decide +kernel) (ab_cv rfl rfl (ab_ov_get (lt0 101 (by decide)) rfl) ⟨(Nat.le_of_ble_eq_true rfl), (Nat.le_of_ble_eq_true rfl)⟩ rfl) rfl (Nat.le_of_ble_eq_true rfl) ?_
            show ab_fin _ _ _ _ 0 [(0, .ref 101)] [] _ _
            refine ab_fin.s2 (i := .aload_n 0) (k := 1) (pc' := 1) (lv' := [(0, .ref 101)]) (st' := [.ref 101]) (by decide +kernel) rfl rfl ?_
            refine ab_fin.getf (ix := 1000) (k := 110) (v := .int 0) (pc' := 4) (by decide +kernel) rfl (ab_ov_get (lt0 101 (by decide)) rfl) rfl rfl ?_
            refine ab_fin.ret (i := .ireturn) (k := 1) (some (.int 0)) (by decide +kernel) rfl ?_
            refine ab_bk.back (pc' := 425) (st' := [.int 0]) rfl rfl ?_
            refine ab_fin.s2 (i := .iload 5) (k := 2) (pc' := 427) (lv' := [(6, .int 10000), (5, .int 0), (4, .int 0), (3, .ref 3466), (2, .ref 101), (1, .ref 0), (0, .retAddr 9)]) (st' := [.int 0, .int 0]) (by decide +kernel) rfl rfl ?_
            refine ab_fin.brT (c := (0 : Int32) = (0 : Int32)) (i := .if_icmp .eq 5) (off := 5) (t := 432) (r := []) (by decide +kernel) rfl (by decide +kernel) (by decide +kernel) ?_
            refine ab_fin.s2 (i := .iload 5) (k := 2) (pc' := 434) (lv' := [(6, .int 10000), (5, .int 0), (4, .int 0), (3, .ref 3466), (2, .ref 101), (1, .ref 0), (0, .retAddr 9)]) (st' := [.int 0]) (by decide +kernel) rfl rfl ?_
            refine ab_fin.brF (c := ¬ (0 : Int32) = 0) (i := .ifCond .ne 15) (off := 15) (t := 449) (pc' := 437) (r := []) (by decide +kernel) rfl (by decide +kernel) rfl (by decide +kernel) ?_
            refine ab_fin.s2 (i := .aload_n 3) (k := 1) (pc' := 438) (lv' := [(6, .int 10000), (5, .int 0), (4, .int 0), (3, .ref 3466), (2, .ref 101), (1, .ref 0), (0, .retAddr 9)]) (st' := [.ref 3466]) (by decide +kernel) rfl rfl ?_
            refine ab_fin.s1i (i := .iconst 0) (k := 1) (pc' := 439) (n := 0) (by decide +kernel) rfl (by decide +kernel) rfl ?_
            refine ab_fin.lald (v := 10000) (pc' := 440) (by decide +kernel) (ab_ov_get (lt0 3466 (by decide)) rfl) (ab_bd (n := 1) (by rw [List.length_set, List.length_replicate]) (by decide +kernel)) rfl rfl ?_
            refine ab_fin.s2 (i := .iload 6) (k := 2) (pc' := 442) (lv' := [(6, .int 10000), (5, .int 0), (4, .int 0), (3, .ref 3466), (2, .ref 101), (1, .ref 0), (0, .retAddr 9)]) (st' := [.int 10000, .long 10000]) (by decide +kernel) rfl rfl ?_
            refine ab_fin.s1l (i := .i2l) (k := 1) (pc' := 443) (n := 10000) (by decide +kernel) rfl (by decide +kernel) rfl ?_
            refine ab_fin.s1i (i := .lcmp) (k := 1) (pc' := 444) (n := 0) (by decide +kernel) rfl (by decide +kernel) rfl ?_
            refine ab_fin.brT (c := (0 : Int32) = 0) (i := .ifCond .eq 5) (off := 5) (t := 449) (r := []) (by decide +kernel) rfl (by decide +kernel) (by decide +kernel) ?_
            refine ab_fin.s3 (i := .goto 641) (k := 3) (t := 1090) (st' := []) (by decide +kernel) (ab_goto (by decide +kernel)) ?_
            refine ab_fin.inc (i := .iinc 4 6) (k := 3) (pc' := 1093) (j := 4) (n := 6) (lv' := [(6, .int 10000), (5, .int 0), (3, .ref 3466), (2, .ref 101), (1, .ref 0), (0, .retAddr 9)]) (by decide +kernel) rfl (by decide +kernel) rfl ?_
            refine ab_fin.s3 (i := .goto (-1070)) (k := 3) (t := 23) (st' := []) (by decide +kernel) (ab_goto (by decide +kernel)) ?_
            refine ab_fin.s2 (i := .iload 4) (k := 2) (pc' := 25) (lv' := [(4, .int 6), (6, .int 10000), (5, .int 0), (3, .ref 3466), (2, .ref 101), (1, .ref 0), (0, .retAddr 9)]) (st' := [.int 6]) (by decide +kernel) rfl rfl ?_
            refine ab_fin.s2 (i := .aload_n 0) (k := 1) (pc' := 26) (lv' := [(4, .int 6), (6, .int 10000), (5, .int 0), (3, .ref 3466), (2, .ref 101), (1, .ref 0), (0, .retAddr 9)]) (st' := [.retAddr 9, .int 6]) (by decide +kernel) rfl rfl ?_
            refine ab_fin.s8 (i := .arraylength) (k := 1) (pc' := 27) (st' := [.int 6, .int 6]) (by decide +kernel) rfl rfl rfl rfl ?_
            refine ab_fin.s1i (i := .bipush 6) (k := 2) (pc' := 29) (n := 6) (by decide +kernel) rfl (by decide +kernel) rfl ?_
            refine ab_fin.s1i (i := .isub) (k := 1) (pc' := 30) (n := 0) (by decide +kernel) rfl (by decide +kernel) rfl ?_
            refine ab_fin.brT (c := (0 : Int32) < (6 : Int32)) (i := .if_icmp .gt 1066) (off := 1066) (t := 1096) (r := []) (by decide +kernel) rfl (by decide +kernel) (by decide +kernel) ?_
            refine ab_fin.s1i (i := .iconst 1) (k := 1) (pc' := 1097) (n := 1) (by decide +kernel) rfl (by decide +kernel) rfl ?_
            refine ab_fin.ret (i := .ireturn) (k := 1) (some (.int 1)) (by decide +kernel) rfl ?_
            refine ⟨rfl, ?_, ?_⟩
            · rw [ab_ov_len, hl]; decide
            · refine Nat.le_trans (ab_ov_z _ _) ?_
              simp only [List.map, List.sum_cons, List.sum_nil, ab_z1, ab_len, List.length_set, List.length_replicate, List.length_cons, List.length_nil, p1_n0, p1_n101]
              omega
    · refine ab_fin.s2 (i := .iload_n 2) (k := 1) (pc' := 32) (lv' := [(0, .ref 0), (1, .int ((xs 1))), (2, .int ((xs 2)))]) (st' := [.int ((xs 2))]) (by decide +kernel) rfl rfl ?_
      refine ab_fin.br (c := (xs 2) < 0) (i := .ifCond .lt 40) (off := 40) (t := 72) (pc' := 35) (r := []) (by decide +kernel) rfl (by decide +kernel) rfl (fun q6 => ?_) (fun q6 => ?_)
      · refine ab_fin.s2 (i := .iload_n 1) (k := 1) (pc' := 73) (lv' := [(0, .ref 0), (1, .int ((xs 1))), (2, .int ((xs 2)))]) (st' := [.int ((xs 1))]) (by decide +kernel) rfl rfl ?_
        refine ab_fin.s1i (i := .iconst 2) (k := 1) (pc' := 74) (n := 2) (by decide +kernel) rfl (by decide +kernel) rfl ?_
        refine ab_fin.brT (c := ¬ (xs 1) = (2 : Int32)) (i := .if_icmp .ne 27) (off := 27) (t := 101) (r := []) (by decide +kernel) rfl (by decide +kernel) (by have l0 : (0 : Int32).toInt = 0 := rfl; have l1 : (1 : Int32).toInt = 1 := rfl; have l2 : (2 : Int32).toInt = 2 := rfl; simp only [← Int32.toInt_inj, Int32.lt_iff_toInt_lt, Int32.le_iff_toInt_le, l0, l1, l2] at q1 q2 q6 ⊢; omega) ?_
        refine ab_fin.thrN (i := .new 99) (k := 3) (cls := "java/lang/IllegalArgumentException") (n := 3467) (by decide +kernel) (by decide +kernel) (fun ix q => by cases q; rfl) (by decide) (Nat.le_of_ble_eq_true rfl) ((ab_ov_len _ _).trans hl) (ab_ov_app (by rw [hl]; decide +kernel)) ?_
        obtain ⟨h1, e1⟩ : ∃ h2 : List ab_E, h2 = h ++ [.inl 6] := ⟨_, rfl⟩
        have hl1 : h1.length = 3468 := by rw [e1, List.length_append, hl]; rfl
        have lt1 : ∀ a, a < 3468 → a < h1.length := fun a q => by rw [hl1]; exact q
        have hz1 : ab_z h1 = ab_z h + 6 := by rw [e1, ab_z_app]; rfl
        have f1_0 := (show h1[0]? = h[0]? by rw [e1, List.getElem?_append_left (by rw [hl]; decide)]).trans f_0
        have f1_1 := (show h1[1]? = h[1]? by rw [e1, List.getElem?_append_left (by rw [hl]; decide)]).trans f_1
        have f1_101 := (show h1[101]? = h[101]? by rw [e1, List.getElem?_append_left (by rw [hl]; decide)]).trans f_101
        have f1_2170 := (show h1[2170]? = h[2170]? by rw [e1, List.getElem?_append_left (by rw [hl]; decide)]).trans f_2170
        have f1_3466 := (show h1[3466]? = h[3466]? by rw [e1, List.getElem?_append_left (by rw [hl]; decide)]).trans f_3466
        rw [← e1]
        refine ab_bk.catch (hp := 13) (by decide +kernel) rfl ?_
        refine ab_fin.s2 (i := .astore 4) (k := 2) (pc' := 15) (lv' := [(4, .ref 3467), (0, .ref 0), (1, .int ((xs 1))), (2, .int ((xs 2))), (3, .ref 3466)]) (st' := []) (by decide +kernel) rfl rfl ?_
        refine ab_fin.s1i (i := .iconst 1) (k := 1) (pc' := 16) (n := 1) (by decide +kernel) rfl (by decide +kernel) rfl ?_
        refine ab_fin.ret (i := .ireturn) (k := 1) (some (.int 1)) (by decide +kernel) rfl ?_
        refine ab_bk.back (pc' := 401) (st' := [.int 1]) rfl rfl ?_
        refine ab_fin.s2 (i := .istore 5) (k := 2) (pc' := 403) (lv' := [(5, .int 1), (4, .int 0), (3, .ref 3466), (2, .ref 101), (1, .ref 0), (0, .retAddr 9)]) (st' := []) (by decide +kernel) rfl rfl ?_
        refine ab_fin.s2 (i := .aload_n 2) (k := 1) (pc' := 404) (lv' := [(5, .int 1), (4, .int 0), (3, .ref 3466), (2, .ref 101), (1, .ref 0), (0, .retAddr 9)]) (st' := [.ref 101]) (by decide +kernel) rfl rfl ?_
        refine ab_fin.s2 (i := .aload_n 0) (k := 1) (pc' := 405) (lv' := [(5, .int 1), (4, .int 0), (3, .ref 3466), (2, .ref 101), (1, .ref 0), (0, .retAddr 9)]) (st' := [.retAddr 9, .ref 101]) (by decide +kernel) rfl rfl ?_
        refine ab_fin.s2 (i := .iload 4) (k := 2) (pc' := 407) (lv' := [(5, .int 1), (4, .int 0), (3, .ref 3466), (2, .ref 101), (1, .ref 0), (0, .retAddr 9)]) (st' := [.int 0, .retAddr 9, .ref 101]) (by decide +kernel) rfl rfl ?_
        refine ab_fin.s1i (i := .iconst 1) (k := 1) (pc' := 408) (n := 1) (by decide +kernel) rfl (by decide +kernel) rfl ?_
        refine ab_fin.s1i (i := .iadd) (k := 1) (pc' := 409) (n := 1) (by decide +kernel) rfl (by decide +kernel) rfl ?_
        refine ab_fin.s8 (i := .iaload) (k := 1) (pc' := 410) (st' := [.int ((xs 1)), .ref 101]) (by decide +kernel) (ab_x0 rfl (by decide +kernel) rfl) rfl rfl rfl ?_
        refine ab_fin.s2 (i := .aload_n 0) (k := 1) (pc' := 411) (lv' := [(5, .int 1), (4, .int 0), (3, .ref 3466), (2, .ref 101), (1, .ref 0), (0, .retAddr 9)]) (st' := [.retAddr 9, .int ((xs 1)), .ref 101]) (by decide +kernel) rfl rfl ?_
        refine ab_fin.s2 (i := .iload 4) (k := 2) (pc' := 413) (lv' := [(5, .int 1), (4, .int 0), (3, .ref 3466), (2, .ref 101), (1, .ref 0), (0, .retAddr 9)]) (st' := [.int 0, .retAddr 9, .int ((xs 1)), .ref 101]) (by decide +kernel) rfl rfl ?_
        refine ab_fin.s1i (i := .iconst 2) (k := 1) (pc' := 414) (n := 2) (by decide +kernel) rfl (by decide +kernel) rfl ?_
        refine ab_fin.s1i (i := .iadd) (k := 1) (pc' := 415) (n := 2) (by decide +kernel) rfl (by decide +kernel) rfl ?_
        refine ab_fin.s8 (i := .iaload) (k := 1) (pc' := 416) (st' := [.int ((xs 2)), .int ((xs 1)), .ref 101]) (by decide +kernel) (ab_x0 rfl (by decide +kernel) rfl) rfl rfl rfl ?_
        refine ab_fin.call (i := .invokevirtual 100) (k := 3) (y := 5999) (As := [.ref 101, .int ((xs 1)), .int ((xs 2))]) (rest := []) (M' := (mX23_set, [])) (by decide +kernel) (ab_cv rfl rfl (ab_ov_no f1_101 rfl) ⟨(Nat.le_of_ble_eq_true rfl), (Nat.le_of_ble_eq_true rfl)⟩ rfl) rfl (Nat.le_of_ble_eq_true rfl) ?_
        show ab_fin _ _ _ _ 0 [(0, .ref 101), (1, .int ((xs 1))), (2, .int ((xs 2)))] [] _ _
        refine ab_fin.s2 (i := .aload_n 0) (k := 1) (pc' := 1) (lv' := [(0, .ref 101), (1, .int ((xs 1))), (2, .int ((xs 2)))]) (st' := [.ref 101]) (by decide +kernel) rfl rfl ?_
        refine ab_fin.s1i (i := .iconst 0) (k := 1) (pc' := 2) (n := 0) (by decide +kernel) rfl (by decide +kernel) rfl ?_
        refine ab_fin.putf (ix := 1000) (h1 := ab_ov h1 [(101, .inr (.inr (24, (p1_o101).set 110 (.int 0))))]) (pc' := 5) (by decide +kernel) rfl (ab_ov_no f1_101 rfl) (ab_klt (n := 115) (by rw [p1_n101]) (by decide)) rfl rfl (ab_ov_set rfl) rfl ?_
        refine ab_fin.s2 (i := .iload_n 1) (k := 1) (pc' := 6) (lv' := [(0, .ref 101), (1, .int ((xs 1))), (2, .int ((xs 2)))]) (st' := [.int ((xs 1))]) (by decide +kernel) rfl rfl ?_
        refine ab_fin.brT (c := ¬ (xs 1) = 0) (i := .ifCond .ne 25) (off := 25) (t := 31) (r := []) (by decide +kernel) rfl (by decide +kernel) (by have l0 : (0 : Int32).toInt = 0 := rfl; have l1 : (1 : Int32).toInt = 1 := rfl; simp only [← Int32.toInt_inj, Int32.lt_iff_toInt_lt, Int32.le_iff_toInt_le, l0, l1] at q1 q2 q6 ⊢; omega) ?_
        refine ab_fin.s2 (i := .iload_n 1) (k := 1) (pc' := 32) (lv' := [(0, .ref 101), (1, .int ((xs 1))), (2, .int ((xs 2)))]) (st' := [.int ((xs 1))]) (by decide +kernel) rfl rfl ?_
        refine ab_fin.s1i (i := .iconst 1) (k := 1) (pc' := 33) (n := 1) (by decide +kernel) rfl (by decide +kernel) rfl ?_
        refine ab_fin.brF (c := ¬ (xs 1) = (1 : Int32)) (i := .if_icmp .ne 29) (off := 29) (t := 62) (pc' := 36) (r := []) (by decide +kernel) rfl (by decide +kernel) rfl (by have l0 : (0 : Int32).toInt = 0 := rfl; have l1 : (1 : Int32).toInt = 1 := rfl; simp only [← Int32.toInt_inj, Int32.lt_iff_toInt_lt, Int32.le_iff_toInt_le, l0, l1] at q1 q2 q6 ⊢; omega) ?_
        refine ab_fin.s2 (i := .iload_n 2) (k := 1) (pc' := 37) (lv' := [(0, .ref 101), (1, .int ((xs 1))), (2, .int ((xs 2)))]) (st' := [.int ((xs 2))]) (by decide +kernel) rfl rfl ?_
        refine ab_fin.brT (c := (xs 2) < 0) (i := .ifCond .lt 25) (off := 25) (t := 62) (r := []) (by decide +kernel) rfl (by decide +kernel) (by have l0 : (0 : Int32).toInt = 0 := rfl; have l1 : (1 : Int32).toInt = 1 := rfl; simp only [← Int32.toInt_inj, Int32.lt_iff_toInt_lt, Int32.le_iff_toInt_le, l0, l1] at q1 q2 q6 ⊢; omega) ?_
        refine ab_fin.s2 (i := .iload_n 1) (k := 1) (pc' := 63) (lv' := [(0, .ref 101), (1, .int ((xs 1))), (2, .int ((xs 2)))]) (st' := [.int ((xs 1))]) (by decide +kernel) rfl rfl ?_
        refine ab_fin.s1i (i := .iconst 2) (k := 1) (pc' := 64) (n := 2) (by decide +kernel) rfl (by decide +kernel) rfl ?_
        refine ab_fin.brT (c := ¬ (xs 1) = (2 : Int32)) (i := .if_icmp .ne 28) (off := 28) (t := 92) (r := []) (by decide +kernel) rfl (by decide +kernel) (by have l0 : (0 : Int32).toInt = 0 := rfl; have l1 : (1 : Int32).toInt = 1 := rfl; have l2 : (2 : Int32).toInt = 2 := rfl; simp only [← Int32.toInt_inj, Int32.lt_iff_toInt_lt, Int32.le_iff_toInt_le, l0, l1, l2] at q1 q2 q6 ⊢; omega) ?_
        refine ab_fin.s2 (i := .aload_n 0) (k := 1) (pc' := 93) (lv' := [(0, .ref 101), (1, .int ((xs 1))), (2, .int ((xs 2)))]) (st' := [.ref 101]) (by decide +kernel) rfl rfl ?_
        refine ab_fin.s1i (i := .iconst 1) (k := 1) (pc' := 94) (n := 1) (by decide +kernel) rfl (by decide +kernel) rfl ?_
        refine ab_fin.call (i := .invokevirtual 1003) (k := 3) (y := 5993) (As := [.ref 101, .int 1]) (rest := []) (M' := (mX23_no_, [])) (by decide +kernel) (ab_cv rfl rfl (ab_ov_get (lt1 101 (by decide)) rfl) ⟨(Nat.le_of_ble_eq_true rfl), (Nat.le_of_ble_eq_true rfl)⟩ rfl) rfl (Nat.le_of_ble_eq_true rfl) ?_
        show ab_fin _ _ _ _ 0 [(0, .ref 101), (1, .int 1)] [] _ _
        refine ab_fin.s2 (i := .aload_n 0) (k := 1) (pc' := 1) (lv' := [(0, .ref 101), (1, .int 1)]) (st' := [.ref 101]) (by decide +kernel) rfl rfl ?_
        refine ab_fin.s2 (i := .iload_n 1) (k := 1) (pc' := 2) (lv' := [(0, .ref 101), (1, .int 1)]) (st' := [.int 1, .ref 101]) (by decide +kernel) rfl rfl ?_
        refine ab_fin.putf (ix := 1000) (h1 := ab_ov h1 [(101, .inr (.inr (24, (p1_o101).set 110 (.int 1))))]) (pc' := 5) (by decide +kernel) rfl (ab_ov_get (lt1 101 (by decide)) rfl) (ab_klt (n := 115) (by rw [List.length_set, p1_n101]) (by decide)) rfl rfl (ab_ov_set rfl) rfl ?_
        refine ab_fin.s1i (i := .iconst 0) (k := 1) (pc' := 6) (n := 0) (by decide +kernel) rfl (by decide +kernel) rfl ?_
        refine ab_fin.ret (i := .ireturn) (k := 1) (some (.int 0)) (by decide +kernel) rfl ?_
        refine ab_bk.back (pc' := 97) (st' := [.int 0]) rfl rfl ?_
        refine ab_fin.ret (i := .ireturn) (k := 1) (some (.int 0)) (by decide +kernel) rfl ?_
        refine ab_bk.back (pc' := 419) (st' := [.int 0]) rfl rfl ?_
        refine ab_fin.s2 (i := .istore 6) (k := 2) (pc' := 421) (lv' := [(6, .int 0), (5, .int 1), (4, .int 0), (3, .ref 3466), (2, .ref 101), (1, .ref 0), (0, .retAddr 9)]) (st' := []) (by decide +kernel) rfl rfl ?_
        refine ab_fin.s2 (i := .aload_n 2) (k := 1) (pc' := 422) (lv' := [(6, .int 0), (5, .int 1), (4, .int 0), (3, .ref 3466), (2, .ref 101), (1, .ref 0), (0, .retAddr 9)]) (st' := [.ref 101]) (by decide +kernel) rfl rfl ?_
        refine ab_fin.call (i := .invokevirtual 75) (k := 3) (y := 5992) (As := [.ref 101]) (rest := []) (M' := (mX23_thrown, [])) (by decide +kernel) (ab_cv rfl rfl (ab_ov_get (lt1 101 (by decide)) rfl) ⟨(Nat.le_of_ble_eq_true rfl), (Nat.le_of_ble_eq_true rfl)⟩ rfl) rfl (Nat.le_of_ble_eq_true rfl) ?_
        show ab_fin _ _ _ _ 0 [(0, .ref 101)] [] _ _
        refine ab_fin.s2 (i := .aload_n 0) (k := 1) (pc' := 1) (lv' := [(0, .ref 101)]) (st' := [.ref 101]) (by decide +kernel) rfl rfl ?_
        refine ab_fin.getf (ix := 1000) (k := 110) (v := .int 1) (pc' := 4) (by decide +kernel) rfl (ab_ov_get (lt1 101 (by decide)) rfl) rfl rfl ?_
        refine ab_fin.ret (i := .ireturn) (k := 1) (some (.int 1)) (by decide +kernel) rfl ?_
        refine ab_bk.back (pc' := 425) (st' := [.int 1]) rfl rfl ?_
        refine ab_fin.s2 (i := .iload 5) (k := 2) (pc' := 427) (lv' := [(6, .int 0), (5, .int 1), (4, .int 0), (3, .ref 3466), (2, .ref 101), (1, .ref 0), (0, .retAddr 9)]) (st' := [.int 1, .int 1]) (by decide +kernel) rfl rfl ?_
        refine ab_fin.brT (c := (1 : Int32) = (1 : Int32)) (i := .if_icmp .eq 5) (off := 5) (t := 432) (r := []) (by decide +kernel) rfl (by decide +kernel) (by decide +kernel) ?_
        refine ab_fin.s2 (i := .iload 5) (k := 2) (pc' := 434) (lv' := [(6, .int 0), (5, .int 1), (4, .int 0), (3, .ref 3466), (2, .ref 101), (1, .ref 0), (0, .retAddr 9)]) (st' := [.int 1]) (by decide +kernel) rfl rfl ?_
        refine ab_fin.brT (c := ¬ (1 : Int32) = 0) (i := .ifCond .ne 15) (off := 15) (t := 449) (r := []) (by decide +kernel) rfl (by decide +kernel) (by decide +kernel) ?_
        refine ab_fin.s3 (i := .goto 641) (k := 3) (t := 1090) (st' := []) (by decide +kernel) (ab_goto (by decide +kernel)) ?_
        refine ab_fin.inc (i := .iinc 4 6) (k := 3) (pc' := 1093) (j := 4) (n := 6) (lv' := [(6, .int 0), (5, .int 1), (3, .ref 3466), (2, .ref 101), (1, .ref 0), (0, .retAddr 9)]) (by decide +kernel) rfl (by decide +kernel) rfl ?_
        refine ab_fin.s3 (i := .goto (-1070)) (k := 3) (t := 23) (st' := []) (by decide +kernel) (ab_goto (by decide +kernel)) ?_
        refine ab_fin.s2 (i := .iload 4) (k := 2) (pc' := 25) (lv' := [(4, .int 6), (6, .int 0), (5, .int 1), (3, .ref 3466), (2, .ref 101), (1, .ref 0), (0, .retAddr 9)]) (st' := [.int 6]) (by decide +kernel) rfl rfl ?_
        refine ab_fin.s2 (i := .aload_n 0) (k := 1) (pc' := 26) (lv' := [(4, .int 6), (6, .int 0), (5, .int 1), (3, .ref 3466), (2, .ref 101), (1, .ref 0), (0, .retAddr 9)]) (st' := [.retAddr 9, .int 6]) (by decide +kernel) rfl rfl ?_
        refine ab_fin.s8 (i := .arraylength) (k := 1) (pc' := 27) (st' := [.int 6, .int 6]) (by decide +kernel) rfl rfl rfl rfl ?_
        refine ab_fin.s1i (i := .bipush 6) (k := 2) (pc' := 29) (n := 6) (by decide +kernel) rfl (by decide +kernel) rfl ?_
        refine ab_fin.s1i (i := .isub) (k := 1) (pc' := 30) (n := 0) (by decide +kernel) rfl (by decide +kernel) rfl ?_
        refine ab_fin.brT (c := (0 : Int32) < (6 : Int32)) (i := .if_icmp .gt 1066) (off := 1066) (t := 1096) (r := []) (by decide +kernel) rfl (by decide +kernel) (by decide +kernel) ?_
        refine ab_fin.s1i (i := .iconst 1) (k := 1) (pc' := 1097) (n := 1) (by decide +kernel) rfl (by decide +kernel) rfl ?_
        refine ab_fin.ret (i := .ireturn) (k := 1) (some (.int 1)) (by decide +kernel) rfl ?_
        refine ⟨rfl, ?_, ?_⟩
        · rw [ab_ov_len, hl1]; decide
        · refine Nat.le_trans (ab_ov_z _ _) ?_
          simp only [List.map, List.sum_cons, List.sum_nil, ab_z1, ab_len, List.length_set, List.length_replicate, List.length_cons, List.length_nil, p1_n101]
          have z1 : ab_z h1 = _ := hz1
          omega
      · refine ab_fin.s2 (i := .iload_n 2) (k := 1) (pc' := 36) (lv' := [(0, .ref 0), (1, .int ((xs 1))), (2, .int ((xs 2)))]) (st' := [.int ((xs 2))]) (by decide +kernel) rfl rfl ?_
        refine ab_fin.s1i (i := .iconst 3) (k := 1) (pc' := 37) (n := 3) (by decide +kernel) rfl (by decide +kernel) rfl ?_
        refine ab_fin.br (c := (3 : Int32) ≤ (xs 2)) (i := .if_icmp .ge 35) (off := 35) (t := 72) (pc' := 40) (r := []) (by decide +kernel) rfl (by decide +kernel) rfl (fun q7 => ?_) (fun q7 => ?_)
        · refine ab_fin.s2 (i := .iload_n 1) (k := 1) (pc' := 73) (lv' := [(0, .ref 0), (1, .int ((xs 1))), (2, .int ((xs 2)))]) (st' := [.int ((xs 1))]) (by decide +kernel) rfl rfl ?_
          refine ab_fin.s1i (i := .iconst 2) (k := 1) (pc' := 74) (n := 2) (by decide +kernel) rfl (by decide +kernel) rfl ?_
          refine ab_fin.brT (c := ¬ (xs 1) = (2 : Int32)) (i := .if_icmp .ne 27) (off := 27) (t := 101) (r := []) (by decide +kernel) rfl (by decide +kernel) (by have l0 : (0 : Int32).toInt = 0 := rfl; have l1 : (1 : Int32).toInt = 1 := rfl; have l2 : (2 : Int32).toInt = 2 := rfl; have l3 : (3 : Int32).toInt = 3 := rfl; simp only [← Int32.toInt_inj, Int32.lt_iff_toInt_lt, Int32.le_iff_toInt_le, l0, l1, l2, l3] at q1 q2 q6 q7 ⊢; omega) ?_
          refine ab_fin.thrN (i := .new 99) (k := 3) (cls := "java/lang/IllegalArgumentException") (n := 3467) (by decide +kernel) (by decide +kernel) (fun ix q => by cases q; rfl) (by decide) (Nat.le_of_ble_eq_true rfl) ((ab_ov_len _ _).trans hl) (ab_ov_app (by rw [hl]; decide +kernel)) ?_
          obtain ⟨h1, e1⟩ : ∃ h2 : List ab_E, h2 = h ++ [.inl 6] := ⟨_, rfl⟩
          have hl1 : h1.length = 3468 := by rw [e1, List.length_append, hl]; rfl
          have lt1 : ∀ a, a < 3468 → a < h1.length := fun a q => by rw [hl1]; exact q
          have hz1 : ab_z h1 = ab_z h + 6 := by rw [e1, ab_z_app]; rfl
          have f1_0 := (show h1[0]? = h[0]? by rw [e1, List.getElem?_append_left (by rw [hl]; decide)]).trans f_0
          have f1_1 := (show h1[1]? = h[1]? by rw [e1, List.getElem?_append_left (by rw [hl]; decide)]).trans f_1
          have f1_101 := (show h1[101]? = h[101]? by rw [e1, List.getElem?_append_left (by rw [hl]; decide)]).trans f_101
          have f1_2170 := (show h1[2170]? = h[2170]? by rw [e1, List.getElem?_append_left (by rw [hl]; decide)]).trans f_2170
          have f1_3466 := (show h1[3466]? = h[3466]? by rw [e1, List.getElem?_append_left (by rw [hl]; decide)]).trans f_3466
          rw [← e1]
          refine ab_bk.catch (hp := 13) (by decide +kernel) rfl ?_
          refine ab_fin.s2 (i := .astore 4) (k := 2) (pc' := 15) (lv' := [(4, .ref 3467), (0, .ref 0), (1, .int ((xs 1))), (2, .int ((xs 2))), (3, .ref 3466)]) (st' := []) (by decide +kernel) rfl rfl ?_
          refine ab_fin.s1i (i := .iconst 1) (k := 1) (pc' := 16) (n := 1) (by decide +kernel) rfl (by decide +kernel) rfl ?_
          refine ab_fin.ret (i := .ireturn) (k := 1) (some (.int 1)) (by decide +kernel) rfl ?_
          refine ab_bk.back (pc' := 401) (st' := [.int 1]) rfl rfl ?_
          refine ab_fin.s2 (i := .istore 5) (k := 2) (pc' := 403) (lv' := [(5, .int 1), (4, .int 0), (3, .ref 3466), (2, .ref 101), (1, .ref 0), (0, .retAddr 9)]) (st' := []) (by decide +kernel) rfl rfl ?_
          refine ab_fin.s2 (i := .aload_n 2) (k := 1) (pc' := 404) (lv' := [(5, .int 1), (4, .int 0), (3, .ref 3466), (2, .ref 101), (1, .ref 0), (0, .retAddr 9)]) (st' := [.ref 101]) (by decide +kernel) rfl rfl ?_
          refine ab_fin.s2 (i := .aload_n 0) (k := 1) (pc' := 405) (lv' := [(5, .int 1), (4, .int 0), (3, .ref 3466), (2, .ref 101), (1, .ref 0), (0, .retAddr 9)]) (st' := [.retAddr 9, .ref 101]) (by decide +kernel) rfl rfl ?_
          refine ab_fin.s2 (i := .iload 4) (k := 2) (pc' := 407) (lv' := [(5, .int 1), (4, .int 0), (3, .ref 3466), (2, .ref 101), (1, .ref 0), (0, .retAddr 9)]) (st' := [.int 0, .retAddr 9, .ref 101]) (by decide +kernel) rfl rfl ?_
          refine ab_fin.s1i (i := .iconst 1) (k := 1) (pc' := 408) (n := 1) (by decide +kernel) rfl (by decide +kernel) rfl ?_
          refine ab_fin.s1i (i := .iadd) (k := 1) (pc' := 409) (n := 1) (by decide +kernel) rfl (by decide +kernel) rfl ?_
          refine ab_fin.s8 (i := .iaload) (k := 1) (pc' := 410) (st' := [.int ((xs 1)), .ref 101]) (by decide +kernel) (ab_x0 rfl (by decide +kernel) rfl) rfl rfl rfl ?_
          refine ab_fin.s2 (i := .aload_n 0) (k := 1) (pc' := 411) (lv' := [(5, .int 1), (4, .int 0), (3, .ref 3466), (2, .ref 101), (1, .ref 0), (0, .retAddr 9)]) (st' := [.retAddr 9, .int ((xs 1)), .ref 101]) (by decide +kernel) rfl rfl ?_
          refine ab_fin.s2 (i := .iload 4) (k := 2) (pc' := 413) (lv' := [(5, .int 1), (4, .int 0), (3, .ref 3466), (2, .ref 101), (1, .ref 0), (0, .retAddr 9)]) (st' := [.int 0, .retAddr 9, .int ((xs 1)), .ref 101]) (by decide +kernel) rfl rfl ?_
          refine ab_fin.s1i (i := .iconst 2) (k := 1) (pc' := 414) (n := 2) (by decide +kernel) rfl (by decide +kernel) rfl ?_
          refine ab_fin.s1i (i := .iadd) (k := 1) (pc' := 415) (n := 2) (by decide +kernel) rfl (by decide +kernel) rfl ?_
          refine ab_fin.s8 (i := .iaload) (k := 1) (pc' := 416) (st' := [.int ((xs 2)), .int ((xs 1)), .ref 101]) (by decide +kernel) (ab_x0 rfl (by decide +kernel) rfl) rfl rfl rfl ?_
          refine ab_fin.call (i := .invokevirtual 100) (k := 3) (y := 5999) (As := [.ref 101, .int ((xs 1)), .int ((xs 2))]) (rest := []) (M' := (mX23_set, [])) (by decide +kernel) (ab_cv rfl rfl (ab_ov_no f1_101 rfl) ⟨(Nat.le_of_ble_eq_true rfl), (Nat.le_of_ble_eq_true rfl)⟩ rfl) rfl (Nat.le_of_ble_eq_true rfl) ?_
          show ab_fin _ _ _ _ 0 [(0, .ref 101), (1, .int ((xs 1))), (2, .int ((xs 2)))] [] _ _
          refine ab_fin.s2 (i := .aload_n 0) (k := 1) (pc' := 1) (lv' := [(0, .ref 101), (1, .int ((xs 1))), (2, .int ((xs 2)))]) (st' := [.ref 101]) (by decide +kernel) rfl rfl ?_
          refine ab_fin.s1i (i := .iconst 0) (k := 1) (pc' := 2) (n := 0) (by decide +kernel) rfl (by decide +kernel) rfl ?_
          refine ab_fin.putf (ix := 1000) (h1 := ab_ov h1 [(101, .inr (.inr (24, (p1_o101).set 110 (.int 0))))]) (pc' := 5) (by decide +kernel) rfl (ab_ov_no f1_101 rfl) (ab_klt (n := 115) (by rw [p1_n101]) (by decide)) rfl rfl (ab_ov_set rfl) rfl ?_
          refine ab_fin.s2 (i := .iload_n 1) (k := 1) (pc' := 6) (lv' := [(0, .ref 101), (1, .int ((xs 1))), (2, .int ((xs 2)))]) (st' := [.int ((xs 1))]) (by decide +kernel) rfl rfl ?_
          refine ab_fin.brT (c := ¬ (xs 1) = 0) (i := .ifCond .ne 25) (off := 25) (t := 31) (r := []) (by decide +kernel) rfl (by decide +kernel) (by have l0 : (0 : Int32).toInt = 0 := rfl; have l1 : (1 : Int32).toInt = 1 := rfl; have l3 : (3 : Int32).toInt = 3 := rfl; simp only [← Int32.toInt_inj, Int32.lt_iff_toInt_lt, Int32.le_iff_toInt_le, l0, l1, l3] at q1 q2 q6 q7 ⊢; omega) ?_
          refine ab_fin.s2 (i := .iload_n 1) (k := 1) (pc' := 32) (lv' := [(0, .ref 101), (1, .int ((xs 1))), (2, .int ((xs 2)))]) (st' := [.int ((xs 1))]) (by decide +kernel) rfl rfl ?_
          refine ab_fin.s1i (i := .iconst 1) (k := 1) (pc' := 33) (n := 1) (by decide +kernel) rfl (by decide +kernel) rfl ?_
          refine ab_fin.brF (c := ¬ (xs 1) = (1 : Int32)) (i := .if_icmp .ne 29) (off := 29) (t := 62) (pc' := 36) (r := []) (by decide +kernel) rfl (by decide +kernel) rfl (by have l0 : (0 : Int32).toInt = 0 := rfl; have l1 : (1 : Int32).toInt = 1 := rfl; have l3 : (3 : Int32).toInt = 3 := rfl; simp only [← Int32.toInt_inj, Int32.lt_iff_toInt_lt, Int32.le_iff_toInt_le, l0, l1, l3] at q1 q2 q6 q7 ⊢; omega) ?_
          refine ab_fin.s2 (i := .iload_n 2) (k := 1) (pc' := 37) (lv' := [(0, .ref 101), (1, .int ((xs 1))), (2, .int ((xs 2)))]) (st' := [.int ((xs 2))]) (by decide +kernel) rfl rfl ?_
          refine ab_fin.brF (c := (xs 2) < 0) (i := .ifCond .lt 25) (off := 25) (t := 62) (pc' := 40) (r := []) (by decide +kernel) rfl (by decide +kernel) rfl (by have l0 : (0 : Int32).toInt = 0 := rfl; have l1 : (1 : Int32).toInt = 1 := rfl; have l3 : (3 : Int32).toInt = 3 := rfl; simp only [← Int32.toInt_inj, Int32.lt_iff_toInt_lt, Int32.le_iff_toInt_le, l0, l1, l3] at q1 q2 q6 q7 ⊢; omega) ?_
          refine ab_fin.s2 (i := .iload_n 2) (k := 1) (pc' := 41) (lv' := [(0, .ref 101), (1, .int ((xs 1))), (2, .int ((xs 2)))]) (st' := [.int ((xs 2))]) (by decide +kernel) rfl rfl ?_
          refine ab_fin.s1i (i := .iconst 2) (k := 1) (pc' := 42) (n := 2) (by decide +kernel) rfl (by decide +kernel) rfl ?_
          refine ab_fin.brT (c := (2 : Int32) < (xs 2)) (i := .if_icmp .gt 20) (off := 20) (t := 62) (r := []) (by decide +kernel) rfl (by decide +kernel) (by have l0 : (0 : Int32).toInt = 0 := rfl; have l1 : (1 : Int32).toInt = 1 := rfl; have l2 : (2 : Int32).toInt = 2 := rfl; have l3 : (3 : Int32).toInt = 3 := rfl; simp only [← Int32.toInt_inj, Int32.lt_iff_toInt_lt, Int32.le_iff_toInt_le, l0, l1, l2, l3] at q1 q2 q6 q7 ⊢; omega) ?_
          refine ab_fin.s2 (i := .iload_n 1) (k := 1) (pc' := 63) (lv' := [(0, .ref 101), (1, .int ((xs 1))), (2, .int ((xs 2)))]) (st' := [.int ((xs 1))]) (by decide +kernel) rfl rfl ?_
          refine ab_fin.s1i (i := .iconst 2) (k := 1) (pc' := 64) (n := 2) (by decide +kernel) rfl (by decide +kernel) rfl ?_
          refine ab_fin.brT (c := ¬ (xs 1) = (2 : Int32)) (i := .if_icmp .ne 28) (off := 28) (t := 92) (r := []) (by decide +kernel) rfl (by decide +kernel) (by have l0 : (0 : Int32).toInt = 0 := rfl; have l1 : (1 : Int32).toInt = 1 := rfl; have l2 : (2 : Int32).toInt = 2 := rfl; have l3 : (3 : Int32).toInt = 3 := rfl; simp only [← Int32.toInt_inj, Int32.lt_iff_toInt_lt, Int32.le_iff_toInt_le, l0, l1, l2, l3] at q1 q2 q6 q7 ⊢; omega) ?_
          refine ab_fin.s2 (i := .aload_n 0) (k := 1) (pc' := 93) (lv' := [(0, .ref 101), (1, .int ((xs 1))), (2, .int ((xs 2)))]) (st' := [.ref 101]) (by decide +kernel) rfl rfl ?_
          refine ab_fin.s1i (i := .iconst 1) (k := 1) (pc' := 94) (n := 1) (by decide +kernel) rfl (by decide +kernel) rfl ?_
          refine ab_fin.call (i := .invokevirtual 1003) (k := 3) (y := 5993) (As := [.ref 101, .int 1]) (rest := []) (M' := (mX23_no_, [])) (by decide +kernel) (ab_cv rfl rfl (ab_ov_get (lt1 101 (by decide)) rfl) ⟨(Nat.le_of_ble_eq_true rfl), (Nat.le_of_ble_eq_true rfl)⟩ rfl) rfl (Nat.le_of_ble_eq_true rfl) ?_
          show ab_fin _ _ _ _ 0 [(0, .ref 101), (1, .int 1)] [] _ _
          refine ab_fin.s2 (i := .aload_n 0) (k := 1) (pc' := 1) (lv' := [(0, .ref 101), (1, .int 1)]) (st' := [.ref 101]) (by decide +kernel) rfl rfl ?_
          refine ab_fin.s2 (i := .iload_n 1) (k := 1) (pc' := 2) (lv' := [(0, .ref 101), (1, .int 1)]) (st' := [.int 1, .ref 101]) (by decide +kernel) rfl rfl ?_
          refine ab_fin.putf (ix := 1000) (h1 := ab_ov h1 [(101, .inr (.inr (24, (p1_o101).set 110 (.int 1))))]) (pc' := 5) (by decide +kernel) rfl (ab_ov_get (lt1 101 (by decide)) rfl) (ab_klt (n := 115) (by rw [List.length_set, p1_n101]) (by decide)) rfl rfl (ab_ov_set rfl) rfl ?_
          refine ab_fin.s1i (i := .iconst 0) (k := 1) (pc' := 6) (n := 0) (by decide +kernel) rfl (by decide +kernel) rfl ?_
          refine ab_fin.ret (i := .ireturn) (k := 1) (some (.int 0)) (by decide +kernel) rfl ?_
          refine ab_bk.back (pc' := 97) (st' := [.int 0]) rfl rfl ?_
          refine ab_fin.ret (i := .ireturn) (k := 1) (some (.int 0)) (by decide +kernel) rfl ?_
          refine ab_bk.back (pc' := 419) (st' := [.int 0]) rfl rfl ?_
          refine ab_fin.s2 (i := .istore 6) (k := 2) (pc' := 421) (lv' := [(6, .int 0), (5, .int 1), (4, .int 0), (3, .ref 3466), (2, .ref 101), (1, .ref 0), (0, .retAddr 9)]) (st' := []) (by decide +kernel) rfl rfl ?_
          refine ab_fin.s2 (i := .aload_n 2) (k := 1) (pc' := 422) (lv' := [(6, .int 0), (5, .int 1), (4, .int 0), (3, .ref 3466), (2, .ref 101), (1, .ref 0), (0, .retAddr 9)]) (st' := [.ref 101]) (by decide +kernel) rfl rfl ?_
          refine ab_fin.call (i := .invokevirtual 75) (k := 3) (y := 5992) (As := [.ref 101]) (rest := []) (M' := (mX23_thrown, [])) (by decide +kernel) (ab_cv rfl rfl (ab_ov_get (lt1 101 (by decide)) rfl) ⟨(Nat.le_of_ble_eq_true rfl), (Nat.le_of_ble_eq_true rfl)⟩ rfl) rfl (Nat.le_of_ble_eq_true rfl) ?_
          show ab_fin _ _ _ _ 0 [(0, .ref 101)] [] _ _
          refine ab_fin.s2 (i := .aload_n 0) (k := 1) (pc' := 1) (lv' := [(0, .ref 101)]) (st' := [.ref 101]) (by decide +kernel) rfl rfl ?_
          refine ab_fin.getf (ix := 1000) (k := 110) (v := .int 1) (pc' := 4) (by decide +kernel) rfl (ab_ov_get (lt1 101 (by decide)) rfl) rfl rfl ?_
          refine ab_fin.ret (i := .ireturn) (k := 1) (some (.int 1)) (by decide +kernel) rfl ?_
          refine ab_bk.back (pc' := 425) (st' := [.int 1]) rfl rfl ?_
          refine ab_fin.s2 (i := .iload 5) (k := 2) (pc' := 427) (lv' := [(6, .int 0), (5, .int 1), (4, .int 0), (3, .ref 3466), (2, .ref 101), (1, .ref 0), (0, .retAddr 9)]) (st' := [.int 1, .int 1]) (by decide +kernel) rfl rfl ?_
          refine ab_fin.brT (c := (1 : Int32) = (1 : Int32)) (i := .if_icmp .eq 5) (off := 5) (t := 432) (r := []) (by decide +kernel) rfl (by decide +kernel) (by decide +kernel) ?_
          refine ab_fin.s2 (i := .iload 5) (k := 2) (pc' := 434) (lv' := [(6, .int 0), (5, .int 1), (4, .int 0), (3, .ref 3466), (2, .ref 101), (1, .ref 0), (0, .retAddr 9)]) (st' := [.int 1]) (by decide +kernel) rfl rfl ?_
          refine ab_fin.brT (c := ¬ (1 : Int32) = 0) (i := .ifCond .ne 15) (off := 15) (t := 449) (r := []) (by decide +kernel) rfl (by decide +kernel) (by decide +kernel) ?_
          refine ab_fin.s3 (i := .goto 641) (k := 3) (t := 1090) (st' := []) (by decide +kernel) (ab_goto (by decide +kernel)) ?_
          refine ab_fin.inc (i := .iinc 4 6) (k := 3) (pc' := 1093) (j := 4) (n := 6) (lv' := [(6, .int 0), (5, .int 1), (3, .ref 3466), (2, .ref 101), (1, .ref 0), (0, .retAddr 9)]) (by decide +kernel) rfl (by decide +kernel) rfl ?_
          refine ab_fin.s3 (i := .goto (-1070)) (k := 3) (t := 23) (st' := []) (by decide +kernel) (ab_goto (by decide +kernel)) ?_
          refine ab_fin.s2 (i := .iload 4) (k := 2) (pc' := 25) (lv' := [(4, .int 6), (6, .int 0), (5, .int 1), (3, .ref 3466), (2, .ref 101), (1, .ref 0), (0, .retAddr 9)]) (st' := [.int 6]) (by decide +kernel) rfl rfl ?_
          refine ab_fin.s2 (i := .aload_n 0) (k := 1) (pc' := 26) (lv' := [(4, .int 6), (6, .int 0), (5, .int 1), (3, .ref 3466), (2, .ref 101), (1, .ref 0), (0, .retAddr 9)]) (st' := [.retAddr 9, .int 6]) (by decide +kernel) rfl rfl ?_
          refine ab_fin.s8 (i := .arraylength) (k := 1) (pc' := 27) (st' := [.int 6, .int 6]) (by decide +kernel) rfl rfl rfl rfl ?_
          refine ab_fin.s1i (i := .bipush 6) (k := 2) (pc' := 29) (n := 6) (by decide +kernel) rfl (by decide +kernel) rfl ?_
          refine ab_fin.s1i (i := .isub) (k := 1) (pc' := 30) (n := 0) (by decide +kernel) rfl (by decide +kernel) rfl ?_
          refine ab_fin.brT (c := (0 : Int32) < (6 : Int32)) (i := .if_icmp .gt 1066) (off := 1066) (t := 1096) (r := []) (by decide +kernel) rfl (by decide +kernel) (by decide +kernel) ?_
          refine ab_fin.s1i (i := .iconst 1) (k := 1) (pc' := 1097) (n := 1) (by decide +kernel) rfl (by decide +kernel) rfl ?_
          refine ab_fin.ret (i := .ireturn) (k := 1) (some (.int 1)) (by decide +kernel) rfl ?_
          refine ⟨rfl, ?_, ?_⟩
          · rw [ab_ov_len, hl1]; decide
          · refine Nat.le_trans (ab_ov_z _ _) ?_
            simp only [List.map, List.sum_cons, List.sum_nil, ab_z1, ab_len, List.length_set, List.length_replicate, List.length_cons, List.length_nil, p1_n101]
            have z1 : ab_z h1 = _ := hz1
            omega
        · refine ab_fin.s2 (i := .aload_n 0) (k := 1) (pc' := 41) (lv' := [(0, .ref 0), (1, .int ((xs 1))), (2, .int ((xs 2)))]) (st' := [.ref 0]) (by decide +kernel) rfl rfl ?_
          refine ab_fin.getf (ix := 10) (k := 0) (v := .ref 1) (pc' := 44) (by decide +kernel) rfl (ab_ov_no f_0 rfl) rfl rfl ?_
          refine ab_fin.getf (ix := 141) (k := 15) (v := .int 0) (pc' := 47) (by decide +kernel) rfl (ab_ov_no f_1 rfl) rfl rfl ?_
          refine ab_fin.s2 (i := .istore_n 3) (k := 1) (pc' := 48) (lv' := [(3, .int 0), (0, .ref 0), (1, .int ((xs 1))), (2, .int ((xs 2)))]) (st' := []) (by decide +kernel) rfl rfl ?_
          refine ab_fin.s2 (i := .aload_n 0) (k := 1) (pc' := 49) (lv' := [(3, .int 0), (0, .ref 0), (1, .int ((xs 1))), (2, .int ((xs 2)))]) (st' := [.ref 0]) (by decide +kernel) rfl rfl ?_
          refine ab_fin.getf (ix := 10) (k := 0) (v := .ref 1) (pc' := 52) (by decide +kernel) rfl (ab_ov_no f_0 rfl) rfl rfl ?_
          refine ab_fin.s2 (i := .iload_n 2) (k := 1) (pc' := 53) (lv' := [(3, .int 0), (0, .ref 0), (1, .int ((xs 1))), (2, .int ((xs 2)))]) (st' := [.int ((xs 2)), .ref 1]) (by decide +kernel) rfl rfl ?_
          refine ab_fin.putf (ix := 141) (h1 := ab_ov h [(1, .inr (.inr (12, (p1_o1).set 15 (.int ((xs 2))))))]) (pc' := 56) (by decide +kernel) rfl (ab_ov_no f_1 rfl) (ab_klt (n := 18) (by rw [p1_n1]) (by decide)) rfl rfl (ab_ov_set rfl) rfl ?_
          refine ab_fin.s2 (i := .aload_n 0) (k := 1) (pc' := 57) (lv' := [(3, .int 0), (0, .ref 0), (1, .int ((xs 1))), (2, .int ((xs 2)))]) (st' := [.ref 0]) (by decide +kernel) rfl rfl ?_
          refine ab_fin.getf (ix := 10) (k := 0) (v := .ref 1) (pc' := 60) (by decide +kernel) rfl (ab_ov_no f_0 rfl) rfl rfl ?_
          refine ab_fin.s1 (i := .dup) (k := 1) (pc' := 61) (st' := [.ref 1, .ref 1]) (by decide +kernel) rfl rfl ?_
          refine ab_fin.getf (ix := 144) (k := 16) (v := .int 2) (pc' := 64) (by decide +kernel) rfl (ab_ov_get (lt0 1 (by decide)) rfl) rfl rfl ?_
          refine ab_fin.s1i (i := .iconst 1) (k := 1) (pc' := 65) (n := 1) (by decide +kernel) rfl (by decide +kernel) rfl ?_
          refine ab_fin.s1i (i := .iadd) (k := 1) (pc' := 66) (n := 3) (by decide +kernel) rfl (by decide +kernel) rfl ?_
          refine ab_fin.putf (ix := 144) (h1 := ab_ov h [(1, .inr (.inr (12, ((p1_o1).set 15 (.int ((xs 2)))).set 16 (.int 3))))]) (pc' := 69) (by decide +kernel) rfl (ab_ov_get (lt0 1 (by decide)) rfl) (ab_klt (n := 18) (by rw [List.length_set, p1_n1]) (by decide)) rfl rfl (ab_ov_set rfl) rfl ?_
          refine ab_fin.s3 (i := .goto 40) (k := 3) (t := 109) (st' := []) (by decide +kernel) (ab_goto (by decide +kernel)) ?_
          refine ab_fin.s2 (i := .iload_n 3) (k := 1) (pc' := 110) (lv' := [(3, .int 0), (0, .ref 0), (1, .int ((xs 1))), (2, .int ((xs 2)))]) (st' := [.int 0]) (by decide +kernel) rfl rfl ?_
          refine ab_fin.ret (i := .ireturn) (k := 1) (some (.int 0)) (by decide +kernel) rfl ?_
          refine ab_bk.back (pc' := 8) (st' := [.int 0, .int 0, .ref 3466]) rfl rfl ?_
          refine ab_fin.s1l (i := .i2l) (k := 1) (pc' := 9) (n := 0) (by decide +kernel) rfl (by decide +kernel) rfl ?_
          refine ab_fin.last (h1 := ab_ov h [(3466, .inr (.inl (1, .inr (.inl ((List.replicate 1 0).set 0 (0)))))), (1, .inr (.inr (12, ((p1_o1).set 15 (.int ((xs 2)))).set 16 (.int 3))))]) (pc' := 10) (by decide +kernel) (ab_ov_no f_3466 rfl) (ab_bd (n := 1) (by rw [List.length_replicate]) (by decide +kernel)) (ab_ov_set rfl) rfl ?_
          refine ab_fin.s3 (i := .goto 7) (k := 3) (t := 17) (st' := []) (by decide +kernel) (ab_goto (by decide +kernel)) ?_
          refine ab_fin.s1i (i := .iconst 0) (k := 1) (pc' := 18) (n := 0) (by decide +kernel) rfl (by decide +kernel) rfl ?_
          refine ab_fin.ret (i := .ireturn) (k := 1) (some (.int 0)) (by decide +kernel) rfl ?_
          refine ab_bk.back (pc' := 401) (st' := [.int 0]) rfl rfl ?_
          refine ab_fin.s2 (i := .istore 5) (k := 2) (pc' := 403) (lv' := [(5, .int 0), (4, .int 0), (3, .ref 3466), (2, .ref 101), (1, .ref 0), (0, .retAddr 9)]) (st' := []) (by decide +kernel) rfl rfl ?_
          refine ab_fin.s2 (i := .aload_n 2) (k := 1) (pc' := 404) (lv' := [(5, .int 0), (4, .int 0), (3, .ref 3466), (2, .ref 101), (1, .ref 0), (0, .retAddr 9)]) (st' := [.ref 101]) (by decide +kernel) rfl rfl ?_
          refine ab_fin.s2 (i := .aload_n 0) (k := 1) (pc' := 405) (lv' := [(5, .int 0), (4, .int 0), (3, .ref 3466), (2, .ref 101), (1, .ref 0), (0, .retAddr 9)]) (st' := [.retAddr 9, .ref 101]) (by decide +kernel) rfl rfl ?_
          refine ab_fin.s2 (i := .iload 4) (k := 2) (pc' := 407) (lv' := [(5, .int 0), (4, .int 0), (3, .ref 3466), (2, .ref 101), (1, .ref 0), (0, .retAddr 9)]) (st' := [.int 0, .retAddr 9, .ref 101]) (by decide +kernel) rfl rfl ?_
          refine ab_fin.s1i (i := .iconst 1) (k := 1) (pc' := 408) (n := 1) (by decide +kernel) rfl (by decide +kernel) rfl ?_
          refine ab_fin.s1i (i := .iadd) (k := 1) (pc' := 409) (n := 1) (by decide +kernel) rfl (by decide +kernel) rfl ?_
          refine ab_fin.s8 (i := .iaload) (k := 1) (pc' := 410) (st' := [.int ((xs 1)), .ref 101]) (by decide +kernel) (ab_x0 rfl (by decide +kernel) rfl) rfl rfl rfl ?_
          refine ab_fin.s2 (i := .aload_n 0) (k := 1) (pc' := 411) (lv' := [(5, .int 0), (4, .int 0), (3, .ref 3466), (2, .ref 101), (1, .ref 0), (0, .retAddr 9)]) (st' := [.retAddr 9, .int ((xs 1)), .ref 101]) (by decide +kernel) rfl rfl ?_
          refine ab_fin.s2 (i := .iload 4) (k := 2) (pc' := 413) (lv' := [(5, .int 0), (4, .int 0), (3, .ref 3466), (2, .ref 101), (1, .ref 0), (0, .retAddr 9)]) (st' := [.int 0, .retAddr 9, .int ((xs 1)), .ref 101]) (by decide +kernel) rfl rfl ?_
          refine ab_fin.s1i (i := .iconst 2) (k := 1) (pc' := 414) (n := 2) (by decide +kernel) rfl (by decide +kernel) rfl ?_
          refine ab_fin.s1i (i := .iadd) (k := 1) (pc' := 415) (n := 2) (by decide +kernel) rfl (by decide +kernel) rfl ?_
          refine ab_fin.s8 (i := .iaload) (k := 1) (pc' := 416) (st' := [.int ((xs 2)), .int ((xs 1)), .ref 101]) (by decide +kernel) (ab_x0 rfl (by decide +kernel) rfl) rfl rfl rfl ?_
          refine ab_fin.call (i := .invokevirtual 100) (k := 3) (y := 5999) (As := [.ref 101, .int ((xs 1)), .int ((xs 2))]) (rest := []) (M' := (mX23_set, [])) (by decide +kernel) (ab_cv rfl rfl (ab_ov_no f_101 rfl) ⟨(Nat.le_of_ble_eq_true rfl), (Nat.le_of_ble_eq_true rfl)⟩ rfl) rfl (Nat.le_of_ble_eq_true rfl) ?_
          show ab_fin _ _ _ _ 0 [(0, .ref 101), (1, .int ((xs 1))), (2, .int ((xs 2)))] [] _ _
          refine ab_fin.s2 (i := .aload_n 0) (k := 1) (pc' := 1) (lv' := [(0, .ref 101), (1, .int ((xs 1))), (2, .int ((xs 2)))]) (st' := [.ref 101]) (by decide +kernel) rfl rfl ?_
          refine ab_fin.s1i (i := .iconst 0) (k := 1) (pc' := 2) (n := 0) (by decide +kernel) rfl (by decide +kernel) rfl ?_
          refine ab_fin.putf (ix := 1000) (h1 := ab_ov h [(101, .inr (.inr (24, (p1_o101).set 110 (.int 0)))), (3466, .inr (.inl (1, .inr (.inl ((List.replicate 1 0).set 0 (0)))))), (1, .inr (.inr (12, ((p1_o1).set 15 (.int ((xs 2)))).set 16 (.int 3))))]) (pc' := 5) (by decide +kernel) rfl (ab_ov_no f_101 rfl) (ab_klt (n := 115) (by rw [p1_n101]) (by decide)) rfl rfl (ab_ov_set rfl) rfl ?_
          refine ab_fin.s2 (i := .iload_n 1) (k := 1) (pc' := 6) (lv' := [(0, .ref 101), (1, .int ((xs 1))), (2, .int ((xs 2)))]) (st' := [.int ((xs 1))]) (by decide +kernel) rfl rfl ?_
          refine ab_fin.brT (c := ¬ (xs 1) = 0) (i := .ifCond .ne 25) (off := 25) (t := 31) (r := []) (by decide +kernel) rfl (by decide +kernel) (by have l0 : (0 : Int32).toInt = 0 := rfl; have l1 : (1 : Int32).toInt = 1 := rfl; have l3 : (3 : Int32).toInt = 3 := rfl; simp only [← Int32.toInt_inj, Int32.lt_iff_toInt_lt, Int32.le_iff_toInt_le, l0, l1, l3] at q1 q2 q6 q7 ⊢; omega) ?_
          refine ab_fin.s2 (i := .iload_n 1) (k := 1) (pc' := 32) (lv' := [(0, .ref 101), (1, .int ((xs 1))), (2, .int ((xs 2)))]) (st' := [.int ((xs 1))]) (by decide +kernel) rfl rfl ?_
          refine ab_fin.s1i (i := .iconst 1) (k := 1) (pc' := 33) (n := 1) (by decide +kernel) rfl (by decide +kernel) rfl ?_
          refine ab_fin.brF (c := ¬ (xs 1) = (1 : Int32)) (i := .if_icmp .ne 29) (off := 29) (t := 62) (pc' := 36) (r := []) (by decide +kernel) rfl (by decide +kernel) rfl (by have l0 : (0 : Int32).toInt = 0 := rfl; have l1 : (1 : Int32).toInt = 1 := rfl; have l3 : (3 : Int32).toInt = 3 := rfl; simp only [← Int32.toInt_inj, Int32.lt_iff_toInt_lt, Int32.le_iff_toInt_le, l0, l1, l3] at q1 q2 q6 q7 ⊢; omega) ?_
          refine ab_fin.s2 (i := .iload_n 2) (k := 1) (pc' := 37) (lv' := [(0, .ref 101), (1, .int ((xs 1))), (2, .int ((xs 2)))]) (st' := [.int ((xs 2))]) (by decide +kernel) rfl rfl ?_
          refine ab_fin.brF (c := (xs 2) < 0) (i := .ifCond .lt 25) (off := 25) (t := 62) (pc' := 40) (r := []) (by decide +kernel) rfl (by decide +kernel) rfl (by have l0 : (0 : Int32).toInt = 0 := rfl; have l1 : (1 : Int32).toInt = 1 := rfl; have l3 : (3 : Int32).toInt = 3 := rfl; simp only [← Int32.toInt_inj, Int32.lt_iff_toInt_lt, Int32.le_iff_toInt_le, l0, l1, l3] at q1 q2 q6 q7 ⊢; omega) ?_
          refine ab_fin.s2 (i := .iload_n 2) (k := 1) (pc' := 41) (lv' := [(0, .ref 101), (1, .int ((xs 1))), (2, .int ((xs 2)))]) (st' := [.int ((xs 2))]) (by decide +kernel) rfl rfl ?_
          refine ab_fin.s1i (i := .iconst 2) (k := 1) (pc' := 42) (n := 2) (by decide +kernel) rfl (by decide +kernel) rfl ?_
          refine ab_fin.brF (c := (2 : Int32) < (xs 2)) (i := .if_icmp .gt 20) (off := 20) (t := 62) (pc' := 45) (r := []) (by decide +kernel) rfl (by decide +kernel) rfl (by have l0 : (0 : Int32).toInt = 0 := rfl; have l1 : (1 : Int32).toInt = 1 := rfl; have l2 : (2 : Int32).toInt = 2 := rfl; have l3 : (3 : Int32).toInt = 3 := rfl; simp only [← Int32.toInt_inj, Int32.lt_iff_toInt_lt, Int32.le_iff_toInt_le, l0, l1, l2, l3] at q1 q2 q6 q7 ⊢; omega) ?_
          refine ab_fin.s2 (i := .aload_n 0) (k := 1) (pc' := 46) (lv' := [(0, .ref 101), (1, .int ((xs 1))), (2, .int ((xs 2)))]) (st' := [.ref 101]) (by decide +kernel) rfl rfl ?_
          refine ab_fin.getf (ix := 612) (k := 83) (v := .int 0) (pc' := 49) (by decide +kernel) rfl (ab_ov_get (lt0 101 (by decide)) rfl) rfl rfl ?_
          refine ab_fin.s2 (i := .istore_n 3) (k := 1) (pc' := 50) (lv' := [(3, .int 0), (0, .ref 101), (1, .int ((xs 1))), (2, .int ((xs 2)))]) (st' := []) (by decide +kernel) rfl rfl ?_
          refine ab_fin.s2 (i := .aload_n 0) (k := 1) (pc' := 51) (lv' := [(3, .int 0), (0, .ref 101), (1, .int ((xs 1))), (2, .int ((xs 2)))]) (st' := [.ref 101]) (by decide +kernel) rfl rfl ?_
          refine ab_fin.s2 (i := .iload_n 2) (k := 1) (pc' := 52) (lv' := [(3, .int 0), (0, .ref 101), (1, .int ((xs 1))), (2, .int ((xs 2)))]) (st' := [.int ((xs 2)), .ref 101]) (by decide +kernel) rfl rfl ?_
          refine ab_fin.putf (ix := 612) (h1 := ab_ov h [(101, .inr (.inr (24, ((p1_o101).set 110 (.int 0)).set 83 (.int ((xs 2)))))), (3466, .inr (.inl (1, .inr (.inl ((List.replicate 1 0).set 0 (0)))))), (1, .inr (.inr (12, ((p1_o1).set 15 (.int ((xs 2)))).set 16 (.int 3))))]) (pc' := 55) (by decide +kernel) rfl (ab_ov_get (lt0 101 (by decide)) rfl) (ab_klt (n := 115) (by rw [List.length_set, p1_n101]) (by decide)) rfl rfl (ab_ov_set rfl) rfl ?_
          refine ab_fin.s2 (i := .aload_n 0) (k := 1) (pc' := 56) (lv' := [(3, .int 0), (0, .ref 101), (1, .int ((xs 1))), (2, .int ((xs 2)))]) (st' := [.ref 101]) (by decide +kernel) rfl rfl ?_
          refine ab_fin.known (i := .invokevirtual 520) (k := 3) (y := 5949) (As := [.ref 101]) (rest := []) (M' := (mX23_forget, [])) (v := none) (pc' := 59) (st' := []) (h1 := ab_ov h [(2170, .inr (.inl (0, .inl (List.replicate 8192 (-1))))), (101, .inr (.inr (24, ((p1_o101).set 110 (.int 0)).set 83 (.int ((xs 2)))))), (3466, .inr (.inl (1, .inr (.inl ((List.replicate 1 0).set 0 (0)))))), (1, .inr (.inr (12, ((p1_o1).set 15 (.int ((xs 2)))).set 16 (.int 3))))]) (by decide +kernel) (ab_cv rfl rfl (ab_ov_get (lt0 101 (by decide)) rfl) ⟨(Nat.le_of_ble_eq_true rfl), (Nat.le_of_ble_eq_true rfl)⟩ rfl) rfl (Nat.le_of_ble_eq_true rfl) (ab_ev.as (hb_forget (ab_ov_get (lt0 101 (by decide)) rfl) rfl (by decide) (by rw [List.length_replicate]) (ab_ov_no f_2170 rfl)) (ab_ov_set rfl)) rfl rfl ?_
          refine ab_fin.s3 (i := .goto 39) (k := 3) (t := 98) (st' := []) (by decide +kernel) (ab_goto (by decide +kernel)) ?_
          refine ab_fin.s2 (i := .iload_n 3) (k := 1) (pc' := 99) (lv' := [(3, .int 0), (0, .ref 101), (1, .int ((xs 1))), (2, .int ((xs 2)))]) (st' := [.int 0]) (by decide +kernel) rfl rfl ?_
          refine ab_fin.ret (i := .ireturn) (k := 1) (some (.int 0)) (by decide +kernel) rfl ?_
          refine ab_bk.back (pc' := 419) (st' := [.int 0]) rfl rfl ?_
          refine ab_fin.s2 (i := .istore 6) (k := 2) (pc' := 421) (lv' := [(6, .int 0), (5, .int 0), (4, .int 0), (3, .ref 3466), (2, .ref 101), (1, .ref 0), (0, .retAddr 9)]) (st' := []) (by decide +kernel) rfl rfl ?_
          refine ab_fin.s2 (i := .aload_n 2) (k := 1) (pc' := 422) (lv' := [(6, .int 0), (5, .int 0), (4, .int 0), (3, .ref 3466), (2, .ref 101), (1, .ref 0), (0, .retAddr 9)]) (st' := [.ref 101]) (by decide +kernel) rfl rfl ?_
          refine ab_fin.call (i := .invokevirtual 75) (k := 3) (y := 5992) (As := [.ref 101]) (rest := []) (M' := (mX23_thrown, [])) (by decide +kernel) (ab_cv rfl rfl (ab_ov_get (lt0 101 (by decide)) rfl) ⟨(Nat.le_of_ble_eq_true rfl), (Nat.le_of_ble_eq_true rfl)⟩ rfl) rfl (Nat.le_of_ble_eq_true rfl) ?_
          show ab_fin _ _ _ _ 0 [(0, .ref 101)] [] _ _
          refine ab_fin.s2 (i := .aload_n 0) (k := 1) (pc' := 1) (lv' := [(0, .ref 101)]) (st' := [.ref 101]) (by decide +kernel) rfl rfl ?_
          refine ab_fin.getf (ix := 1000) (k := 110) (v := .int 0) (pc' := 4) (by decide +kernel) rfl (ab_ov_get (lt0 101 (by decide)) rfl) rfl rfl ?_
          refine ab_fin.ret (i := .ireturn) (k := 1) (some (.int 0)) (by decide +kernel) rfl ?_
          refine ab_bk.back (pc' := 425) (st' := [.int 0]) rfl rfl ?_
          refine ab_fin.s2 (i := .iload 5) (k := 2) (pc' := 427) (lv' := [(6, .int 0), (5, .int 0), (4, .int 0), (3, .ref 3466), (2, .ref 101), (1, .ref 0), (0, .retAddr 9)]) (st' := [.int 0, .int 0]) (by decide +kernel) rfl rfl ?_
          refine ab_fin.brT (c := (0 : Int32) = (0 : Int32)) (i := .if_icmp .eq 5) (off := 5) (t := 432) (r := []) (by decide +kernel) rfl (by decide +kernel) (by decide +kernel) ?_
          refine ab_fin.s2 (i := .iload 5) (k := 2) (pc' := 434) (lv' := [(6, .int 0), (5, .int 0), (4, .int 0), (3, .ref 3466), (2, .ref 101), (1, .ref 0), (0, .retAddr 9)]) (st' := [.int 0]) (by decide +kernel) rfl rfl ?_
          refine ab_fin.brF (c := ¬ (0 : Int32) = 0) (i := .ifCond .ne 15) (off := 15) (t := 449) (pc' := 437) (r := []) (by decide +kernel) rfl (by decide +kernel) rfl (by decide +kernel) ?_
          refine ab_fin.s2 (i := .aload_n 3) (k := 1) (pc' := 438) (lv' := [(6, .int 0), (5, .int 0), (4, .int 0), (3, .ref 3466), (2, .ref 101), (1, .ref 0), (0, .retAddr 9)]) (st' := [.ref 3466]) (by decide +kernel) rfl rfl ?_
          refine ab_fin.s1i (i := .iconst 0) (k := 1) (pc' := 439) (n := 0) (by decide +kernel) rfl (by decide +kernel) rfl ?_
          refine ab_fin.lald (v := 0) (pc' := 440) (by decide +kernel) (ab_ov_get (lt0 3466 (by decide)) rfl) (ab_bd (n := 1) (by rw [List.length_set, List.length_replicate]) (by decide +kernel)) rfl rfl ?_
          refine ab_fin.s2 (i := .iload 6) (k := 2) (pc' := 442) (lv' := [(6, .int 0), (5, .int 0), (4, .int 0), (3, .ref 3466), (2, .ref 101), (1, .ref 0), (0, .retAddr 9)]) (st' := [.int 0, .long 0]) (by decide +kernel) rfl rfl ?_
          refine ab_fin.s1l (i := .i2l) (k := 1) (pc' := 443) (n := 0) (by decide +kernel) rfl (by decide +kernel) rfl ?_
          refine ab_fin.s1i (i := .lcmp) (k := 1) (pc' := 444) (n := 0) (by decide +kernel) rfl (by decide +kernel) rfl ?_
          refine ab_fin.brT (c := (0 : Int32) = 0) (i := .ifCond .eq 5) (off := 5) (t := 449) (r := []) (by decide +kernel) rfl (by decide +kernel) (by decide +kernel) ?_
          refine ab_fin.s3 (i := .goto 641) (k := 3) (t := 1090) (st' := []) (by decide +kernel) (ab_goto (by decide +kernel)) ?_
          refine ab_fin.inc (i := .iinc 4 6) (k := 3) (pc' := 1093) (j := 4) (n := 6) (lv' := [(6, .int 0), (5, .int 0), (3, .ref 3466), (2, .ref 101), (1, .ref 0), (0, .retAddr 9)]) (by decide +kernel) rfl (by decide +kernel) rfl ?_
          refine ab_fin.s3 (i := .goto (-1070)) (k := 3) (t := 23) (st' := []) (by decide +kernel) (ab_goto (by decide +kernel)) ?_
          refine ab_fin.s2 (i := .iload 4) (k := 2) (pc' := 25) (lv' := [(4, .int 6), (6, .int 0), (5, .int 0), (3, .ref 3466), (2, .ref 101), (1, .ref 0), (0, .retAddr 9)]) (st' := [.int 6]) (by decide +kernel) rfl rfl ?_
          refine ab_fin.s2 (i := .aload_n 0) (k := 1) (pc' := 26) (lv' := [(4, .int 6), (6, .int 0), (5, .int 0), (3, .ref 3466), (2, .ref 101), (1, .ref 0), (0, .retAddr 9)]) (st' := [.retAddr 9, .int 6]) (by decide +kernel) rfl rfl ?_
          refine ab_fin.s8 (i := .arraylength) (k := 1) (pc' := 27) (st' := [.int 6, .int 6]) (by decide +kernel) rfl rfl rfl rfl ?_
          refine ab_fin.s1i (i := .bipush 6) (k := 2) (pc' := 29) (n := 6) (by decide +kernel) rfl (by decide +kernel) rfl ?_
          refine ab_fin.s1i (i := .isub) (k := 1) (pc' := 30) (n := 0) (by decide +kernel) rfl (by decide +kernel) rfl ?_
          refine ab_fin.brT (c := (0 : Int32) < (6 : Int32)) (i := .if_icmp .gt 1066) (off := 1066) (t := 1096) (r := []) (by decide +kernel) rfl (by decide +kernel) (by decide +kernel) ?_
          refine ab_fin.s1i (i := .iconst 1) (k := 1) (pc' := 1097) (n := 1) (by decide +kernel) rfl (by decide +kernel) rfl ?_
          refine ab_fin.ret (i := .ireturn) (k := 1) (some (.int 1)) (by decide +kernel) rfl ?_
          refine ⟨rfl, ?_, ?_⟩
          · rw [ab_ov_len, hl]; decide
          · refine Nat.le_trans (ab_ov_z _ _) ?_
            simp only [List.map, List.sum_cons, List.sum_nil, ab_z1, ab_len, List.length_set, List.length_replicate, List.length_cons, List.length_nil, p1_n1, p1_n101]
            omega
  · refine ab_fin.s2 (i := .iload_n 2) (k := 1) (pc' := 5) (lv' := [(0, .ref 0), (1, .int ((xs 1))), (2, .int ((xs 2)))]) (st' := [.int ((xs 2))]) (by decide +kernel) rfl rfl ?_
    refine ab_fin.br (c := (xs 2) < 0) (i := .ifCond .lt 21) (off := 21) (t := 26) (pc' := 8) (r := []) (by decide +kernel) rfl (by decide +kernel) rfl (fun q8 => ?_) (fun q8 => ?_)
    · refine ab_fin.s2 (i := .iload_n 1) (k := 1) (pc' := 27) (lv' := [(0, .ref 0), (1, .int ((xs 1))), (2, .int ((xs 2)))]) (st' := [.int ((xs 1))]) (by decide +kernel) rfl rfl ?_
      refine ab_fin.s1i (i := .iconst 1) (k := 1) (pc' := 28) (n := 1) (by decide +kernel) rfl (by decide +kernel) rfl ?_
      refine ab_fin.brT (c := ¬ (xs 1) = (1 : Int32)) (i := .if_icmp .ne 44) (off := 44) (t := 72) (r := []) (by decide +kernel) rfl (by decide +kernel) (by have l0 : (0 : Int32).toInt = 0 := rfl; have l1 : (1 : Int32).toInt = 1 := rfl; simp only [← Int32.toInt_inj, Int32.lt_iff_toInt_lt, Int32.le_iff_toInt_le, l0, l1] at q1 q8 ⊢; omega) ?_
      refine ab_fin.s2 (i := .iload_n 1) (k := 1) (pc' := 73) (lv' := [(0, .ref 0), (1, .int ((xs 1))), (2, .int ((xs 2)))]) (st' := [.int ((xs 1))]) (by decide +kernel) rfl rfl ?_
      refine ab_fin.s1i (i := .iconst 2) (k := 1) (pc' := 74) (n := 2) (by decide +kernel) rfl (by decide +kernel) rfl ?_
      refine ab_fin.brT (c := ¬ (xs 1) = (2 : Int32)) (i := .if_icmp .ne 27) (off := 27) (t := 101) (r := []) (by decide +kernel) rfl (by decide +kernel) (by have l0 : (0 : Int32).toInt = 0 := rfl; have l2 : (2 : Int32).toInt = 2 := rfl; simp only [← Int32.toInt_inj, Int32.lt_iff_toInt_lt, Int32.le_iff_toInt_le, l0, l2] at q1 q8 ⊢; omega) ?_
      refine ab_fin.thrN (i := .new 99) (k := 3) (cls := "java/lang/IllegalArgumentException") (n := 3467) (by decide +kernel) (by decide +kernel) (fun ix q => by cases q; rfl) (by decide) (Nat.le_of_ble_eq_true rfl) ((ab_ov_len _ _).trans hl) (ab_ov_app (by rw [hl]; decide +kernel)) ?_
      obtain ⟨h1, e1⟩ : ∃ h2 : List ab_E, h2 = h ++ [.inl 6] := ⟨_, rfl⟩
      have hl1 : h1.length = 3468 := by rw [e1, List.length_append, hl]; rfl
      have lt1 : ∀ a, a < 3468 → a < h1.length := fun a q => by rw [hl1]; exact q
      have hz1 : ab_z h1 = ab_z h + 6 := by rw [e1, ab_z_app]; rfl
      have f1_0 := (show h1[0]? = h[0]? by rw [e1, List.getElem?_append_left (by rw [hl]; decide)]).trans f_0
      have f1_1 := (show h1[1]? = h[1]? by rw [e1, List.getElem?_append_left (by rw [hl]; decide)]).trans f_1
      have f1_101 := (show h1[101]? = h[101]? by rw [e1, List.getElem?_append_left (by rw [hl]; decide)]).trans f_101
      have f1_2170 := (show h1[2170]? = h[2170]? by rw [e1, List.getElem?_append_left (by rw [hl]; decide)]).trans f_2170
      have f1_3466 := (show h1[3466]? = h[3466]? by rw [e1, List.getElem?_append_left (by rw [hl]; decide)]).trans f_3466
      rw [← e1]
      refine ab_bk.catch (hp := 13) (by decide +kernel) rfl ?_
      refine ab_fin.s2 (i := .astore 4) (k := 2) (pc' := 15) (lv' := [(4, .ref 3467), (0, .ref 0), (1, .int ((xs 1))), (2, .int ((xs 2))), (3, .ref 3466)]) (st' := []) (by decide +kernel) rfl rfl ?_
      refine ab_fin.s1i (i := .iconst 1) (k := 1) (pc' := 16) (n := 1) (by decide +kernel) rfl (by decide +kernel) rfl ?_
      refine ab_fin.ret (i := .ireturn) (k := 1) (some (.int 1)) (by decide +kernel) rfl ?_
      refine ab_bk.back (pc' := 401) (st' := [.int 1]) rfl rfl ?_
      refine ab_fin.s2 (i := .istore 5) (k := 2) (pc' := 403) (lv' := [(5, .int 1), (4, .int 0), (3, .ref 3466), (2, .ref 101), (1, .ref 0), (0, .retAddr 9)]) (st' := []) (by decide +kernel) rfl rfl ?_
      refine ab_fin.s2 (i := .aload_n 2) (k := 1) (pc' := 404) (lv' := [(5, .int 1), (4, .int 0), (3, .ref 3466), (2, .ref 101), (1, .ref 0), (0, .retAddr 9)]) (st' := [.ref 101]) (by decide +kernel) rfl rfl ?_
      refine ab_fin.s2 (i := .aload_n 0) (k := 1) (pc' := 405) (lv' := [(5, .int 1), (4, .int 0), (3, .ref 3466), (2, .ref 101), (1, .ref 0), (0, .retAddr 9)]) (st' := [.retAddr 9, .ref 101]) (by decide +kernel) rfl rfl ?_
      refine ab_fin.s2 (i := .iload 4) (k := 2) (pc' := 407) (lv' := [(5, .int 1), (4, .int 0), (3, .ref 3466), (2, .ref 101), (1, .ref 0), (0, .retAddr 9)]) (st' := [.int 0, .retAddr 9, .ref 101]) (by decide +kernel) rfl rfl ?_
      refine ab_fin.s1i (i := .iconst 1) (k := 1) (pc' := 408) (n := 1) (by decide +kernel) rfl (by decide +kernel) rfl ?_
      refine ab_fin.s1i (i := .iadd) (k := 1) (pc' := 409) (n := 1) (by decide +kernel) rfl (by decide +kernel) rfl ?_
      refine ab_fin.s8 (i := .iaload) (k := 1) (pc' := 410) (st' := [.int ((xs 1)), .ref 101]) (by decide +kernel) (ab_x0 rfl (by decide +kernel) rfl) rfl rfl rfl ?_
      refine ab_fin.s2 (i := .aload_n 0) (k := 1) (pc' := 411) (lv' := [(5, .int 1), (4, .int 0), (3, .ref 3466), (2, .ref 101), (1, .ref 0), (0, .retAddr 9)]) (st' := [.retAddr 9, .int ((xs 1)), .ref 101]) (by decide +kernel) rfl rfl ?_
      refine ab_fin.s2 (i := .iload 4) (k := 2) (pc' := 413) (lv' := [(5, .int 1), (4, .int 0), (3, .ref 3466), (2, .ref 101), (1, .ref 0), (0, .retAddr 9)]) (st' := [.int 0, .retAddr 9, .int ((xs 1)), .ref 101]) (by decide +kernel) rfl rfl ?_
      refine ab_fin.s1i (i := .iconst 2) (k := 1) (pc' := 414) (n := 2) (by decide +kernel) rfl (by decide +kernel) rfl ?_
      refine ab_fin.s1i (i := .iadd) (k := 1) (pc' := 415) (n := 2) (by decide +kernel) rfl (by decide +kernel) rfl ?_
      refine ab_fin.s8 (i := .iaload) (k := 1) (pc' := 416) (st' := [.int ((xs 2)), .int ((xs 1)), .ref 101]) (by decide +kernel) (ab_x0 rfl (by decide +kernel) rfl) rfl rfl rfl ?_
      refine ab_fin.call (i := .invokevirtual 100) (k := 3) (y := 5999) (As := [.ref 101, .int ((xs 1)), .int ((xs 2))]) (rest := []) (M' := (mX23_set, [])) (by decide +kernel) (ab_cv rfl rfl (ab_ov_no f1_101 rfl) ⟨(Nat.le_of_ble_eq_true rfl), (Nat.le_of_ble_eq_true rfl)⟩ rfl) rfl (Nat.le_of_ble_eq_true rfl) ?_
      show ab_fin _ _ _ _ 0 [(0, .ref 101), (1, .int ((xs 1))), (2, .int ((xs 2)))] [] _ _
      refine ab_fin.s2 (i := .aload_n 0) (k := 1) (pc' := 1) (lv' := [(0, .ref 101), (1, .int ((xs 1))), (2, .int ((xs 2)))]) (st' := [.ref 101]) (by decide +kernel) rfl rfl ?_
      refine ab_fin.s1i (i := .iconst 0) (k := 1) (pc' := 2) (n := 0) (by decide +kernel) rfl (by decide +kernel) rfl ?_
      refine ab_fin.putf (ix := 1000) (h1 := ab_ov h1 [(101, .inr (.inr (24, (p1_o101).set 110 (.int 0))))]) (pc' := 5) (by decide +kernel) rfl (ab_ov_no f1_101 rfl) (ab_klt (n := 115) (by rw [p1_n101]) (by decide)) rfl rfl (ab_ov_set rfl) rfl ?_
      refine ab_fin.s2 (i := .iload_n 1) (k := 1) (pc' := 6) (lv' := [(0, .ref 101), (1, .int ((xs 1))), (2, .int ((xs 2)))]) (st' := [.int ((xs 1))]) (by decide +kernel) rfl rfl ?_
      refine ab_fin.brF (c := ¬ (xs 1) = 0) (i := .ifCond .ne 25) (off := 25) (t := 31) (pc' := 9) (r := []) (by decide +kernel) rfl (by decide +kernel) rfl (by have l0 : (0 : Int32).toInt = 0 := rfl; simp only [← Int32.toInt_inj, Int32.lt_iff_toInt_lt, Int32.le_iff_toInt_le, l0] at q1 q8 ⊢; omega) ?_
      refine ab_fin.s2 (i := .iload_n 2) (k := 1) (pc' := 10) (lv' := [(0, .ref 101), (1, .int ((xs 1))), (2, .int ((xs 2)))]) (st' := [.int ((xs 2))]) (by decide +kernel) rfl rfl ?_
      refine ab_fin.brT (c := (xs 2) < 0) (i := .ifCond .lt 21) (off := 21) (t := 31) (r := []) (by decide +kernel) rfl (by decide +kernel) (by have l0 : (0 : Int32).toInt = 0 := rfl; simp only [← Int32.toInt_inj, Int32.lt_iff_toInt_lt, Int32.le_iff_toInt_le, l0] at q1 q8 ⊢; omega) ?_
      refine ab_fin.s2 (i := .iload_n 1) (k := 1) (pc' := 32) (lv' := [(0, .ref 101), (1, .int ((xs 1))), (2, .int ((xs 2)))]) (st' := [.int ((xs 1))]) (by decide +kernel) rfl rfl ?_
      refine ab_fin.s1i (i := .iconst 1) (k := 1) (pc' := 33) (n := 1) (by decide +kernel) rfl (by decide +kernel) rfl ?_
      refine ab_fin.brT (c := ¬ (xs 1) = (1 : Int32)) (i := .if_icmp .ne 29) (off := 29) (t := 62) (r := []) (by decide +kernel) rfl (by decide +kernel) (by have l0 : (0 : Int32).toInt = 0 := rfl; have l1 : (1 : Int32).toInt = 1 := rfl; simp only [← Int32.toInt_inj, Int32.lt_iff_toInt_lt, Int32.le_iff_toInt_le, l0, l1] at q1 q8 ⊢; omega) ?_
      refine ab_fin.s2 (i := .iload_n 1) (k := 1) (pc' := 63) (lv' := [(0, .ref 101), (1, .int ((xs 1))), (2, .int ((xs 2)))]) (st' := [.int ((xs 1))]) (by decide +kernel) rfl rfl ?_
      refine ab_fin.s1i (i := .iconst 2) (k := 1) (pc' := 64) (n := 2) (by decide +kernel) rfl (by decide +kernel) rfl ?_
      refine ab_fin.brT (c := ¬ (xs 1) = (2 : Int32)) (i := .if_icmp .ne 28) (off := 28) (t := 92) (r := []) (by decide +kernel) rfl (by decide +kernel) (by have l0 : (0 : Int32).toInt = 0 := rfl; have l2 : (2 : Int32).toInt = 2 := rfl; simp only [← Int32.toInt_inj, Int32.lt_iff_toInt_lt, Int32.le_iff_toInt_le, l0, l2] at q1 q8 ⊢; omega) ?_
      refine ab_fin.s2 (i := .aload_n 0) (k := 1) (pc' := 93) (lv' := [(0, .ref 101), (1, .int ((xs 1))), (2, .int ((xs 2)))]) (st' := [.ref 101]) (by decide +kernel) rfl rfl ?_
      refine ab_fin.s1i (i := .iconst 1) (k := 1) (pc' := 94) (n := 1) (by decide +kernel) rfl (by decide +kernel) rfl ?_
      refine ab_fin.call (i := .invokevirtual 1003) (k := 3) (y := 5993) (As := [.ref 101, .int 1]) (rest := []) (M' := (mX23_no_, [])) (by decide +kernel) (ab_cv rfl rfl (ab_ov_get (lt1 101 (by decide)) rfl) ⟨(Nat.le_of_ble_eq_true rfl), (Nat.le_of_ble_eq_true rfl)⟩ rfl) rfl (Nat.le_of_ble_eq_true rfl) ?_
      show ab_fin _ _ _ _ 0 [(0, .ref 101), (1, .int 1)] [] _ _
      refine ab_fin.s2 (i := .aload_n 0) (k := 1) (pc' := 1) (lv' := [(0, .ref 101), (1, .int 1)]) (st' := [.ref 101]) (by decide +kernel) rfl rfl ?_
      refine ab_fin.s2 (i := .iload_n 1) (k := 1) (pc' := 2) (lv' := [(0, .ref 101), (1, .int 1)]) (st' := [.int 1, .ref 101]) (by decide +kernel) rfl rfl ?_
      refine ab_fin.putf (ix := 1000) (h1 := ab_ov h1 [(101, .inr (.inr (24, (p1_o101).set 110 (.int 1))))]) (pc' := 5) (by decide +kernel) rfl (ab_ov_get (lt1 101 (by decide)) rfl) (ab_klt (n := 115) (by rw [List.length_set, p1_n101]) (by decide)) rfl rfl (ab_ov_set rfl) rfl ?_
      refine ab_fin.s1i (i := .iconst 0) (k := 1) (pc' := 6) (n := 0) (by decide +kernel) rfl (by decide +kernel) rfl ?_
      refine ab_fin.ret (i := .ireturn) (k := 1) (some (.int 0)) (by decide +kernel) rfl ?_
      refine ab_bk.back (pc' := 97) (st' := [.int 0]) rfl rfl ?_
      refine ab_fin.ret (i := .ireturn) (k := 1) (some (.int 0)) (by decide +kernel) rfl ?_
      refine ab_bk.back (pc' := 419) (st' := [.int 0]) rfl rfl ?_
      refine ab_fin.s2 (i := .istore 6) (k := 2) (pc' := 421) (lv' := [(6, .int 0), (5, .int 1), (4, .int 0), (3, .ref 3466), (2, .ref 101), (1, .ref 0), (0, .retAddr 9)]) (st' := []) (by decide +kernel) rfl rfl ?_
      refine ab_fin.s2 (i := .aload_n 2) (k := 1) (pc' := 422) (lv' := [(6, .int 0), (5, .int 1), (4, .int 0), (3, .ref 3466), (2, .ref 101), (1, .ref 0), (0, .retAddr 9)]) (st' := [.ref 101]) (by decide +kernel) rfl rfl ?_
      refine ab_fin.call (i := .invokevirtual 75) (k := 3) (y := 5992) (As := [.ref 101]) (rest := []) (M' := (mX23_thrown, [])) (by decide +kernel) (ab_cv rfl rfl (ab_ov_get (lt1 101 (by decide)) rfl) ⟨(Nat.le_of_ble_eq_true rfl), (Nat.le_of_ble_eq_true rfl)⟩ rfl) rfl (Nat.le_of_ble_eq_true rfl) ?_
      show ab_fin _ _ _ _ 0 [(0, .ref 101)] [] _ _
      refine ab_fin.s2 (i := .aload_n 0) (k := 1) (pc' := 1) (lv' := [(0, .ref 101)]) (st' := [.ref 101]) (by decide +kernel) rfl rfl ?_
      refine ab_fin.getf (ix := 1000) (k := 110) (v := .int 1) (pc' := 4) (by decide +kernel) rfl (ab_ov_get (lt1 101 (by decide)) rfl) rfl rfl ?_
      refine ab_fin.ret (i := .ireturn) (k := 1) (some (.int 1)) (by decide +kernel) rfl ?_
      refine ab_bk.back (pc' := 425) (st' := [.int 1]) rfl rfl ?_
      refine ab_fin.s2 (i := .iload 5) (k := 2) (pc' := 427) (lv' := [(6, .int 0), (5, .int 1), (4, .int 0), (3, .ref 3466), (2, .ref 101), (1, .ref 0), (0, .retAddr 9)]) (st' := [.int 1, .int 1]) (by decide +kernel) rfl rfl ?_
      refine ab_fin.brT (c := (1 : Int32) = (1 : Int32)) (i := .if_icmp .eq 5) (off := 5) (t := 432) (r := []) (by decide +kernel) rfl (by decide +kernel) (by decide +kernel) ?_
      refine ab_fin.s2 (i := .iload 5) (k := 2) (pc' := 434) (lv' := [(6, .int 0), (5, .int 1), (4, .int 0), (3, .ref 3466), (2, .ref 101), (1, .ref 0), (0, .retAddr 9)]) (st' := [.int 1]) (by decide +kernel) rfl rfl ?_
      refine ab_fin.brT (c := ¬ (1 : Int32) = 0) (i := .ifCond .ne 15) (off := 15) (t := 449) (r := []) (by decide +kernel) rfl (by decide +kernel) (by decide +kernel) ?_
      refine ab_fin.s3 (i := .goto 641) (k := 3) (t := 1090) (st' := []) (by decide +kernel) (ab_goto (by decide +kernel)) ?_
      refine ab_fin.inc (i := .iinc 4 6) (k := 3) (pc' := 1093) (j := 4) (n := 6) (lv' := [(6, .int 0), (5, .int 1), (3, .ref 3466), (2, .ref 101), (1, .ref 0), (0, .retAddr 9)]) (by decide +kernel) rfl (by decide +kernel) rfl ?_
      refine ab_fin.s3 (i := .goto (-1070)) (k := 3) (t := 23) (st' := []) (by decide +kernel) (ab_goto (by decide +kernel)) ?_
      refine ab_fin.s2 (i := .iload 4) (k := 2) (pc' := 25) (lv' := [(4, .int 6), (6, .int 0), (5, .int 1), (3, .ref 3466), (2, .ref 101), (1, .ref 0), (0, .retAddr 9)]) (st' := [.int 6]) (by decide +kernel) rfl rfl ?_
      refine ab_fin.s2 (i := .aload_n 0) (k := 1) (pc' := 26) (lv' := [(4, .int 6), (6, .int 0), (5, .int 1), (3, .ref 3466), (2, .ref 101), (1, .ref 0), (0, .retAddr 9)]) (st' := [.retAddr 9, .int 6]) (by decide +kernel) rfl rfl ?_
      refine ab_fin.s8 (i := .arraylength) (k := 1) (pc' := 27) (st' := [.int 6, .int 6]) (by decide +kernel) rfl rfl rfl rfl ?_
      refine ab_fin.s1i (i := .bipush 6) (k := 2) (pc' := 29) (n := 6) (by decide +kernel) rfl (by decide +kernel) rfl ?_
      refine ab_fin.s1i (i := .isub) (k := 1) (pc' := 30) (n := 0) (by decide +kernel) rfl (by decide +kernel) rfl ?_
      refine ab_fin.brT (c := (0 : Int32) < (6 : Int32)) (i := .if_icmp .gt 1066) (off := 1066) (t := 1096) (r := []) (by decide +kernel) rfl (by decide +kernel) (by decide +kernel) ?_
      refine ab_fin.s1i (i := .iconst 1) (k := 1) (pc' := 1097) (n := 1) (by decide +kernel) rfl (by decide +kernel) rfl ?_
      refine ab_fin.ret (i := .ireturn) (k := 1) (some (.int 1)) (by decide +kernel) rfl ?_
      refine ⟨rfl, ?_, ?_⟩
      · rw [ab_ov_len, hl1]; decide
      · refine Nat.le_trans (ab_ov_z _ _) ?_
        simp only [List.map, List.sum_cons, List.sum_nil, ab_z1, ab_len, List.length_set, List.length_replicate, List.length_cons, List.length_nil, p1_n101]
        have z1 : ab_z h1 = _ := hz1
        omega
    · refine ab_fin.s2 (i := .iload_n 2) (k := 1) (pc' := 9) (lv' := [(0, .ref 0), (1, .int ((xs 1))), (2, .int ((xs 2)))]) (st' := [.int ((xs 2))]) (by decide +kernel) rfl rfl ?_
      refine ab_fin.s1i (i := .iconst 3) (k := 1) (pc' := 10) (n := 3) (by decide +kernel) rfl (by decide +kernel) rfl ?_
      refine ab_fin.br (c := (3 : Int32) < (xs 2)) (i := .if_icmp .gt 16) (off := 16) (t := 26) (pc' := 13) (r := []) (by decide +kernel) rfl (by decide +kernel) rfl (fun q9 => ?_) (fun q9 => ?_)
      · refine ab_fin.s2 (i := .iload_n 1) (k := 1) (pc' := 27) (lv' := [(0, .ref 0), (1, .int ((xs 1))), (2, .int ((xs 2)))]) (st' := [.int ((xs 1))]) (by decide +kernel) rfl rfl ?_
        refine ab_fin.s1i (i := .iconst 1) (k := 1) (pc' := 28) (n := 1) (by decide +kernel) rfl (by decide +kernel) rfl ?_
        refine ab_fin.brT (c := ¬ (xs 1) = (1 : Int32)) (i := .if_icmp .ne 44) (off := 44) (t := 72) (r := []) (by decide +kernel) rfl (by decide +kernel) (by have l0 : (0 : Int32).toInt = 0 := rfl; have l1 : (1 : Int32).toInt = 1 := rfl; have l3 : (3 : Int32).toInt = 3 := rfl; simp only [← Int32.toInt_inj, Int32.lt_iff_toInt_lt, Int32.le_iff_toInt_le, l0, l1, l3] at q1 q8 q9 ⊢; omega) ?_
        refine ab_fin.s2 (i := .iload_n 1) (k := 1) (pc' := 73) (lv' := [(0, .ref 0), (1, .int ((xs 1))), (2, .int ((xs 2)))]) (st' := [.int ((xs 1))]) (by decide +kernel) rfl rfl ?_
        refine ab_fin.s1i (i := .iconst 2) (k := 1) (pc' := 74) (n := 2) (by decide +kernel) rfl (by decide +kernel) rfl ?_
        refine ab_fin.brT (c := ¬ (xs 1) = (2 : Int32)) (i := .if_icmp .ne 27) (off := 27) (t := 101) (r := []) (by decide +kernel) rfl (by decide +kernel) (by have l0 : (0 : Int32).toInt = 0 := rfl; have l2 : (2 : Int32).toInt = 2 := rfl; have l3 : (3 : Int32).toInt = 3 := rfl; simp only [← Int32.toInt_inj, Int32.lt_iff_toInt_lt, Int32.le_iff_toInt_le, l0, l2, l3] at q1 q8 q9 ⊢; omega) ?_
        refine ab_fin.thrN (i := .new 99) (k := 3) (cls := "java/lang/IllegalArgumentException") (n := 3467) (by decide +kernel) (by decide +kernel) (fun ix q => by cases q; rfl) (by decide) (Nat.le_of_ble_eq_true rfl) ((ab_ov_len _ _).trans hl) (ab_ov_app (by rw [hl]; decide +kernel)) ?_
        obtain ⟨h1, e1⟩ : ∃ h2 : List ab_E, h2 = h ++ [.inl 6] := ⟨_, rfl⟩
        have hl1 : h1.length = 3468 := by rw [e1, List.length_append, hl]; rfl
        have lt1 : ∀ a, a < 3468 → a < h1.length := fun a q => by rw [hl1]; exact q
        have hz1 : ab_z h1 = ab_z h + 6 := by rw [e1, ab_z_app]; rfl
        have f1_0 := (show h1[0]? = h[0]? by rw [e1, List.getElem?_append_left (by rw [hl]; decide)]).trans f_0
        have f1_1 := (show h1[1]? = h[1]? by rw [e1, List.getElem?_append_left (by rw [hl]; decide)]).trans f_1
        have f1_101 := (show h1[101]? = h[101]? by rw [e1, List.getElem?_append_left (by rw [hl]; decide)]).trans f_101
        have f1_2170 := (show h1[2170]? = h[2170]? by rw [e1, List.getElem?_append_left (by rw [hl]; decide)]).trans f_2170
        have f1_3466 := (show h1[3466]? = h[3466]? by rw [e1, List.getElem?_append_left (by rw [hl]; decide)]).trans f_3466
        rw [← e1]
        refine ab_bk.catch (hp := 13) (by decide +kernel) rfl ?_
        refine ab_fin.s2 (i := .astore 4) (k := 2) (pc' := 15) (lv' := [(4, .ref 3467), (0, .ref 0), (1, .int ((xs 1))), (2, .int ((xs 2))), (3, .ref 3466)]) (st' := []) (by decide +kernel) rfl rfl ?_
        refine ab_fin.s1i (i := .iconst 1) (k := 1) (pc' := 16) (n := 1) (by decide +kernel) rfl (by decide +kernel) rfl ?_
        refine ab_fin.ret (i := .ireturn) (k := 1) (some (.int 1)) (by decide +kernel) rfl ?_
        refine ab_bk.back (pc' := 401) (st' := [.int 1]) rfl rfl ?_
        refine ab_fin.s2 (i := .istore 5) (k := 2) (pc' := 403) (lv' := [(5, .int 1), (4, .int 0), (3, .ref 3466), (2, .ref 101), (1, .ref 0), (0, .retAddr 9)]) (st' := []) (by decide +kernel) rfl rfl ?_
        refine ab_fin.s2 (i := .aload_n 2) (k := 1) (pc' := 404) (lv' := [(5, .int 1), (4, .int 0), (3, .ref 3466), (2, .ref 101), (1, .ref 0), (0, .retAddr 9)]) (st' := [.ref 101]) (by decide +kernel) rfl rfl ?_
        refine ab_fin.s2 (i := .aload_n 0) (k := 1) (pc' := 405) (lv' := [(5, .int 1), (4, .int 0), (3, .ref 3466), (2, .ref 101), (1, .ref 0), (0, .retAddr 9)]) (st' := [.retAddr 9, .ref 101]) (by decide +kernel) rfl rfl ?_
        refine ab_fin.s2 (i := .iload 4) (k := 2) (pc' := 407) (lv' := [(5, .int 1), (4, .int 0), (3, .ref 3466), (2, .ref 101), (1, .ref 0), (0, .retAddr 9)]) (st' := [.int 0, .retAddr 9, .ref 101]) (by decide +kernel) rfl rfl ?_
        refine ab_fin.s1i (i := .iconst 1) (k := 1) (pc' := 408) (n := 1) (by decide +kernel) rfl (by decide +kernel) rfl ?_
        refine ab_fin.s1i (i := .iadd) (k := 1) (pc' := 409) (n := 1) (by decide +kernel) rfl (by decide +kernel) rfl ?_
        refine ab_fin.s8 (i := .iaload) (k := 1) (pc' := 410) (st' := [.int ((xs 1)), .ref 101]) (by decide +kernel) (ab_x0 rfl (by decide +kernel) rfl) rfl rfl rfl ?_
        refine ab_fin.s2 (i := .aload_n 0) (k := 1) (pc' := 411) (lv' := [(5, .int 1), (4, .int 0), (3, .ref 3466), (2, .ref 101), (1, .ref 0), (0, .retAddr 9)]) (st' := [.retAddr 9, .int ((xs 1)), .ref 101]) (by decide +kernel) rfl rfl ?_
        refine ab_fin.s2 (i := .iload 4) (k := 2) (pc' := 413) (lv' := [(5, .int 1), (4, .int 0), (3, .ref 3466), (2, .ref 101), (1, .ref 0), (0, .retAddr 9)]) (st' := [.int 0, .retAddr 9, .int ((xs 1)), .ref 101]) (by decide +kernel) rfl rfl ?_
        refine ab_fin.s1i (i := .iconst 2) (k := 1) (pc' := 414) (n := 2) (by decide +kernel) rfl (by decide +kernel) rfl ?_
        refine ab_fin.s1i (i := .iadd) (k := 1) (pc' := 415) (n := 2) (by decide +kernel) rfl (by decide +kernel) rfl ?_
        refine ab_fin.s8 (i := .iaload) (k := 1) (pc' := 416) (st' := [.int ((xs 2)), .int ((xs 1)), .ref 101]) (by decide +kernel) (ab_x0 rfl (by decide +kernel) rfl) rfl rfl rfl ?_
        refine ab_fin.call (i := .invokevirtual 100) (k := 3) (y := 5999) (As := [.ref 101, .int ((xs 1)), .int ((xs 2))]) (rest := []) (M' := (mX23_set, [])) (by decide +kernel) (ab_cv rfl rfl (ab_ov_no f1_101 rfl) ⟨(Nat.le_of_ble_eq_true rfl), (Nat.le_of_ble_eq_true rfl)⟩ rfl) rfl (Nat.le_of_ble_eq_true rfl) ?_
        show ab_fin _ _ _ _ 0 [(0, .ref 101), (1, .int ((xs 1))), (2, .int ((xs 2)))] [] _ _
        refine ab_fin.s2 (i := .aload_n 0) (k := 1) (pc' := 1) (lv' := [(0, .ref 101), (1, .int ((xs 1))), (2, .int ((xs 2)))]) (st' := [.ref 101]) (by decide +kernel) rfl rfl ?_
        refine ab_fin.s1i (i := .iconst 0) (k := 1) (pc' := 2) (n := 0) (by decide +kernel) rfl (by decide +kernel) rfl ?_
        refine ab_fin.putf (ix := 1000) (h1 := ab_ov h1 [(101, .inr (.inr (24, (p1_o101).set 110 (.int 0))))]) (pc' := 5) (by decide +kernel) rfl (ab_ov_no f1_101 rfl) (ab_klt (n := 115) (by rw [p1_n101]) (by decide)) rfl rfl (ab_ov_set rfl) rfl ?_
        refine ab_fin.s2 (i := .iload_n 1) (k := 1) (pc' := 6) (lv' := [(0, .ref 101), (1, .int ((xs 1))), (2, .int ((xs 2)))]) (st' := [.int ((xs 1))]) (by decide +kernel) rfl rfl ?_
        refine ab_fin.brF (c := ¬ (xs 1) = 0) (i := .ifCond .ne 25) (off := 25) (t := 31) (pc' := 9) (r := []) (by decide +kernel) rfl (by decide +kernel) rfl (by have l0 : (0 : Int32).toInt = 0 := rfl; have l3 : (3 : Int32).toInt = 3 := rfl; simp only [← Int32.toInt_inj, Int32.lt_iff_toInt_lt, Int32.le_iff_toInt_le, l0, l3] at q1 q8 q9 ⊢; omega) ?_
        refine ab_fin.s2 (i := .iload_n 2) (k := 1) (pc' := 10) (lv' := [(0, .ref 101), (1, .int ((xs 1))), (2, .int ((xs 2)))]) (st' := [.int ((xs 2))]) (by decide +kernel) rfl rfl ?_
        refine ab_fin.brF (c := (xs 2) < 0) (i := .ifCond .lt 21) (off := 21) (t := 31) (pc' := 13) (r := []) (by decide +kernel) rfl (by decide +kernel) rfl (by have l0 : (0 : Int32).toInt = 0 := rfl; have l3 : (3 : Int32).toInt = 3 := rfl; simp only [← Int32.toInt_inj, Int32.lt_iff_toInt_lt, Int32.le_iff_toInt_le, l0, l3] at q1 q8 q9 ⊢; omega) ?_
        refine ab_fin.s2 (i := .iload_n 2) (k := 1) (pc' := 14) (lv' := [(0, .ref 101), (1, .int ((xs 1))), (2, .int ((xs 2)))]) (st' := [.int ((xs 2))]) (by decide +kernel) rfl rfl ?_
        refine ab_fin.s1i (i := .iconst 3) (k := 1) (pc' := 15) (n := 3) (by decide +kernel) rfl (by decide +kernel) rfl ?_
        refine ab_fin.brT (c := (3 : Int32) < (xs 2)) (i := .if_icmp .gt 16) (off := 16) (t := 31) (r := []) (by decide +kernel) rfl (by decide +kernel) (by have l0 : (0 : Int32).toInt = 0 := rfl; have l3 : (3 : Int32).toInt = 3 := rfl; simp only [← Int32.toInt_inj, Int32.lt_iff_toInt_lt, Int32.le_iff_toInt_le, l0, l3] at q1 q8 q9 ⊢; omega) ?_
        refine ab_fin.s2 (i := .iload_n 1) (k := 1) (pc' := 32) (lv' := [(0, .ref 101), (1, .int ((xs 1))), (2, .int ((xs 2)))]) (st' := [.int ((xs 1))]) (by decide +kernel) rfl rfl ?_
        refine ab_fin.s1i (i := .iconst 1) (k := 1) (pc' := 33) (n := 1) (by decide +kernel) rfl (by decide +kernel) rfl ?_
        refine ab_fin.brT (c := ¬ (xs 1) = (1 : Int32)) (i := .if_icmp .ne 29) (off := 29) (t := 62) (r := []) (by decide +kernel) rfl (by decide +kernel) (by have l0 : (0 : Int32).toInt = 0 := rfl; have l1 : (1 : Int32).toInt = 1 := rfl; have l3 : (3 : Int32).toInt = 3 := rfl; simp only [← Int32.toInt_inj, Int32.lt_iff_toInt_lt, Int32.le_iff_toInt_le, l0, l1, l3] at q1 q8 q9 ⊢; omega) ?_
        refine ab_fin.s2 (i := .iload_n 1) (k := 1) (pc' := 63) (lv' := [(0, .ref 101), (1, .int ((xs 1))), (2, .int ((xs 2)))]) (st' := [.int ((xs 1))]) (by decide +kernel) rfl rfl ?_
        refine ab_fin.s1i (i := .iconst 2) (k := 1) (pc' := 64) (n := 2) (by decide +kernel) rfl (by decide +kernel) rfl ?_
        refine ab_fin.brT (c := ¬ (xs 1) = (2 : Int32)) (i := .if_icmp .ne 28) (off := 28) (t := 92) (r := []) (by decide +kernel) rfl (by decide +kernel) (by have l0 : (0 : Int32).toInt = 0 := rfl; have l2 : (2 : Int32).toInt = 2 := rfl; have l3 : (3 : Int32).toInt = 3 := rfl; simp only [← Int32.toInt_inj, Int32.lt_iff_toInt_lt, Int32.le_iff_toInt_le, l0, l2, l3] at q1 q8 q9 ⊢; omega) ?_
        refine ab_fin.s2 (i := .aload_n 0) (k := 1) (pc' := 93) (lv' := [(0, .ref 101), (1, .int ((xs 1))), (2, .int ((xs 2)))]) (st' := [.ref 101]) (by decide +kernel) rfl rfl ?_
        refine ab_fin.s1i (i := .iconst 1) (k := 1) (pc' := 94) (n := 1) (by decide +kernel) rfl (by decide +kernel) rfl ?_
        refine ab_fin.call (i := .invokevirtual 1003) (k := 3) (y := 5993) (As := [.ref 101, .int 1]) (rest := []) (M' := (mX23_no_, [])) (by decide +kernel) (ab_cv rfl rfl (ab_ov_get (lt1 101 (by decide)) rfl) ⟨(Nat.le_of_ble_eq_true rfl), (Nat.le_of_ble_eq_true rfl)⟩ rfl) rfl (Nat.le_of_ble_eq_true rfl) ?_
        show ab_fin _ _ _ _ 0 [(0, .ref 101), (1, .int 1)] [] _ _
        refine ab_fin.s2 (i := .aload_n 0) (k := 1) (pc' := 1) (lv' := [(0, .ref 101), (1, .int 1)]) (st' := [.ref 101]) (by decide +kernel) rfl rfl ?_
        refine ab_fin.s2 (i := .iload_n 1) (k := 1) (pc' := 2) (lv' := [(0, .ref 101), (1, .int 1)]) (st' := [.int 1, .ref 101]) (by decide +kernel) rfl rfl ?_
        refine ab_fin.putf (ix := 1000) (h1 := ab_ov h1 [(101, .inr (.inr (24, (p1_o101).set 110 (.int 1))))]) (pc' := 5) (by decide +kernel) rfl (ab_ov_get (lt1 101 (by decide)) rfl) (ab_klt (n := 115) (by rw [List.length_set, p1_n101]) (by decide)) rfl rfl (ab_ov_set rfl) rfl ?_
        refine ab_fin.s1i (i := .iconst 0) (k := 1) (pc' := 6) (n := 0) (by decide +kernel) rfl (by decide +kernel) rfl ?_
        refine ab_fin.ret (i := .ireturn) (k := 1) (some (.int 0)) (by decide +kernel) rfl ?_
        refine ab_bk.back (pc' := 97) (st' := [.int 0]) rfl rfl ?_
        refine ab_fin.ret (i := .ireturn) (k := 1) (some (.int 0)) (by decide +kernel) rfl ?_
        refine ab_bk.back (pc' := 419) (st' := [.int 0]) rfl rfl ?_
        refine ab_fin.s2 (i := .istore 6) (k := 2) (pc' := 421) (lv' := [(6, .int 0), (5, .int 1), (4, .int 0), (3, .ref 3466), (2, .ref 101), (1, .ref 0), (0, .retAddr 9)]) (st' := []) (by decide +kernel) rfl rfl ?_
        refine ab_fin.s2 (i := .aload_n 2) (k := 1) (pc' := 422) (lv' := [(6, .int 0), (5, .int 1), (4, .int 0), (3, .ref 3466), (2, .ref 101), (1, .ref 0), (0, .retAddr 9)]) (st' := [.ref 101]) (by decide +kernel) rfl rfl ?_
        refine ab_fin.call (i := .invokevirtual 75) (k := 3) (y := 5992) (As := [.ref 101]) (rest := []) (M' := (mX23_thrown, [])) (by decide +kernel) (ab_cv rfl rfl (ab_ov_get (lt1 101 (by decide)) rfl) ⟨(Nat.le_of_ble_eq_true rfl), (Nat.le_of_ble_eq_true rfl)⟩ rfl) rfl (Nat.le_of_ble_eq_true rfl) ?_
        show ab_fin _ _ _ _ 0 [(0, .ref 101)] [] _ _
        refine ab_fin.s2 (i := .aload_n 0) (k := 1) (pc' := 1) (lv' := [(0, .ref 101)]) (st' := [.ref 101]) (by decide +kernel) rfl rfl ?_
        refine ab_fin.getf (ix := 1000) (k := 110) (v := .int 1) (pc' := 4) (by decide +kernel) rfl (ab_ov_get (lt1 101 (by decide)) rfl) rfl rfl ?_
        refine ab_fin.ret (i := .ireturn) (k := 1) (some (.int 1)) (by decide +kernel) rfl ?_
        refine ab_bk.back (pc' := 425) (st' := [.int 1]) rfl rfl ?_
        refine ab_fin.s2 (i := .iload 5) (k := 2) (pc' := 427) (lv' := [(6, .int 0), (5, .int 1), (4, .int 0), (3, .ref 3466), (2, .ref 101), (1, .ref 0), (0, .retAddr 9)]) (st' := [.int 1, .int 1]) (by decide +kernel) rfl rfl ?_
        refine ab_fin.brT (c := (1 : Int32) = (1 : Int32)) (i := .if_icmp .eq 5) (off := 5) (t := 432) (r := []) (by decide +kernel) rfl (by decide +kernel) (by decide +kernel) ?_
        refine ab_fin.s2 (i := .iload 5) (k := 2) (pc' := 434) (lv' := [(6, .int 0), (5, .int 1), (4, .int 0), (3, .ref 3466), (2, .ref 101), (1, .ref 0), (0, .retAddr 9)]) (st' := [.int 1]) (by decide +kernel) rfl rfl ?_
        refine ab_fin.brT (c := ¬ (1 : Int32) = 0) (i := .ifCond .ne 15) (off := 15) (t := 449) (r := []) (by decide +kernel) rfl (by decide +kernel) (by decide +kernel) ?_
        refine ab_fin.s3 (i := .goto 641) (k := 3) (t := 1090) (st' := []) (by decide +kernel) (ab_goto (by decide +kernel)) ?_
        refine ab_fin.inc (i := .iinc 4 6) (k := 3) (pc' := 1093) (j := 4) (n := 6) (lv' := [(6, .int 0), (5, .int 1), (3, .ref 3466), (2, .ref 101), (1, .ref 0), (0, .retAddr 9)]) (by decide +kernel) rfl (by decide +kernel) rfl ?_
        refine ab_fin.s3 (i := .goto (-1070)) (k := 3) (t := 23) (st' := []) (by decide +kernel) (ab_goto (by decide +kernel)) ?_
        refine ab_fin.s2 (i := .iload 4) (k := 2) (pc' := 25) (lv' := [(4, .int 6), (6, .int 0), (5, .int 1), (3, .ref 3466), (2, .ref 101), (1, .ref 0), (0, .retAddr 9)]) (st' := [.int 6]) (by decide +kernel) rfl rfl ?_
        refine ab_fin.s2 (i := .aload_n 0) (k := 1) (pc' := 26) (lv' := [(4, .int 6), (6, .int 0), (5, .int 1), (3, .ref 3466), (2, .ref 101), (1, .ref 0), (0, .retAddr 9)]) (st' := [.retAddr 9, .int 6]) (by decide +kernel) rfl rfl ?_
        refine ab_fin.s8 (i := .arraylength) (k := 1) (pc' := 27) (st' := [.int 6, .int 6]) (by decide +kernel) rfl rfl rfl rfl ?_
        refine ab_fin.s1i (i := .bipush 6) (k := 2) (pc' := 29) (n := 6) (by decide +kernel) rfl (by decide +kernel) rfl ?_
        refine ab_fin.s1i (i := .isub) (k := 1) (pc' := 30) (n := 0) (by decide +kernel) rfl (by decide +kernel) rfl ?_
        refine ab_fin.brT (c := (0 : Int32) < (6 : Int32)) (i := .if_icmp .gt 1066) (off := 1066) (t := 1096) (r := []) (by decide +kernel) rfl (by decide +kernel) (by decide +kernel) ?_
        refine ab_fin.s1i (i := .iconst 1) (k := 1) (pc' := 1097) (n := 1) (by decide +kernel) rfl (by decide +kernel) rfl ?_
        refine ab_fin.ret (i := .ireturn) (k := 1) (some (.int 1)) (by decide +kernel) rfl ?_
        refine ⟨rfl, ?_, ?_⟩
        · rw [ab_ov_len, hl1]; decide
        · refine Nat.le_trans (ab_ov_z _ _) ?_
          simp only [List.map, List.sum_cons, List.sum_nil, ab_z1, ab_len, List.length_set, List.length_replicate, List.length_cons, List.length_nil, p1_n101]
          have z1 : ab_z h1 = _ := hz1
          omega
      · refine ab_fin.s2 (i := .aload_n 0) (k := 1) (pc' := 14) (lv' := [(0, .ref 0), (1, .int ((xs 1))), (2, .int ((xs 2)))]) (st' := [.ref 0]) (by decide +kernel) rfl rfl ?_
        refine ab_fin.getf (ix := 138) (k := 11) (v := .int 0) (pc' := 17) (by decide +kernel) rfl (ab_ov_no f_0 rfl) rfl rfl ?_
        refine ab_fin.s2 (i := .istore_n 3) (k := 1) (pc' := 18) (lv' := [(3, .int 0), (0, .ref 0), (1, .int ((xs 1))), (2, .int ((xs 2)))]) (st' := []) (by decide +kernel) rfl rfl ?_
        refine ab_fin.s2 (i := .aload_n 0) (k := 1) (pc' := 19) (lv' := [(3, .int 0), (0, .ref 0), (1, .int ((xs 1))), (2, .int ((xs 2)))]) (st' := [.ref 0]) (by decide +kernel) rfl rfl ?_
        refine ab_fin.s2 (i := .iload_n 2) (k := 1) (pc' := 20) (lv' := [(3, .int 0), (0, .ref 0), (1, .int ((xs 1))), (2, .int ((xs 2)))]) (st' := [.int ((xs 2)), .ref 0]) (by decide +kernel) rfl rfl ?_
        refine ab_fin.putf (ix := 138) (h1 := ab_ov h [(0, .inr (.inr (13, (p1_o0).set 11 (.int ((xs 2))))))]) (pc' := 23) (by decide +kernel) rfl (ab_ov_no f_0 rfl) (ab_klt (n := 14) (by rw [p1_n0]) (by decide)) rfl rfl (ab_ov_set rfl) rfl ?_
        refine ab_fin.s3 (i := .goto 86) (k := 3) (t := 109) (st' := []) (by decide +kernel) (ab_goto (by decide +kernel)) ?_
        refine ab_fin.s2 (i := .iload_n 3) (k := 1) (pc' := 110) (lv' := [(3, .int 0), (0, .ref 0), (1, .int ((xs 1))), (2, .int ((xs 2)))]) (st' := [.int 0]) (by decide +kernel) rfl rfl ?_
        refine ab_fin.ret (i := .ireturn) (k := 1) (some (.int 0)) (by decide +kernel) rfl ?_
        refine ab_bk.back (pc' := 8) (st' := [.int 0, .int 0, .ref 3466]) rfl rfl ?_
        refine ab_fin.s1l (i := .i2l) (k := 1) (pc' := 9) (n := 0) (by decide +kernel) rfl (by decide +kernel) rfl ?_
        refine ab_fin.last (h1 := ab_ov h [(3466, .inr (.inl (1, .inr (.inl ((List.replicate 1 0).set 0 (0)))))), (0, .inr (.inr (13, (p1_o0).set 11 (.int ((xs 2))))))]) (pc' := 10) (by decide +kernel) (ab_ov_no f_3466 rfl) (ab_bd (n := 1) (by rw [List.length_replicate]) (by decide +kernel)) (ab_ov_set rfl) rfl ?_
        refine ab_fin.s3 (i := .goto 7) (k := 3) (t := 17) (st' := []) (by decide +kernel) (ab_goto (by decide +kernel)) ?_
        refine ab_fin.s1i (i := .iconst 0) (k := 1) (pc' := 18) (n := 0) (by decide +kernel) rfl (by decide +kernel) rfl ?_
        refine ab_fin.ret (i := .ireturn) (k := 1) (some (.int 0)) (by decide +kernel) rfl ?_
        refine ab_bk.back (pc' := 401) (st' := [.int 0]) rfl rfl ?_
        refine ab_fin.s2 (i := .istore 5) (k := 2) (pc' := 403) (lv' := [(5, .int 0), (4, .int 0), (3, .ref 3466), (2, .ref 101), (1, .ref 0), (0, .retAddr 9)]) (st' := []) (by decide +kernel) rfl rfl ?_
        refine ab_fin.s2 (i := .aload_n 2) (k := 1) (pc' := 404) (lv' := [(5, .int 0), (4, .int 0), (3, .ref 3466), (2, .ref 101), (1, .ref 0), (0, .retAddr 9)]) (st' := [.ref 101]) (by decide +kernel) rfl rfl ?_
        refine ab_fin.s2 (i := .aload_n 0) (k := 1) (pc' := 405) (lv' := [(5, .int 0), (4, .int 0), (3, .ref 3466), (2, .ref 101), (1, .ref 0), (0, .retAddr 9)]) (st' := [.retAddr 9, .ref 101]) (by decide +kernel) rfl rfl ?_
        refine ab_fin.s2 (i := .iload 4) (k := 2) (pc' := 407) (lv' := [(5, .int 0), (4, .int 0), (3, .ref 3466), (2, .ref 101), (1, .ref 0), (0, .retAddr 9)]) (st' := [.int 0, .retAddr 9, .ref 101]) (by decide +kernel) rfl rfl ?_
        refine ab_fin.s1i (i := .iconst 1) (k := 1) (pc' := 408) (n := 1) (by decide +kernel) rfl (by decide +kernel) rfl ?_
        refine ab_fin.s1i (i := .iadd) (k := 1) (pc' := 409) (n := 1) (by decide +kernel) rfl (by decide +kernel) rfl ?_
        refine ab_fin.s8 (i := .iaload) (k := 1) (pc' := 410) (st' := [.int ((xs 1)), .ref 101]) (by decide +kernel) (ab_x0 rfl (by decide +kernel) rfl) rfl rfl rfl ?_
        refine ab_fin.s2 (i := .aload_n 0) (k := 1) (pc' := 411) (lv' := [(5, .int 0), (4, .int 0), (3, .ref 3466), (2, .ref 101), (1, .ref 0), (0, .retAddr 9)]) (st' := [.retAddr 9, .int ((xs 1)), .ref 101]) (by decide +kernel) rfl rfl ?_
        refine ab_fin.s2 (i := .iload 4) (k := 2) (pc' := 413) (lv' := [(5, .int 0), (4, .int 0), (3, .ref 3466), (2, .ref 101), (1, .ref 0), (0, .retAddr 9)]) (st' := [.int 0, .retAddr 9, .int ((xs 1)), .ref 101]) (by decide +kernel) rfl rfl ?_
        refine ab_fin.s1i (i := .iconst 2) (k := 1) (pc' := 414) (n := 2) (by decide +kernel) rfl (by decide +kernel) rfl ?_
        refine ab_fin.s1i (i := .iadd) (k := 1) (pc' := 415) (n := 2) (by decide +kernel) rfl (by decide +kernel) rfl ?_
        refine ab_fin.s8 (i := .iaload) (k := 1) (pc' := 416) (st' := [.int ((xs 2)), .int ((xs 1)), .ref 101]) (by decide +kernel) (ab_x0 rfl (by decide +kernel) rfl) rfl rfl rfl ?_
        refine ab_fin.call (i := .invokevirtual 100) (k := 3) (y := 5999) (As := [.ref 101, .int ((xs 1)), .int ((xs 2))]) (rest := []) (M' := (mX23_set, [])) (by decide +kernel) (ab_cv rfl rfl (ab_ov_no f_101 rfl) ⟨(Nat.le_of_ble_eq_true rfl), (Nat.le_of_ble_eq_true rfl)⟩ rfl) rfl (Nat.le_of_ble_eq_true rfl) ?_
        show ab_fin _ _ _ _ 0 [(0, .ref 101), (1, .int ((xs 1))), (2, .int ((xs 2)))] [] _ _
        refine ab_fin.s2 (i := .aload_n 0) (k := 1) (pc' := 1) (lv' := [(0, .ref 101), (1, .int ((xs 1))), (2, .int ((xs 2)))]) (st' := [.ref 101]) (by decide +kernel) rfl rfl ?_
        refine ab_fin.s1i (i := .iconst 0) (k := 1) (pc' := 2) (n := 0) (by decide +kernel) rfl (by decide +kernel) rfl ?_
        refine ab_fin.putf (ix := 1000) (h1 := ab_ov h [(101, .inr (.inr (24, (p1_o101).set 110 (.int 0)))), (3466, .inr (.inl (1, .inr (.inl ((List.replicate 1 0).set 0 (0)))))), (0, .inr (.inr (13, (p1_o0).set 11 (.int ((xs 2))))))]) (pc' := 5) (by decide +kernel) rfl (ab_ov_no f_101 rfl) (ab_klt (n := 115) (by rw [p1_n101]) (by decide)) rfl rfl (ab_ov_set rfl) rfl ?_
        refine ab_fin.s2 (i := .iload_n 1) (k := 1) (pc' := 6) (lv' := [(0, .ref 101), (1, .int ((xs 1))), (2, .int ((xs 2)))]) (st' := [.int ((xs 1))]) (by decide +kernel) rfl rfl ?_
        refine ab_fin.brF (c := ¬ (xs 1) = 0) (i := .ifCond .ne 25) (off := 25) (t := 31) (pc' := 9) (r := []) (by decide +kernel) rfl (by decide +kernel) rfl (by have l0 : (0 : Int32).toInt = 0 := rfl; have l3 : (3 : Int32).toInt = 3 := rfl; simp only [← Int32.toInt_inj, Int32.lt_iff_toInt_lt, Int32.le_iff_toInt_le, l0, l3] at q1 q8 q9 ⊢; omega) ?_
        refine ab_fin.s2 (i := .iload_n 2) (k := 1) (pc' := 10) (lv' := [(0, .ref 101), (1, .int ((xs 1))), (2, .int ((xs 2)))]) (st' := [.int ((xs 2))]) (by decide +kernel) rfl rfl ?_
        refine ab_fin.brF (c := (xs 2) < 0) (i := .ifCond .lt 21) (off := 21) (t := 31) (pc' := 13) (r := []) (by decide +kernel) rfl (by decide +kernel) rfl (by have l0 : (0 : Int32).toInt = 0 := rfl; have l3 : (3 : Int32).toInt = 3 := rfl; simp only [← Int32.toInt_inj, Int32.lt_iff_toInt_lt, Int32.le_iff_toInt_le, l0, l3] at q1 q8 q9 ⊢; omega) ?_
        refine ab_fin.s2 (i := .iload_n 2) (k := 1) (pc' := 14) (lv' := [(0, .ref 101), (1, .int ((xs 1))), (2, .int ((xs 2)))]) (st' := [.int ((xs 2))]) (by decide +kernel) rfl rfl ?_
        refine ab_fin.s1i (i := .iconst 3) (k := 1) (pc' := 15) (n := 3) (by decide +kernel) rfl (by decide +kernel) rfl ?_
        refine ab_fin.brF (c := (3 : Int32) < (xs 2)) (i := .if_icmp .gt 16) (off := 16) (t := 31) (pc' := 18) (r := []) (by decide +kernel) rfl (by decide +kernel) rfl (by have l0 : (0 : Int32).toInt = 0 := rfl; have l3 : (3 : Int32).toInt = 3 := rfl; simp only [← Int32.toInt_inj, Int32.lt_iff_toInt_lt, Int32.le_iff_toInt_le, l0, l3] at q1 q8 q9 ⊢; omega) ?_
        refine ab_fin.s2 (i := .aload_n 0) (k := 1) (pc' := 19) (lv' := [(0, .ref 101), (1, .int ((xs 1))), (2, .int ((xs 2)))]) (st' := [.ref 101]) (by decide +kernel) rfl rfl ?_
        refine ab_fin.getf (ix := 683) (k := 82) (v := .int 0) (pc' := 22) (by decide +kernel) rfl (ab_ov_get (lt0 101 (by decide)) rfl) rfl rfl ?_
        refine ab_fin.s2 (i := .istore_n 3) (k := 1) (pc' := 23) (lv' := [(3, .int 0), (0, .ref 101), (1, .int ((xs 1))), (2, .int ((xs 2)))]) (st' := []) (by decide +kernel) rfl rfl ?_
        refine ab_fin.s2 (i := .aload_n 0) (k := 1) (pc' := 24) (lv' := [(3, .int 0), (0, .ref 101), (1, .int ((xs 1))), (2, .int ((xs 2)))]) (st' := [.ref 101]) (by decide +kernel) rfl rfl ?_
        refine ab_fin.s2 (i := .iload_n 2) (k := 1) (pc' := 25) (lv' := [(3, .int 0), (0, .ref 101), (1, .int ((xs 1))), (2, .int ((xs 2)))]) (st' := [.int ((xs 2)), .ref 101]) (by decide +kernel) rfl rfl ?_
        refine ab_fin.putf (ix := 683) (h1 := ab_ov h [(101, .inr (.inr (24, ((p1_o101).set 110 (.int 0)).set 82 (.int ((xs 2)))))), (3466, .inr (.inl (1, .inr (.inl ((List.replicate 1 0).set 0 (0)))))), (0, .inr (.inr (13, (p1_o0).set 11 (.int ((xs 2))))))]) (pc' := 28) (by decide +kernel) rfl (ab_ov_get (lt0 101 (by decide)) rfl) (ab_klt (n := 115) (by rw [List.length_set, p1_n101]) (by decide)) rfl rfl (ab_ov_set rfl) rfl ?_
        refine ab_fin.s3 (i := .goto 70) (k := 3) (t := 98) (st' := []) (by decide +kernel) (ab_goto (by decide +kernel)) ?_
        refine ab_fin.s2 (i := .iload_n 3) (k := 1) (pc' := 99) (lv' := [(3, .int 0), (0, .ref 101), (1, .int ((xs 1))), (2, .int ((xs 2)))]) (st' := [.int 0]) (by decide +kernel) rfl rfl ?_
        refine ab_fin.ret (i := .ireturn) (k := 1) (some (.int 0)) (by decide +kernel) rfl ?_
        refine ab_bk.back (pc' := 419) (st' := [.int 0]) rfl rfl ?_
        refine ab_fin.s2 (i := .istore 6) (k := 2) (pc' := 421) (lv' := [(6, .int 0), (5, .int 0), (4, .int 0), (3, .ref 3466), (2, .ref 101), (1, .ref 0), (0, .retAddr 9)]) (st' := []) (by decide +kernel) rfl rfl ?_
        refine ab_fin.s2 (i := .aload_n 2) (k := 1) (pc' := 422) (lv' := [(6, .int 0), (5, .int 0), (4, .int 0), (3, .ref 3466), (2, .ref 101), (1, .ref 0), (0, .retAddr 9)]) (st' := [.ref 101]) (by decide +kernel) rfl rfl ?_
        refine ab_fin.call (i := .invokevirtual 75) (k := 3) (y := 5992) (As := [.ref 101]) (rest := []) (M' := (mX23_thrown, [])) (by decide +kernel) (ab_cv rfl rfl (ab_ov_get (lt0 101 (by decide)) rfl) ⟨(Nat.le_of_ble_eq_true rfl), (Nat.le_of_ble_eq_true rfl)⟩ rfl) rfl (Nat.le_of_ble_eq_true rfl) ?_
        show ab_fin _ _ _ _ 0 [(0, .ref 101)] [] _ _
        refine ab_fin.s2 (i := .aload_n 0) (k := 1) (pc' := 1) (lv' := [(0, .ref 101)]) (st' := [.ref 101]) (by decide +kernel) rfl rfl ?_
        refine ab_fin.getf (ix := 1000) (k := 110) (v := .int 0) (pc' := 4) (by decide +kernel) rfl (ab_ov_get (lt0 101 (by decide)) rfl) rfl rfl ?_
        refine ab_fin.ret (i := .ireturn) (k := 1) (some (.int 0)) (by decide +kernel) rfl ?_
        refine ab_bk.back (pc' := 425) (st' := [.int 0]) rfl rfl ?_
        refine ab_fin.s2 (i := .iload 5) (k := 2) (pc' := 427) (lv' := [(6, .int 0), (5, .int 0), (4, .int 0), (3, .ref 3466), (2, .ref 101), (1, .ref 0), (0, .retAddr 9)]) (st' := [.int 0, .int 0]) (by decide +kernel) rfl rfl ?_
        refine ab_fin.brT (c := (0 : Int32) = (0 : Int32)) (i := .if_icmp .eq 5) (off := 5) (t := 432) (r := []) (by decide +kernel) rfl (by decide +kernel) (by decide +kernel) ?_
        refine ab_fin.s2 (i := .iload 5) (k := 2) (pc' := 434) (lv' := [(6, .int 0), (5, .int 0), (4, .int 0), (3, .ref 3466), (2, .ref 101), (1, .ref 0), (0, .retAddr 9)]) (st' := [.int 0]) (by decide +kernel) rfl rfl ?_
        refine ab_fin.brF (c := ¬ (0 : Int32) = 0) (i := .ifCond .ne 15) (off := 15) (t := 449) (pc' := 437) (r := []) (by decide +kernel) rfl (by decide +kernel) rfl (by decide +kernel) ?_
        refine ab_fin.s2 (i := .aload_n 3) (k := 1) (pc' := 438) (lv' := [(6, .int 0), (5, .int 0), (4, .int 0), (3, .ref 3466), (2, .ref 101), (1, .ref 0), (0, .retAddr 9)]) (st' := [.ref 3466]) (by decide +kernel) rfl rfl ?_
        refine ab_fin.s1i (i := .iconst 0) (k := 1) (pc' := 439) (n := 0) (by decide +kernel) rfl (by decide +kernel) rfl ?_
        refine ab_fin.lald (v := 0) (pc' := 440) (by decide +kernel) (ab_ov_get (lt0 3466 (by decide)) rfl) (ab_bd (n := 1) (by rw [List.length_set, List.length_replicate]) (by decide +kernel)) rfl rfl ?_
        refine ab_fin.s2 (i := .iload 6) (k := 2) (pc' := 442) (lv' := [(6, .int 0), (5, .int 0), (4, .int 0), (3, .ref 3466), (2, .ref 101), (1, .ref 0), (0, .retAddr 9)]) (st' := [.int 0, .long 0]) (by decide +kernel) rfl rfl ?_
        refine ab_fin.s1l (i := .i2l) (k := 1) (pc' := 443) (n := 0) (by decide +kernel) rfl (by decide +kernel) rfl ?_
        refine ab_fin.s1i (i := .lcmp) (k := 1) (pc' := 444) (n := 0) (by decide +kernel) rfl (by decide +kernel) rfl ?_
        refine ab_fin.brT (c := (0 : Int32) = 0) (i := .ifCond .eq 5) (off := 5) (t := 449) (r := []) (by decide +kernel) rfl (by decide +kernel) (by decide +kernel) ?_
        refine ab_fin.s3 (i := .goto 641) (k := 3) (t := 1090) (st' := []) (by decide +kernel) (ab_goto (by decide +kernel)) ?_
        refine ab_fin.inc (i := .iinc 4 6) (k := 3) (pc' := 1093) (j := 4) (n := 6) (lv' := [(6, .int 0), (5, .int 0), (3, .ref 3466), (2, .ref 101), (1, .ref 0), (0, .retAddr 9)]) (by decide +kernel) rfl (by decide +kernel) rfl ?_
        refine ab_fin.s3 (i := .goto (-1070)) (k := 3) (t := 23) (st' := []) (by decide +kernel) (ab_goto (by decide +kernel)) ?_
        refine ab_fin.s2 (i := .iload 4) (k := 2) (pc' := 25) (lv' := [(4, .int 6), (6, .int 0), (5, .int 0), (3, .ref 3466), (2, .ref 101), (1, .ref 0), (0, .retAddr 9)]) (st' := [.int 6]) (by decide +kernel) rfl rfl ?_
        refine ab_fin.s2 (i := .aload_n 0) (k := 1) (pc' := 26) (lv' := [(4, .int 6), (6, .int 0), (5, .int 0), (3, .ref 3466), (2, .ref 101), (1, .ref 0), (0, .retAddr 9)]) (st' := [.retAddr 9, .int 6]) (by decide +kernel) rfl rfl ?_
        refine ab_fin.s8 (i := .arraylength) (k := 1) (pc' := 27) (st' := [.int 6, .int 6]) (by decide +kernel) rfl rfl rfl rfl ?_
        refine ab_fin.s1i (i := .bipush 6) (k := 2) (pc' := 29) (n := 6) (by decide +kernel) rfl (by decide +kernel) rfl ?_
        refine ab_fin.s1i (i := .isub) (k := 1) (pc' := 30) (n := 0) (by decide +kernel) rfl (by decide +kernel) rfl ?_
        refine ab_fin.brT (c := (0 : Int32) < (6 : Int32)) (i := .if_icmp .gt 1066) (off := 1066) (t := 1096) (r := []) (by decide +kernel) rfl (by decide +kernel) (by decide +kernel) ?_
        refine ab_fin.s1i (i := .iconst 1) (k := 1) (pc' := 1097) (n := 1) (by decide +kernel) rfl (by decide +kernel) rfl ?_
        refine ab_fin.ret (i := .ireturn) (k := 1) (some (.int 1)) (by decide +kernel) rfl ?_
        refine ⟨rfl, ?_, ?_⟩
        · rw [ab_ov_len, hl]; decide
        · refine Nat.le_trans (ab_ov_z _ _) ?_
          simp only [List.map, List.sum_cons, List.sum_nil, ab_z1, ab_len, List.length_set, List.length_replicate, List.length_cons, List.length_nil, p1_n0, p1_n101]
          omega

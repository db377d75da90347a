set_option maxRecDepth 100000 in
set_option maxHeartbeats 0 in
theorem p1_below (z4 z5 z6 : Value) (n_z4 : z4 = .null ∨ z4 = .retAddr 4) (n_z5 : z5 = .null ∨ z5 = .retAddr 5) (n_z6 : z6 = .null ∨ z6 = .retAddr 6) (xs : Nat → Int32) (h : List ab_E) (hl : h.length = 3467) (hz : ab_z h ≤ 400000) (f_0 : h[0]? = some (.inr (.inr (13, p1_o0)))) (f_1 : h[1]? = some (.inr (.inr (12, p1_o1)))) (f_2 : h[2]? = some (.inr (.inr (3, p1_o2)))) (f_4 : h[4]? = some (.inr (.inl (0, .inl (p1_a4))))) (f_28 : h[28]? = some (.inr (.inl (0, .inl (p1_a28))))) (f_101 : h[101]? = some (.inr (.inr (24, p1_o101)))) (f_1981 : h[1981]? = some (.inr (.inl (12, .inr (.inr (p1_a1981)))))) (f_1982 : h[1982]? = some (.inr (.inl (3, .inl (p1_a1982))))) (f_1983 : h[1983]? = some (.inr (.inl (3, .inl (p1_a1983))))) (f_1984 : h[1984]? = some (.inr (.inl (3, .inl (p1_a1984))))) (f_3466 : h[3466]? = some (.inr (.inl (1, .inr (.inl (List.replicate 1 0)))))) : ab_fin (hb_Gz (some z4, some z5, some z6) (some (0, 6, fun i => .int (xs i)))) hb_GT 2046 (mL_law, []) 508 [(4, .int 0), (3, .ref 3466), (2, .ref 101), (1, .ref 0), (0, .retAddr 9)] [] h p1_Q := by
  have lt0 : ∀ a, a < 3467 → a < h.length := fun a q => by rw [hl]; exact q
  show ab_fin _ _ _ _ _ _ _ (ab_ov h []) _
  refine ab_fin.s2 (i := .aload_n 1) (k := 1) (pc' := 509) (lv' := [(4, .int 0), (3, .ref 3466), (2, .ref 101), (1, .ref 0), (0, .retAddr 9)]) (st' := [.ref 0]) (by decide +kernel) rfl rfl ?_
  refine ab_fin.s2 (i := .aload_n 0) (k := 1) (pc' := 510) (lv' := [(4, .int 0), (3, .ref 3466), (2, .ref 101), (1, .ref 0), (0, .retAddr 9)]) (st' := [.retAddr 9, .ref 0]) (by decide +kernel) rfl rfl ?_
  refine ab_fin.s2 (i := .iload 4) (k := 2) (pc' := 512) (lv' := [(4, .int 0), (3, .ref 3466), (2, .ref 101), (1, .ref 0), (0, .retAddr 9)]) (st' := [.int 0, .retAddr 9, .ref 0]) (by decide +kernel) rfl rfl ?_
  refine ab_fin.s1i (i := .iconst 1) (k := 1) (pc' := 513) (n := 1) (by decide +kernel) rfl (by decide +kernel) rfl ?_
  refine ab_fin.s1i (i := .iadd) (k := 1) (pc' := 514) (n := 1) (by decide +kernel) rfl (by decide +kernel) rfl ?_
  refine ab_fin.s8 (i := .iaload) (k := 1) (pc' := 515) (st' := [.int ((xs 1)), .ref 0]) (by decide +kernel) (ab_x0 rfl (by decide +kernel) rfl) rfl rfl rfl ?_
  refine ab_fin.s2 (i := .aload_n 0) (k := 1) (pc' := 516) (lv' := [(4, .int 0), (3, .ref 3466), (2, .ref 101), (1, .ref 0), (0, .retAddr 9)]) (st' := [.retAddr 9, .int ((xs 1)), .ref 0]) (by decide +kernel) rfl rfl ?_
  refine ab_fin.s2 (i := .iload 4) (k := 2) (pc' := 518) (lv' := [(4, .int 0), (3, .ref 3466), (2, .ref 101), (1, .ref 0), (0, .retAddr 9)]) (st' := [.int 0, .retAddr 9, .int ((xs 1)), .ref 0]) (by decide +kernel) rfl rfl ?_
  refine ab_fin.s1i (i := .iconst 2) (k := 1) (pc' := 519) (n := 2) (by decide +kernel) rfl (by decide +kernel) rfl ?_
  refine ab_fin.s1i (i := .iadd) (k := 1) (pc' := 520) (n := 2) (by decide +kernel) rfl (by decide +kernel) rfl ?_
  refine ab_fin.s8 (i := .iaload) (k := 1) (pc' := 521) (st' := [.int ((xs 2)), .int ((xs 1)), .ref 0]) (by decide +kernel) (ab_x0 rfl (by decide +kernel) rfl) rfl rfl rfl ?_
  refine ab_fin.s2 (i := .aload_n 3) (k := 1) (pc' := 522) (lv' := [(4, .int 0), (3, .ref 3466), (2, .ref 101), (1, .ref 0), (0, .retAddr 9)]) (st' := [.ref 3466, .int ((xs 2)), .int ((xs 1)), .ref 0]) (by decide +kernel) rfl rfl ?_
  refine ab_fin.call (i := .invokestatic 104) (k := 3) (y := 13517) (As := [.ref 0, .int ((xs 1)), .int ((xs 2)), .ref 3466]) (rest := []) (M' := (mL_below, [(0, 17, 20, 13)])) (by decide +kernel) (ab_cs rfl rfl ⟨(Nat.le_of_ble_eq_true rfl), (Nat.le_of_ble_eq_true rfl)⟩ rfl) rfl (Nat.le_of_ble_eq_true rfl) ?_
  show ab_fin _ _ _ _ 0 [(0, .ref 0), (1, .int ((xs 1))), (2, .int ((xs 2))), (3, .ref 3466)] [] _ _
  refine ab_fin.s2 (i := .aload_n 3) (k := 1) (pc' := 1) (lv' := [(0, .ref 0), (1, .int ((xs 1))), (2, .int ((xs 2))), (3, .ref 3466)]) (st' := [.ref 3466]) (by decide +kernel) rfl rfl ?_
  refine ab_fin.s1i (i := .iconst 0) (k := 1) (pc' := 2) (n := 0) (by decide +kernel) rfl (by decide +kernel) rfl ?_
  refine ab_fin.s2 (i := .aload_n 0) (k := 1) (pc' := 3) (lv' := [(0, .ref 0), (1, .int ((xs 1))), (2, .int ((xs 2))), (3, .ref 3466)]) (st' := [.ref 0, .int 0, .ref 3466]) (by decide +kernel) rfl rfl ?_
  refine ab_fin.s2 (i := .iload_n 1) (k := 1) (pc' := 4) (lv' := [(0, .ref 0), (1, .int ((xs 1))), (2, .int ((xs 2))), (3, .ref 3466)]) (st' := [.int ((xs 1)), .ref 0, .int 0, .ref 3466]) (by decide +kernel) rfl rfl ?_
  refine ab_fin.s2 (i := .iload_n 2) (k := 1) (pc' := 5) (lv' := [(0, .ref 0), (1, .int ((xs 1))), (2, .int ((xs 2))), (3, .ref 3466)]) (st' := [.int ((xs 2)), .int ((xs 1)), .ref 0, .int 0, .ref 3466]) (by decide +kernel) rfl rfl ?_
  refine ab_fin.call (i := .invokevirtual 32) (k := 3) (y := 3082) (As := [.ref 0, .int ((xs 1)), .int ((xs 2))]) (rest := [.int 0, .ref 3466]) (M' := (mX12_below, [])) (by decide +kernel) (ab_cv rfl rfl (ab_ov_no f_0 rfl) ⟨(Nat.le_of_ble_eq_true rfl), (Nat.le_of_ble_eq_true rfl)⟩ rfl) rfl (Nat.le_of_ble_eq_true rfl) ?_
  show ab_fin _ _ _ _ 0 [(0, .ref 0), (1, .int ((xs 1))), (2, .int ((xs 2)))] [] _ _
  refine ab_fin.s2 (i := .aload_n 0) (k := 1) (pc' := 1) (lv' := [(0, .ref 0), (1, .int ((xs 1))), (2, .int ((xs 2)))]) (st' := [.ref 0]) (by decide +kernel) rfl rfl ?_
  refine ab_fin.getf (ix := 10) (k := 0) (v := .ref 1) (pc' := 4) (by decide +kernel) rfl (ab_ov_no f_0 rfl) rfl rfl ?_
  refine ab_fin.s2 (i := .iload_n 1) (k := 1) (pc' := 5) (lv' := [(0, .ref 0), (1, .int ((xs 1))), (2, .int ((xs 2)))]) (st' := [.int ((xs 1)), .ref 1]) (by decide +kernel) rfl rfl ?_
  refine ab_fin.call (i := .invokevirtual 157) (k := 3) (y := 2817) (As := [.ref 1, .int ((xs 1))]) (rest := []) (M' := (mX11_isKind, [])) (by decide +kernel) (ab_cv rfl rfl (ab_ov_no f_1 rfl) ⟨(Nat.le_of_ble_eq_true rfl), (Nat.le_of_ble_eq_true rfl)⟩ rfl) rfl (Nat.le_of_ble_eq_true rfl) ?_
  show ab_fin _ _ _ _ 0 [(0, .ref 1), (1, .int ((xs 1)))] [] _ _
  refine ab_fin.s2 (i := .iload_n 1) (k := 1) (pc' := 1) (lv' := [(0, .ref 1), (1, .int ((xs 1)))]) (st' := [.int ((xs 1))]) (by decide +kernel) rfl rfl ?_
  refine ab_fin.br (c := (xs 1) < 0) (i := .ifCond .lt 17) (off := 17) (t := 18) (pc' := 4) (r := []) (by decide +kernel) rfl (by decide +kernel) rfl (fun q1 => ?_) (fun q1 => ?_)
  · refine ab_fin.s1i (i := .iconst 0) (k := 1) (pc' := 19) (n := 0) (by decide +kernel) rfl (by decide +kernel) rfl ?_
    refine ab_fin.ret (i := .ireturn) (k := 1) (some (.int 0)) (by decide +kernel) rfl ?_
    refine ab_bk.back (pc' := 8) (st' := [.int 0]) rfl rfl ?_
    refine ab_fin.brT (c := (0 : Int32) = 0) (i := .ifCond .eq 14) (off := 14) (t := 22) (r := []) (by decide +kernel) rfl (by decide +kernel) (by decide +kernel) ?_
    refine ab_fin.thrN (i := .new 80) (k := 3) (cls := "java/lang/IndexOutOfBoundsException") (n := 3467) (by decide +kernel) (by decide +kernel) (fun ix q => by cases q; rfl) (by decide) (Nat.le_of_ble_eq_true rfl) ((ab_ov_len _ _).trans hl) (ab_ov_app (by rw [hl]; decide +kernel)) ?_
    obtain ⟨h1, e1⟩ : ∃ h2 : List ab_E, h2 = h ++ [.inl 6] := ⟨_, rfl⟩
    have hl1 : h1.length = 3468 := by rw [e1, List.length_append, hl]; rfl
    have lt1 : ∀ a, a < 3468 → a < h1.length := fun a q => by rw [hl1]; exact q
    have hz1 : ab_z h1 = ab_z h + 6 := by rw [e1, ab_z_app]; rfl
    have f1_0 := (show h1[0]? = h[0]? by rw [e1, List.getElem?_append_left (by rw [hl]; decide)]).trans f_0
    have f1_1 := (show h1[1]? = h[1]? by rw [e1, List.getElem?_append_left (by rw [hl]; decide)]).trans f_1
    have f1_2 := (show h1[2]? = h[2]? by rw [e1, List.getElem?_append_left (by rw [hl]; decide)]).trans f_2
    have f1_4 := (show h1[4]? = h[4]? by rw [e1, List.getElem?_append_left (by rw [hl]; decide)]).trans f_4
    have f1_28 := (show h1[28]? = h[28]? by rw [e1, List.getElem?_append_left (by rw [hl]; decide)]).trans f_28
    have f1_101 := (show h1[101]? = h[101]? by rw [e1, List.getElem?_append_left (by rw [hl]; decide)]).trans f_101
    have f1_1981 := (show h1[1981]? = h[1981]? by rw [e1, List.getElem?_append_left (by rw [hl]; decide)]).trans f_1981
    have f1_1982 := (show h1[1982]? = h[1982]? by rw [e1, List.getElem?_append_left (by rw [hl]; decide)]).trans f_1982
    have f1_1983 := (show h1[1983]? = h[1983]? by rw [e1, List.getElem?_append_left (by rw [hl]; decide)]).trans f_1983
    have f1_1984 := (show h1[1984]? = h[1984]? by rw [e1, List.getElem?_append_left (by rw [hl]; decide)]).trans f_1984
    have f1_3466 := (show h1[3466]? = h[3466]? by rw [e1, List.getElem?_append_left (by rw [hl]; decide)]).trans f_3466
    rw [← e1]
    refine ab_bk.catch (hp := 20) (by decide +kernel) rfl ?_
    refine ab_fin.s2 (i := .astore 4) (k := 2) (pc' := 22) (lv' := [(4, .ref 3467), (0, .ref 0), (1, .int ((xs 1))), (2, .int ((xs 2))), (3, .ref 3466)]) (st' := []) (by decide +kernel) rfl rfl ?_
    refine ab_fin.s1i (i := .iconst 1) (k := 1) (pc' := 23) (n := 1) (by decide +kernel) rfl (by decide +kernel) rfl ?_
    refine ab_fin.ret (i := .ireturn) (k := 1) (some (.int 1)) (by decide +kernel) rfl ?_
    refine ab_bk.back (pc' := 525) (st' := [.int 1]) rfl rfl ?_
    refine ab_fin.s2 (i := .istore 5) (k := 2) (pc' := 527) (lv' := [(5, .int 1), (4, .int 0), (3, .ref 3466), (2, .ref 101), (1, .ref 0), (0, .retAddr 9)]) (st' := []) (by decide +kernel) rfl rfl ?_
    refine ab_fin.s2 (i := .aload_n 2) (k := 1) (pc' := 528) (lv' := [(5, .int 1), (4, .int 0), (3, .ref 3466), (2, .ref 101), (1, .ref 0), (0, .retAddr 9)]) (st' := [.ref 101]) (by decide +kernel) rfl rfl ?_
    refine ab_fin.s2 (i := .aload_n 0) (k := 1) (pc' := 529) (lv' := [(5, .int 1), (4, .int 0), (3, .ref 3466), (2, .ref 101), (1, .ref 0), (0, .retAddr 9)]) (st' := [.retAddr 9, .ref 101]) (by decide +kernel) rfl rfl ?_
    refine ab_fin.s2 (i := .iload 4) (k := 2) (pc' := 531) (lv' := [(5, .int 1), (4, .int 0), (3, .ref 3466), (2, .ref 101), (1, .ref 0), (0, .retAddr 9)]) (st' := [.int 0, .retAddr 9, .ref 101]) (by decide +kernel) rfl rfl ?_
    refine ab_fin.s1i (i := .iconst 1) (k := 1) (pc' := 532) (n := 1) (by decide +kernel) rfl (by decide +kernel) rfl ?_
    refine ab_fin.s1i (i := .iadd) (k := 1) (pc' := 533) (n := 1) (by decide +kernel) rfl (by decide +kernel) rfl ?_
    refine ab_fin.s8 (i := .iaload) (k := 1) (pc' := 534) (st' := [.int ((xs 1)), .ref 101]) (by decide +kernel) (ab_x0 rfl (by decide +kernel) rfl) rfl rfl rfl ?_
    refine ab_fin.s2 (i := .aload_n 0) (k := 1) (pc' := 535) (lv' := [(5, .int 1), (4, .int 0), (3, .ref 3466), (2, .ref 101), (1, .ref 0), (0, .retAddr 9)]) (st' := [.retAddr 9, .int ((xs 1)), .ref 101]) (by decide +kernel) rfl rfl ?_
    refine ab_fin.s2 (i := .iload 4) (k := 2) (pc' := 537) (lv' := [(5, .int 1), (4, .int 0), (3, .ref 3466), (2, .ref 101), (1, .ref 0), (0, .retAddr 9)]) (st' := [.int 0, .retAddr 9, .int ((xs 1)), .ref 101]) (by decide +kernel) rfl rfl ?_
    refine ab_fin.s1i (i := .iconst 2) (k := 1) (pc' := 538) (n := 2) (by decide +kernel) rfl (by decide +kernel) rfl ?_
    refine ab_fin.s1i (i := .iadd) (k := 1) (pc' := 539) (n := 2) (by decide +kernel) rfl (by decide +kernel) rfl ?_
    refine ab_fin.s8 (i := .iaload) (k := 1) (pc' := 540) (st' := [.int ((xs 2)), .int ((xs 1)), .ref 101]) (by decide +kernel) (ab_x0 rfl (by decide +kernel) rfl) rfl rfl rfl ?_
    refine ab_fin.call (i := .invokevirtual 106) (k := 3) (y := 6002) (As := [.ref 101, .int ((xs 1)), .int ((xs 2))]) (rest := []) (M' := (mX23_below, [])) (by decide +kernel) (ab_cv rfl rfl (ab_ov_no f1_101 rfl) ⟨(Nat.le_of_ble_eq_true rfl), (Nat.le_of_ble_eq_true rfl)⟩ rfl) rfl (Nat.le_of_ble_eq_true rfl) ?_
    show ab_fin _ _ _ _ 0 [(0, .ref 101), (1, .int ((xs 1))), (2, .int ((xs 2)))] [] _ _
    refine ab_fin.s2 (i := .aload_n 0) (k := 1) (pc' := 1) (lv' := [(0, .ref 101), (1, .int ((xs 1))), (2, .int ((xs 2)))]) (st' := [.ref 101]) (by decide +kernel) rfl rfl ?_
    refine ab_fin.s1i (i := .iconst 0) (k := 1) (pc' := 2) (n := 0) (by decide +kernel) rfl (by decide +kernel) rfl ?_
    refine ab_fin.putf (ix := 1000) (h1 := ab_ov h1 [(101, .inr (.inr (24, (p1_o101).set 110 (.int 0))))]) (pc' := 5) (by decide +kernel) rfl (ab_ov_no f1_101 rfl) (ab_klt (n := 115) (by rw [p1_n101]) (by decide)) rfl rfl (ab_ov_set rfl) rfl ?_
    refine ab_fin.s2 (i := .aload_n 0) (k := 1) (pc' := 6) (lv' := [(0, .ref 101), (1, .int ((xs 1))), (2, .int ((xs 2)))]) (st' := [.ref 101]) (by decide +kernel) rfl rfl ?_
    refine ab_fin.s2 (i := .iload_n 1) (k := 1) (pc' := 7) (lv' := [(0, .ref 101), (1, .int ((xs 1))), (2, .int ((xs 2)))]) (st' := [.int ((xs 1)), .ref 101]) (by decide +kernel) rfl rfl ?_
    refine ab_fin.call (i := .invokevirtual 1018) (k := 3) (y := 6001) (As := [.ref 101, .int ((xs 1))]) (rest := []) (M' := (mX23_isKind, [])) (by decide +kernel) (ab_cv rfl rfl (ab_ov_get (lt1 101 (by decide)) rfl) ⟨(Nat.le_of_ble_eq_true rfl), (Nat.le_of_ble_eq_true rfl)⟩ rfl) rfl (Nat.le_of_ble_eq_true rfl) ?_
    show ab_fin _ _ _ _ 0 [(0, .ref 101), (1, .int ((xs 1)))] [] _ _
    refine ab_fin.s2 (i := .iload_n 1) (k := 1) (pc' := 1) (lv' := [(0, .ref 101), (1, .int ((xs 1)))]) (st' := [.int ((xs 1))]) (by decide +kernel) rfl rfl ?_
    refine ab_fin.brT (c := (xs 1) < 0) (i := .ifCond .lt 15) (off := 15) (t := 16) (r := []) (by decide +kernel) rfl (by decide +kernel) (by have l0 : (0 : Int32).toInt = 0 := rfl; simp only [← Int32.toInt_inj, Int32.lt_iff_toInt_lt, Int32.le_iff_toInt_le, l0] at q1 ⊢; omega) ?_
    refine ab_fin.s1i (i := .iconst 0) (k := 1) (pc' := 17) (n := 0) (by decide +kernel) rfl (by decide +kernel) rfl ?_
    refine ab_fin.ret (i := .ireturn) (k := 1) (some (.int 0)) (by decide +kernel) rfl ?_
    refine ab_bk.back (pc' := 10) (st' := [.int 0]) rfl rfl ?_
    refine ab_fin.brT (c := (0 : Int32) = 0) (i := .ifCond .eq 11) (off := 11) (t := 21) (r := []) (by decide +kernel) rfl (by decide +kernel) (by decide +kernel) ?_
    refine ab_fin.s2 (i := .aload_n 0) (k := 1) (pc' := 22) (lv' := [(0, .ref 101), (1, .int ((xs 1))), (2, .int ((xs 2)))]) (st' := [.ref 101]) (by decide +kernel) rfl rfl ?_
    refine ab_fin.s1i (i := .iconst 1) (k := 1) (pc' := 23) (n := 1) (by decide +kernel) rfl (by decide +kernel) rfl ?_
    refine ab_fin.call (i := .invokevirtual 1003) (k := 3) (y := 5993) (As := [.ref 101, .int 1]) (rest := []) (M' := (mX23_no_, [])) (by decide +kernel) (ab_cv rfl rfl (ab_ov_get (lt1 101 (by decide)) rfl) ⟨(Nat.le_of_ble_eq_true rfl), (Nat.le_of_ble_eq_true rfl)⟩ rfl) rfl (Nat.le_of_ble_eq_true rfl) ?_
    show ab_fin _ _ _ _ 0 [(0, .ref 101), (1, .int 1)] [] _ _
    refine ab_fin.s2 (i := .aload_n 0) (k := 1) (pc' := 1) (lv' := [(0, .ref 101), (1, .int 1)]) (st' := [.ref 101]) (by decide +kernel) rfl rfl ?_
    refine ab_fin.s2 (i := .iload_n 1) (k := 1) (pc' := 2) (lv' := [(0, .ref 101), (1, .int 1)]) (st' := [.int 1, .ref 101]) (by decide +kernel) rfl rfl ?_
    refine ab_fin.putf (ix := 1000) (h1 := ab_ov h1 [(101, .inr (.inr (24, (p1_o101).set 110 (.int 1))))]) (pc' := 5) (by decide +kernel) rfl (ab_ov_get (lt1 101 (by decide)) rfl) (ab_klt (n := 115) (by rw [List.length_set, p1_n101]) (by decide)) rfl rfl (ab_ov_set rfl) rfl ?_
    refine ab_fin.s1i (i := .iconst 0) (k := 1) (pc' := 6) (n := 0) (by decide +kernel) rfl (by decide +kernel) rfl ?_
    refine ab_fin.ret (i := .ireturn) (k := 1) (some (.int 0)) (by decide +kernel) rfl ?_
    refine ab_bk.back (pc' := 26) (st' := [.int 0]) rfl rfl ?_
    refine ab_fin.brT (c := (0 : Int32) ≤ 0) (i := .ifCond .le 7) (off := 7) (t := 33) (r := []) (by decide +kernel) rfl (by decide +kernel) (by decide +kernel) ?_
    refine ab_fin.s1i (i := .iconst 0) (k := 1) (pc' := 34) (n := 0) (by decide +kernel) rfl (by decide +kernel) rfl ?_
    refine ab_fin.ret (i := .ireturn) (k := 1) (some (.int 0)) (by decide +kernel) rfl ?_
    refine ab_bk.back (pc' := 543) (st' := [.int 0]) rfl rfl ?_
    refine ab_fin.s2 (i := .istore 6) (k := 2) (pc' := 545) (lv' := [(6, .int 0), (5, .int 1), (4, .int 0), (3, .ref 3466), (2, .ref 101), (1, .ref 0), (0, .retAddr 9)]) (st' := []) (by decide +kernel) rfl rfl ?_
    refine ab_fin.s2 (i := .aload_n 2) (k := 1) (pc' := 546) (lv' := [(6, .int 0), (5, .int 1), (4, .int 0), (3, .ref 3466), (2, .ref 101), (1, .ref 0), (0, .retAddr 9)]) (st' := [.ref 101]) (by decide +kernel) rfl rfl ?_
    refine ab_fin.call (i := .invokevirtual 75) (k := 3) (y := 5992) (As := [.ref 101]) (rest := []) (M' := (mX23_thrown, [])) (by decide +kernel) (ab_cv rfl rfl (ab_ov_get (lt1 101 (by decide)) rfl) ⟨(Nat.le_of_ble_eq_true rfl), (Nat.le_of_ble_eq_true rfl)⟩ rfl) rfl (Nat.le_of_ble_eq_true rfl) ?_
    show ab_fin _ _ _ _ 0 [(0, .ref 101)] [] _ _
    refine ab_fin.s2 (i := .aload_n 0) (k := 1) (pc' := 1) (lv' := [(0, .ref 101)]) (st' := [.ref 101]) (by decide +kernel) rfl rfl ?_
    refine ab_fin.getf (ix := 1000) (k := 110) (v := .int 1) (pc' := 4) (by decide +kernel) rfl (ab_ov_get (lt1 101 (by decide)) rfl) rfl rfl ?_
    refine ab_fin.ret (i := .ireturn) (k := 1) (some (.int 1)) (by decide +kernel) rfl ?_
    refine ab_bk.back (pc' := 549) (st' := [.int 1]) rfl rfl ?_
    refine ab_fin.s2 (i := .iload 5) (k := 2) (pc' := 551) (lv' := [(6, .int 0), (5, .int 1), (4, .int 0), (3, .ref 3466), (2, .ref 101), (1, .ref 0), (0, .retAddr 9)]) (st' := [.int 1, .int 1]) (by decide +kernel) rfl rfl ?_
    refine ab_fin.brT (c := (1 : Int32) = (1 : Int32)) (i := .if_icmp .eq 5) (off := 5) (t := 556) (r := []) (by decide +kernel) rfl (by decide +kernel) (by decide +kernel) ?_
    refine ab_fin.s2 (i := .iload 5) (k := 2) (pc' := 558) (lv' := [(6, .int 0), (5, .int 1), (4, .int 0), (3, .ref 3466), (2, .ref 101), (1, .ref 0), (0, .retAddr 9)]) (st' := [.int 1]) (by decide +kernel) rfl rfl ?_
    refine ab_fin.brT (c := ¬ (1 : Int32) = 0) (i := .ifCond .ne 22) (off := 22) (t := 580) (r := []) (by decide +kernel) rfl (by decide +kernel) (by decide +kernel) ?_
    refine ab_fin.s3 (i := .goto 510) (k := 3) (t := 1090) (st' := []) (by decide +kernel) (ab_goto (by decide +kernel)) ?_
    refine ab_fin.inc (i := .iinc 4 6) (k := 3) (pc' := 1093) (j := 4) (n := 6) (lv' := [(6, .int 0), (5, .int 1), (3, .ref 3466), (2, .ref 101), (1, .ref 0), (0, .retAddr 9)]) (by decide +kernel) rfl (by decide +kernel) rfl ?_
    refine ab_fin.s3 (i := .goto (-1070)) (k := 3) (t := 23) (st' := []) (by decide +kernel) (ab_goto (by decide +kernel)) ?_
    refine ab_fin.s2 (i := .iload 4) (k := 2) (pc' := 25) (lv' := [(4, .int 6), (6, .int 0), (5, .int 1), (3, .ref 3466), (2, .ref 101), (1, .ref 0), (0, .retAddr 9)]) (st' := [.int 6]) (by decide +kernel) rfl rfl ?_
    refine ab_fin.s2 (i := .aload_n 0) (k := 1) (pc' := 26) (lv' := [(4, .int 6), (6, .int 0), (5, .int 1), (3, .ref 3466), (2, .ref 101), (1, .ref 0), (0, .retAddr 9)]) (st' := [.retAddr 9, .int 6]) (by decide +kernel) rfl rfl ?_
    refine ab_fin.s8 (i := .arraylength) (k := 1) (pc' := 27) (st' := [.int 6, .int 6]) (by decide +kernel) rfl rfl rfl rfl ?_
    refine ab_fin.s1i (i := .bipush 6) (k := 2) (pc' := 29) (n := 6) (by decide +kernel) rfl (by decide +kernel) rfl ?_
    refine ab_fin.s1i (i := .isub) (k := 1) (pc' := 30) (n := 0) (by decide +kernel) rfl (by decide +kernel) rfl ?_
    refine ab_fin.brT (c := (0 : Int32) < (6 : Int32)) (i := .if_icmp .gt 1066) (off := 1066) (t := 1096) (r := []) (by decide +kernel) rfl (by decide +kernel) (by decide +kernel) ?_
    refine ab_fin.s1i (i := .iconst 1) (k := 1) (pc' := 1097) (n := 1) (by decide +kernel) rfl (by decide +kernel) rfl ?_
    refine ab_fin.ret (i := .ireturn) (k := 1) (some (.int 1)) (by decide +kernel) rfl ?_
    refine ⟨rfl, ?_, ?_⟩
    · rw [ab_ov_len, hl1]; decide
    · refine Nat.le_trans (ab_ov_z _ _) ?_
      simp only [List.map, List.sum_cons, List.sum_nil, ab_z1, ab_len, List.length_set, List.length_replicate, List.length_cons, List.length_nil, p1_n101]
      have z1 : ab_z h1 = _ := hz1
      omega
  · refine ab_fin.s2 (i := .iload_n 1) (k := 1) (pc' := 5) (lv' := [(0, .ref 1), (1, .int ((xs 1)))]) (st' := [.int ((xs 1))]) (by decide +kernel) rfl rfl ?_
    refine ab_fin.s2 (i := .aload_n 0) (k := 1) (pc' := 6) (lv' := [(0, .ref 1), (1, .int ((xs 1)))]) (st' := [.ref 1, .int ((xs 1))]) (by decide +kernel) rfl rfl ?_
    refine ab_fin.getf (ix := 32) (k := 3) (v := .ref 28) (pc' := 9) (by decide +kernel) rfl (ab_ov_no f_1 rfl) rfl rfl ?_
    refine ab_fin.s1i (i := .iconst 0) (k := 1) (pc' := 10) (n := 0) (by decide +kernel) rfl (by decide +kernel) rfl ?_
    refine ab_fin.iald (v := 3) (pc' := 11) (by decide +kernel) (ab_ov_no f_28 rfl) (ab_bd (n := 4) (by rw [p1_n28]) (by decide +kernel)) rfl rfl ?_
    refine ab_fin.br (c := (3 : Int32) ≤ (xs 1)) (i := .if_icmp .ge 7) (off := 7) (t := 18) (pc' := 14) (r := []) (by decide +kernel) rfl (by decide +kernel) rfl (fun q2 => ?_) (fun q2 => ?_)
    · refine ab_fin.s1i (i := .iconst 0) (k := 1) (pc' := 19) (n := 0) (by decide +kernel) rfl (by decide +kernel) rfl ?_
      refine ab_fin.ret (i := .ireturn) (k := 1) (some (.int 0)) (by decide +kernel) rfl ?_
      refine ab_bk.back (pc' := 8) (st' := [.int 0]) rfl rfl ?_
      refine ab_fin.brT (c := (0 : Int32) = 0) (i := .ifCond .eq 14) (off := 14) (t := 22) (r := []) (by decide +kernel) rfl (by decide +kernel) (by decide +kernel) ?_
      refine ab_fin.thrN (i := .new 80) (k := 3) (cls := "java/lang/IndexOutOfBoundsException") (n := 3467) (by decide +kernel) (by decide +kernel) (fun ix q => by cases q; rfl) (by decide) (Nat.le_of_ble_eq_true rfl) ((ab_ov_len _ _).trans hl) (ab_ov_app (by rw [hl]; decide +kernel)) ?_
      obtain ⟨h1, e1⟩ : ∃ h2 : List ab_E, h2 = h ++ [.inl 6] := ⟨_, rfl⟩
      have hl1 : h1.length = 3468 := by rw [e1, List.length_append, hl]; rfl
      have lt1 : ∀ a, a < 3468 → a < h1.length := fun a q => by rw [hl1]; exact q
      have hz1 : ab_z h1 = ab_z h + 6 := by rw [e1, ab_z_app]; rfl
      have f1_0 := (show h1[0]? = h[0]? by rw [e1, List.getElem?_append_left (by rw [hl]; decide)]).trans f_0
      have f1_1 := (show h1[1]? = h[1]? by rw [e1, List.getElem?_append_left (by rw [hl]; decide)]).trans f_1
      have f1_2 := (show h1[2]? = h[2]? by rw [e1, List.getElem?_append_left (by rw [hl]; decide)]).trans f_2
      have f1_4 := (show h1[4]? = h[4]? by rw [e1, List.getElem?_append_left (by rw [hl]; decide)]).trans f_4
      have f1_28 := (show h1[28]? = h[28]? by rw [e1, List.getElem?_append_left (by rw [hl]; decide)]).trans f_28
      have f1_101 := (show h1[101]? = h[101]? by rw [e1, List.getElem?_append_left (by rw [hl]; decide)]).trans f_101
      have f1_1981 := (show h1[1981]? = h[1981]? by rw [e1, List.getElem?_append_left (by rw [hl]; decide)]).trans f_1981
      have f1_1982 := (show h1[1982]? = h[1982]? by rw [e1, List.getElem?_append_left (by rw [hl]; decide)]).trans f_1982
      have f1_1983 := (show h1[1983]? = h[1983]? by rw [e1, List.getElem?_append_left (by rw [hl]; decide)]).trans f_1983
      have f1_1984 := (show h1[1984]? = h[1984]? by rw [e1, List.getElem?_append_left (by rw [hl]; decide)]).trans f_1984
      have f1_3466 := (show h1[3466]? = h[3466]? by rw [e1, List.getElem?_append_left (by rw [hl]; decide)]).trans f_3466
      rw [← e1]
      refine ab_bk.catch (hp := 20) (by decide +kernel) rfl ?_
      refine ab_fin.s2 (i := .astore 4) (k := 2) (pc' := 22) (lv' := [(4, .ref 3467), (0, .ref 0), (1, .int ((xs 1))), (2, .int ((xs 2))), (3, .ref 3466)]) (st' := []) (by decide +kernel) rfl rfl ?_
      refine ab_fin.s1i (i := .iconst 1) (k := 1) (pc' := 23) (n := 1) (by decide +kernel) rfl (by decide +kernel) rfl ?_
      refine ab_fin.ret (i := .ireturn) (k := 1) (some (.int 1)) (by decide +kernel) rfl ?_
      refine ab_bk.back (pc' := 525) (st' := [.int 1]) rfl rfl ?_
      refine ab_fin.s2 (i := .istore 5) (k := 2) (pc' := 527) (lv' := [(5, .int 1), (4, .int 0), (3, .ref 3466), (2, .ref 101), (1, .ref 0), (0, .retAddr 9)]) (st' := []) (by decide +kernel) rfl rfl ?_
      refine ab_fin.s2 (i := .aload_n 2) (k := 1) (pc' := 528) (lv' := [(5, .int 1), (4, .int 0), (3, .ref 3466), (2, .ref 101), (1, .ref 0), (0, .retAddr 9)]) (st' := [.ref 101]) (by decide +kernel) rfl rfl ?_
      refine ab_fin.s2 (i := .aload_n 0) (k := 1) (pc' := 529) (lv' := [(5, .int 1), (4, .int 0), (3, .ref 3466), (2, .ref 101), (1, .ref 0), (0, .retAddr 9)]) (st' := [.retAddr 9, .ref 101]) (by decide +kernel) rfl rfl ?_
      refine ab_fin.s2 (i := .iload 4) (k := 2) (pc' := 531) (lv' := [(5, .int 1), (4, .int 0), (3, .ref 3466), (2, .ref 101), (1, .ref 0), (0, .retAddr 9)]) (st' := [.int 0, .retAddr 9, .ref 101]) (by decide +kernel) rfl rfl ?_
      refine ab_fin.s1i (i := .iconst 1) (k := 1) (pc' := 532) (n := 1) (by decide +kernel) rfl (by decide +kernel) rfl ?_
      refine ab_fin.s1i (i := .iadd) (k := 1) (pc' := 533) (n := 1) (by decide +kernel) rfl (by decide +kernel) rfl ?_
      refine ab_fin.s8 (i := .iaload) (k := 1) (pc' := 534) (st' := [.int ((xs 1)), .ref 101]) (by decide +kernel) (ab_x0 rfl (by decide +kernel) rfl) rfl rfl rfl ?_
      refine ab_fin.s2 (i := .aload_n 0) (k := 1) (pc' := 535) (lv' := [(5, .int 1), (4, .int 0), (3, .ref 3466), (2, .ref 101), (1, .ref 0), (0, .retAddr 9)]) (st' := [.retAddr 9, .int ((xs 1)), .ref 101]) (by decide +kernel) rfl rfl ?_
      refine ab_fin.s2 (i := .iload 4) (k := 2) (pc' := 537) (lv' := [(5, .int 1), (4, .int 0), (3, .ref 3466), (2, .ref 101), (1, .ref 0), (0, .retAddr 9)]) (st' := [.int 0, .retAddr 9, .int ((xs 1)), .ref 101]) (by decide +kernel) rfl rfl ?_
      refine ab_fin.s1i (i := .iconst 2) (k := 1) (pc' := 538) (n := 2) (by decide +kernel) rfl (by decide +kernel) rfl ?_
      refine ab_fin.s1i (i := .iadd) (k := 1) (pc' := 539) (n := 2) (by decide +kernel) rfl (by decide +kernel) rfl ?_
      refine ab_fin.s8 (i := .iaload) (k := 1) (pc' := 540) (st' := [.int ((xs 2)), .int ((xs 1)), .ref 101]) (by decide +kernel) (ab_x0 rfl (by decide +kernel) rfl) rfl rfl rfl ?_
      refine ab_fin.call (i := .invokevirtual 106) (k := 3) (y := 6002) (As := [.ref 101, .int ((xs 1)), .int ((xs 2))]) (rest := []) (M' := (mX23_below, [])) (by decide +kernel) (ab_cv rfl rfl (ab_ov_no f1_101 rfl) ⟨(Nat.le_of_ble_eq_true rfl), (Nat.le_of_ble_eq_true rfl)⟩ rfl) rfl (Nat.le_of_ble_eq_true rfl) ?_
      show ab_fin _ _ _ _ 0 [(0, .ref 101), (1, .int ((xs 1))), (2, .int ((xs 2)))] [] _ _
      refine ab_fin.s2 (i := .aload_n 0) (k := 1) (pc' := 1) (lv' := [(0, .ref 101), (1, .int ((xs 1))), (2, .int ((xs 2)))]) (st' := [.ref 101]) (by decide +kernel) rfl rfl ?_
      refine ab_fin.s1i (i := .iconst 0) (k := 1) (pc' := 2) (n := 0) (by decide +kernel) rfl (by decide +kernel) rfl ?_
      refine ab_fin.putf (ix := 1000) (h1 := ab_ov h1 [(101, .inr (.inr (24, (p1_o101).set 110 (.int 0))))]) (pc' := 5) (by decide +kernel) rfl (ab_ov_no f1_101 rfl) (ab_klt (n := 115) (by rw [p1_n101]) (by decide)) rfl rfl (ab_ov_set rfl) rfl ?_
      refine ab_fin.s2 (i := .aload_n 0) (k := 1) (pc' := 6) (lv' := [(0, .ref 101), (1, .int ((xs 1))), (2, .int ((xs 2)))]) (st' := [.ref 101]) (by decide +kernel) rfl rfl ?_
      refine ab_fin.s2 (i := .iload_n 1) (k := 1) (pc' := 7) (lv' := [(0, .ref 101), (1, .int ((xs 1))), (2, .int ((xs 2)))]) (st' := [.int ((xs 1)), .ref 101]) (by decide +kernel) rfl rfl ?_
      refine ab_fin.call (i := .invokevirtual 1018) (k := 3) (y := 6001) (As := [.ref 101, .int ((xs 1))]) (rest := []) (M' := (mX23_isKind, [])) (by decide +kernel) (ab_cv rfl rfl (ab_ov_get (lt1 101 (by decide)) rfl) ⟨(Nat.le_of_ble_eq_true rfl), (Nat.le_of_ble_eq_true rfl)⟩ rfl) rfl (Nat.le_of_ble_eq_true rfl) ?_
      show ab_fin _ _ _ _ 0 [(0, .ref 101), (1, .int ((xs 1)))] [] _ _
      refine ab_fin.s2 (i := .iload_n 1) (k := 1) (pc' := 1) (lv' := [(0, .ref 101), (1, .int ((xs 1)))]) (st' := [.int ((xs 1))]) (by decide +kernel) rfl rfl ?_
      refine ab_fin.brF (c := (xs 1) < 0) (i := .ifCond .lt 15) (off := 15) (t := 16) (pc' := 4) (r := []) (by decide +kernel) rfl (by decide +kernel) rfl (by have l0 : (0 : Int32).toInt = 0 := rfl; have l3 : (3 : Int32).toInt = 3 := rfl; simp only [← Int32.toInt_inj, Int32.lt_iff_toInt_lt, Int32.le_iff_toInt_le, l0, l3] at q1 q2 ⊢; omega) ?_
      refine ab_fin.s2 (i := .iload_n 1) (k := 1) (pc' := 5) (lv' := [(0, .ref 101), (1, .int ((xs 1)))]) (st' := [.int ((xs 1))]) (by decide +kernel) rfl rfl ?_
      refine ab_fin.s2 (i := .aload_n 0) (k := 1) (pc' := 6) (lv' := [(0, .ref 101), (1, .int ((xs 1)))]) (st' := [.ref 101, .int ((xs 1))]) (by decide +kernel) rfl rfl ?_
      refine ab_fin.getf (ix := 13) (k := 4) (v := .int 3) (pc' := 9) (by decide +kernel) rfl (ab_ov_get (lt1 101 (by decide)) rfl) rfl rfl ?_
      refine ab_fin.brT (c := (3 : Int32) ≤ (xs 1)) (i := .if_icmp .ge 7) (off := 7) (t := 16) (r := []) (by decide +kernel) rfl (by decide +kernel) (by have l0 : (0 : Int32).toInt = 0 := rfl; have l3 : (3 : Int32).toInt = 3 := rfl; simp only [← Int32.toInt_inj, Int32.lt_iff_toInt_lt, Int32.le_iff_toInt_le, l0, l3] at q1 q2 ⊢; omega) ?_
      refine ab_fin.s1i (i := .iconst 0) (k := 1) (pc' := 17) (n := 0) (by decide +kernel) rfl (by decide +kernel) rfl ?_
      refine ab_fin.ret (i := .ireturn) (k := 1) (some (.int 0)) (by decide +kernel) rfl ?_
      refine ab_bk.back (pc' := 10) (st' := [.int 0]) rfl rfl ?_
      refine ab_fin.brT (c := (0 : Int32) = 0) (i := .ifCond .eq 11) (off := 11) (t := 21) (r := []) (by decide +kernel) rfl (by decide +kernel) (by decide +kernel) ?_
      refine ab_fin.s2 (i := .aload_n 0) (k := 1) (pc' := 22) (lv' := [(0, .ref 101), (1, .int ((xs 1))), (2, .int ((xs 2)))]) (st' := [.ref 101]) (by decide +kernel) rfl rfl ?_
      refine ab_fin.s1i (i := .iconst 1) (k := 1) (pc' := 23) (n := 1) (by decide +kernel) rfl (by decide +kernel) rfl ?_
      refine ab_fin.call (i := .invokevirtual 1003) (k := 3) (y := 5993) (As := [.ref 101, .int 1]) (rest := []) (M' := (mX23_no_, [])) (by decide +kernel) (ab_cv rfl rfl (ab_ov_get (lt1 101 (by decide)) rfl) ⟨(Nat.le_of_ble_eq_true rfl), (Nat.le_of_ble_eq_true rfl)⟩ rfl) rfl (Nat.le_of_ble_eq_true rfl) ?_
      show ab_fin _ _ _ _ 0 [(0, .ref 101), (1, .int 1)] [] _ _
      refine ab_fin.s2 (i := .aload_n 0) (k := 1) (pc' := 1) (lv' := [(0, .ref 101), (1, .int 1)]) (st' := [.ref 101]) (by decide +kernel) rfl rfl ?_
      refine ab_fin.s2 (i := .iload_n 1) (k := 1) (pc' := 2) (lv' := [(0, .ref 101), (1, .int 1)]) (st' := [.int 1, .ref 101]) (by decide +kernel) rfl rfl ?_
      refine ab_fin.putf (ix := 1000) (h1 := ab_ov h1 [(101, .inr (.inr (24, (p1_o101).set 110 (.int 1))))]) (pc' := 5) (by decide +kernel) rfl (ab_ov_get (lt1 101 (by decide)) rfl) (ab_klt (n := 115) (by rw [List.length_set, p1_n101]) (by decide)) rfl rfl (ab_ov_set rfl) rfl ?_
      refine ab_fin.s1i (i := .iconst 0) (k := 1) (pc' := 6) (n := 0) (by decide +kernel) rfl (by decide +kernel) rfl ?_
      refine ab_fin.ret (i := .ireturn) (k := 1) (some (.int 0)) (by decide +kernel) rfl ?_
      refine ab_bk.back (pc' := 26) (st' := [.int 0]) rfl rfl ?_
      refine ab_fin.brT (c := (0 : Int32) ≤ 0) (i := .ifCond .le 7) (off := 7) (t := 33) (r := []) (by decide +kernel) rfl (by decide +kernel) (by decide +kernel) ?_
      refine ab_fin.s1i (i := .iconst 0) (k := 1) (pc' := 34) (n := 0) (by decide +kernel) rfl (by decide +kernel) rfl ?_
      refine ab_fin.ret (i := .ireturn) (k := 1) (some (.int 0)) (by decide +kernel) rfl ?_
      refine ab_bk.back (pc' := 543) (st' := [.int 0]) rfl rfl ?_
      refine ab_fin.s2 (i := .istore 6) (k := 2) (pc' := 545) (lv' := [(6, .int 0), (5, .int 1), (4, .int 0), (3, .ref 3466), (2, .ref 101), (1, .ref 0), (0, .retAddr 9)]) (st' := []) (by decide +kernel) rfl rfl ?_
      refine ab_fin.s2 (i := .aload_n 2) (k := 1) (pc' := 546) (lv' := [(6, .int 0), (5, .int 1), (4, .int 0), (3, .ref 3466), (2, .ref 101), (1, .ref 0), (0, .retAddr 9)]) (st' := [.ref 101]) (by decide +kernel) rfl rfl ?_
      refine ab_fin.call (i := .invokevirtual 75) (k := 3) (y := 5992) (As := [.ref 101]) (rest := []) (M' := (mX23_thrown, [])) (by decide +kernel) (ab_cv rfl rfl (ab_ov_get (lt1 101 (by decide)) rfl) ⟨(Nat.le_of_ble_eq_true rfl), (Nat.le_of_ble_eq_true rfl)⟩ rfl) rfl (Nat.le_of_ble_eq_true rfl) ?_
      show ab_fin _ _ _ _ 0 [(0, .ref 101)] [] _ _
      refine ab_fin.s2 (i := .aload_n 0) (k := 1) (pc' := 1) (lv' := [(0, .ref 101)]) (st' := [.ref 101]) (by decide +kernel) rfl rfl ?_
      refine ab_fin.getf (ix := 1000) (k := 110) (v := .int 1) (pc' := 4) (by decide +kernel) rfl (ab_ov_get (lt1 101 (by decide)) rfl) rfl rfl ?_
      refine ab_fin.ret (i := .ireturn) (k := 1) (some (.int 1)) (by decide +kernel) rfl ?_
      refine ab_bk.back (pc' := 549) (st' := [.int 1]) rfl rfl ?_
      refine ab_fin.s2 (i := .iload 5) (k := 2) (pc' := 551) (lv' := [(6, .int 0), (5, .int 1), (4, .int 0), (3, .ref 3466), (2, .ref 101), (1, .ref 0), (0, .retAddr 9)]) (st' := [.int 1, .int 1]) (by decide +kernel) rfl rfl ?_
      refine ab_fin.brT (c := (1 : Int32) = (1 : Int32)) (i := .if_icmp .eq 5) (off := 5) (t := 556) (r := []) (by decide +kernel) rfl (by decide +kernel) (by decide +kernel) ?_
      refine ab_fin.s2 (i := .iload 5) (k := 2) (pc' := 558) (lv' := [(6, .int 0), (5, .int 1), (4, .int 0), (3, .ref 3466), (2, .ref 101), (1, .ref 0), (0, .retAddr 9)]) (st' := [.int 1]) (by decide +kernel) rfl rfl ?_
      refine ab_fin.brT (c := ¬ (1 : Int32) = 0) (i := .ifCond .ne 22) (off := 22) (t := 580) (r := []) (by decide +kernel) rfl (by decide +kernel) (by decide +kernel) ?_
      refine ab_fin.s3 (i := .goto 510) (k := 3) (t := 1090) (st' := []) (by decide +kernel) (ab_goto (by decide +kernel)) ?_
      refine ab_fin.inc (i := .iinc 4 6) (k := 3) (pc' := 1093) (j := 4) (n := 6) (lv' := [(6, .int 0), (5, .int 1), (3, .ref 3466), (2, .ref 101), (1, .ref 0), (0, .retAddr 9)]) (by decide +kernel) rfl (by decide +kernel) rfl ?_
      refine ab_fin.s3 (i := .goto (-1070)) (k := 3) (t := 23) (st' := []) (by decide +kernel) (ab_goto (by decide +kernel)) ?_
      refine ab_fin.s2 (i := .iload 4) (k := 2) (pc' := 25) (lv' := [(4, .int 6), (6, .int 0), (5, .int 1), (3, .ref 3466), (2, .ref 101), (1, .ref 0), (0, .retAddr 9)]) (st' := [.int 6]) (by decide +kernel) rfl rfl ?_
      refine ab_fin.s2 (i := .aload_n 0) (k := 1) (pc' := 26) (lv' := [(4, .int 6), (6, .int 0), (5, .int 1), (3, .ref 3466), (2, .ref 101), (1, .ref 0), (0, .retAddr 9)]) (st' := [.retAddr 9, .int 6]) (by decide +kernel) rfl rfl ?_
      refine ab_fin.s8 (i := .arraylength) (k := 1) (pc' := 27) (st' := [.int 6, .int 6]) (by decide +kernel) rfl rfl rfl rfl ?_
      refine ab_fin.s1i (i := .bipush 6) (k := 2) (pc' := 29) (n := 6) (by decide +kernel) rfl (by decide +kernel) rfl ?_
      refine ab_fin.s1i (i := .isub) (k := 1) (pc' := 30) (n := 0) (by decide +kernel) rfl (by decide +kernel) rfl ?_
      refine ab_fin.brT (c := (0 : Int32) < (6 : Int32)) (i := .if_icmp .gt 1066) (off := 1066) (t := 1096) (r := []) (by decide +kernel) rfl (by decide +kernel) (by decide +kernel) ?_
      refine ab_fin.s1i (i := .iconst 1) (k := 1) (pc' := 1097) (n := 1) (by decide +kernel) rfl (by decide +kernel) rfl ?_
      refine ab_fin.ret (i := .ireturn) (k := 1) (some (.int 1)) (by decide +kernel) rfl ?_
      refine ⟨rfl, ?_, ?_⟩
      · rw [ab_ov_len, hl1]; decide
      · refine Nat.le_trans (ab_ov_z _ _) ?_
        simp only [List.map, List.sum_cons, List.sum_nil, ab_z1, ab_len, List.length_set, List.length_replicate, List.length_cons, List.length_nil, p1_n101]
        have z1 : ab_z h1 = _ := hz1
        omega
    · refine ab_fin.s1i (i := .iconst 1) (k := 1) (pc' := 15) (n := 1) (by decide +kernel) rfl (by decide +kernel) rfl ?_
      refine ab_fin.s3 (i := .goto 4) (k := 3) (t := 19) (st' := [.int 1]) (by decide +kernel) (ab_goto (by decide +kernel)) ?_
      refine ab_fin.ret (i := .ireturn) (k := 1) (some (.int 1)) (by decide +kernel) rfl ?_
      refine ab_bk.back (pc' := 8) (st' := [.int 1]) rfl rfl ?_
      refine ab_fin.brF (c := (1 : Int32) = 0) (i := .ifCond .eq 14) (off := 14) (t := 22) (pc' := 11) (r := []) (by decide +kernel) rfl (by decide +kernel) rfl (by decide +kernel) ?_
      refine ab_fin.s2 (i := .aload_n 0) (k := 1) (pc' := 12) (lv' := [(0, .ref 0), (1, .int ((xs 1))), (2, .int ((xs 2)))]) (st' := [.ref 0]) (by decide +kernel) rfl rfl ?_
      refine ab_fin.getf (ix := 10) (k := 0) (v := .ref 1) (pc' := 15) (by decide +kernel) rfl (ab_ov_no f_0 rfl) rfl rfl ?_
      refine ab_fin.s2 (i := .iload_n 2) (k := 1) (pc' := 16) (lv' := [(0, .ref 0), (1, .int ((xs 1))), (2, .int ((xs 2)))]) (st' := [.int ((xs 2)), .ref 1]) (by decide +kernel) rfl rfl ?_
      refine ab_fin.call (i := .invokevirtual 157) (k := 3) (y := 2817) (As := [.ref 1, .int ((xs 2))]) (rest := []) (M' := (mX11_isKind, [])) (by decide +kernel) (ab_cv rfl rfl (ab_ov_no f_1 rfl) ⟨(Nat.le_of_ble_eq_true rfl), (Nat.le_of_ble_eq_true rfl)⟩ rfl) rfl (Nat.le_of_ble_eq_true rfl) ?_
      show ab_fin _ _ _ _ 0 [(0, .ref 1), (1, .int ((xs 2)))] [] _ _
      refine ab_fin.s2 (i := .iload_n 1) (k := 1) (pc' := 1) (lv' := [(0, .ref 1), (1, .int ((xs 2)))]) (st' := [.int ((xs 2))]) (by decide +kernel) rfl rfl ?_
      refine ab_fin.br (c := (xs 2) < 0) (i := .ifCond .lt 17) (off := 17) (t := 18) (pc' := 4) (r := []) (by decide +kernel) rfl (by decide +kernel) rfl (fun q3 => ?_) (fun q3 => ?_)
      · refine ab_fin.s1i (i := .iconst 0) (k := 1) (pc' := 19) (n := 0) (by decide +kernel) rfl (by decide +kernel) rfl ?_
        refine ab_fin.ret (i := .ireturn) (k := 1) (some (.int 0)) (by decide +kernel) rfl ?_
        refine ab_bk.back (pc' := 19) (st' := [.int 0]) rfl rfl ?_
        refine ab_fin.brF (c := ¬ (0 : Int32) = 0) (i := .ifCond .ne 11) (off := 11) (t := 30) (pc' := 22) (r := []) (by decide +kernel) rfl (by decide +kernel) rfl (by decide +kernel) ?_
        refine ab_fin.thrN (i := .new 80) (k := 3) (cls := "java/lang/IndexOutOfBoundsException") (n := 3467) (by decide +kernel) (by decide +kernel) (fun ix q => by cases q; rfl) (by decide) (Nat.le_of_ble_eq_true rfl) ((ab_ov_len _ _).trans hl) (ab_ov_app (by rw [hl]; decide +kernel)) ?_
        obtain ⟨h1, e1⟩ : ∃ h2 : List ab_E, h2 = h ++ [.inl 6] := ⟨_, rfl⟩
        have hl1 : h1.length = 3468 := by rw [e1, List.length_append, hl]; rfl
        have lt1 : ∀ a, a < 3468 → a < h1.length := fun a q => by rw [hl1]; exact q
        have hz1 : ab_z h1 = ab_z h + 6 := by rw [e1, ab_z_app]; rfl
        have f1_0 := (show h1[0]? = h[0]? by rw [e1, List.getElem?_append_left (by rw [hl]; decide)]).trans f_0
        have f1_1 := (show h1[1]? = h[1]? by rw [e1, List.getElem?_append_left (by rw [hl]; decide)]).trans f_1
        have f1_2 := (show h1[2]? = h[2]? by rw [e1, List.getElem?_append_left (by rw [hl]; decide)]).trans f_2
        have f1_4 := (show h1[4]? = h[4]? by rw [e1, List.getElem?_append_left (by rw [hl]; decide)]).trans f_4
        have f1_28 := (show h1[28]? = h[28]? by rw [e1, List.getElem?_append_left (by rw [hl]; decide)]).trans f_28
        have f1_101 := (show h1[101]? = h[101]? by rw [e1, List.getElem?_append_left (by rw [hl]; decide)]).trans f_101
        have f1_1981 := (show h1[1981]? = h[1981]? by rw [e1, List.getElem?_append_left (by rw [hl]; decide)]).trans f_1981
        have f1_1982 := (show h1[1982]? = h[1982]? by rw [e1, List.getElem?_append_left (by rw [hl]; decide)]).trans f_1982
        have f1_1983 := (show h1[1983]? = h[1983]? by rw [e1, List.getElem?_append_left (by rw [hl]; decide)]).trans f_1983
        have f1_1984 := (show h1[1984]? = h[1984]? by rw [e1, List.getElem?_append_left (by rw [hl]; decide)]).trans f_1984
        have f1_3466 := (show h1[3466]? = h[3466]? by rw [e1, List.getElem?_append_left (by rw [hl]; decide)]).trans f_3466
        rw [← e1]
        refine ab_bk.catch (hp := 20) (by decide +kernel) rfl ?_
        refine ab_fin.s2 (i := .astore 4) (k := 2) (pc' := 22) (lv' := [(4, .ref 3467), (0, .ref 0), (1, .int ((xs 1))), (2, .int ((xs 2))), (3, .ref 3466)]) (st' := []) (by decide +kernel) rfl rfl ?_
        refine ab_fin.s1i (i := .iconst 1) (k := 1) (pc' := 23) (n := 1) (by decide +kernel) rfl (by decide +kernel) rfl ?_
        refine ab_fin.ret (i := .ireturn) (k := 1) (some (.int 1)) (by decide +kernel) rfl ?_
        refine ab_bk.back (pc' := 525) (st' := [.int 1]) rfl rfl ?_
        refine ab_fin.s2 (i := .istore 5) (k := 2) (pc' := 527) (lv' := [(5, .int 1), (4, .int 0), (3, .ref 3466), (2, .ref 101), (1, .ref 0), (0, .retAddr 9)]) (st' := []) (by decide +kernel) rfl rfl ?_
        refine ab_fin.s2 (i := .aload_n 2) (k := 1) (pc' := 528) (lv' := [(5, .int 1), (4, .int 0), (3, .ref 3466), (2, .ref 101), (1, .ref 0), (0, .retAddr 9)]) (st' := [.ref 101]) (by decide +kernel) rfl rfl ?_
        refine ab_fin.s2 (i := .aload_n 0) (k := 1) (pc' := 529) (lv' := [(5, .int 1), (4, .int 0), (3, .ref 3466), (2, .ref 101), (1, .ref 0), (0, .retAddr 9)]) (st' := [.retAddr 9, .ref 101]) (by decide +kernel) rfl rfl ?_
        refine ab_fin.s2 (i := .iload 4) (k := 2) (pc' := 531) (lv' := [(5, .int 1), (4, .int 0), (3, .ref 3466), (2, .ref 101), (1, .ref 0), (0, .retAddr 9)]) (st' := [.int 0, .retAddr 9, .ref 101]) (by decide +kernel) rfl rfl ?_
        refine ab_fin.s1i (i := .iconst 1) (k := 1) (pc' := 532) (n := 1) (by decide +kernel) rfl (by decide +kernel) rfl ?_
        refine ab_fin.s1i (i := .iadd) (k := 1) (pc' := 533) (n := 1) (by decide +kernel) rfl (by decide +kernel) rfl ?_
        refine ab_fin.s8 (i := .iaload) (k := 1) (pc' := 534) (st' := [.int ((xs 1)), .ref 101]) (by decide +kernel) (ab_x0 rfl (by decide +kernel) rfl) rfl rfl rfl ?_
        refine ab_fin.s2 (i := .aload_n 0) (k := 1) (pc' := 535) (lv' := [(5, .int 1), (4, .int 0), (3, .ref 3466), (2, .ref 101), (1, .ref 0), (0, .retAddr 9)]) (st' := [.retAddr 9, .int ((xs 1)), .ref 101]) (by decide +kernel) rfl rfl ?_
        refine ab_fin.s2 (i := .iload 4) (k := 2) (pc' := 537) (lv' := [(5, .int 1), (4, .int 0), (3, .ref 3466), (2, .ref 101), (1, .ref 0), (0, .retAddr 9)]) (st' := [.int 0, .retAddr 9, .int ((xs 1)), .ref 101]) (by decide +kernel) rfl rfl ?_
        refine ab_fin.s1i (i := .iconst 2) (k := 1) (pc' := 538) (n := 2) (by decide +kernel) rfl (by decide +kernel) rfl ?_
        refine ab_fin.s1i (i := .iadd) (k := 1) (pc' := 539) (n := 2) (by decide +kernel) rfl (by decide +kernel) rfl ?_
        refine ab_fin.s8 (i := .iaload) (k := 1) (pc' := 540) (st' := [.int ((xs 2)), .int ((xs 1)), .ref 101]) (by decide +kernel) (ab_x0 rfl (by decide +kernel) rfl) rfl rfl rfl ?_
        refine ab_fin.call (i := .invokevirtual 106) (k := 3) (y := 6002) (As := [.ref 101, .int ((xs 1)), .int ((xs 2))]) (rest := []) (M' := (mX23_below, [])) (by decide +kernel) (ab_cv rfl rfl (ab_ov_no f1_101 rfl) ⟨(Nat.le_of_ble_eq_true rfl), (Nat.le_of_ble_eq_true rfl)⟩ rfl) rfl (Nat.le_of_ble_eq_true rfl) ?_
        show ab_fin _ _ _ _ 0 [(0, .ref 101), (1, .int ((xs 1))), (2, .int ((xs 2)))] [] _ _
        refine ab_fin.s2 (i := .aload_n 0) (k := 1) (pc' := 1) (lv' := [(0, .ref 101), (1, .int ((xs 1))), (2, .int ((xs 2)))]) (st' := [.ref 101]) (by decide +kernel) rfl rfl ?_
        refine ab_fin.s1i (i := .iconst 0) (k := 1) (pc' := 2) (n := 0) (by decide +kernel) rfl (by decide +kernel) rfl ?_
        refine ab_fin.putf (ix := 1000) (h1 := ab_ov h1 [(101, .inr (.inr (24, (p1_o101).set 110 (.int 0))))]) (pc' := 5) (by decide +kernel) rfl (ab_ov_no f1_101 rfl) (ab_klt (n := 115) (by rw [p1_n101]) (by decide)) rfl rfl (ab_ov_set rfl) rfl ?_
        refine ab_fin.s2 (i := .aload_n 0) (k := 1) (pc' := 6) (lv' := [(0, .ref 101), (1, .int ((xs 1))), (2, .int ((xs 2)))]) (st' := [.ref 101]) (by decide +kernel) rfl rfl ?_
        refine ab_fin.s2 (i := .iload_n 1) (k := 1) (pc' := 7) (lv' := [(0, .ref 101), (1, .int ((xs 1))), (2, .int ((xs 2)))]) (st' := [.int ((xs 1)), .ref 101]) (by decide +kernel) rfl rfl ?_
        refine ab_fin.call (i := .invokevirtual 1018) (k := 3) (y := 6001) (As := [.ref 101, .int ((xs 1))]) (rest := []) (M' := (mX23_isKind, [])) (by decide +kernel) (ab_cv rfl rfl (ab_ov_get (lt1 101 (by decide)) rfl) ⟨(Nat.le_of_ble_eq_true rfl), (Nat.le_of_ble_eq_true rfl)⟩ rfl) rfl (Nat.le_of_ble_eq_true rfl) ?_
        show ab_fin _ _ _ _ 0 [(0, .ref 101), (1, .int ((xs 1)))] [] _ _
        refine ab_fin.s2 (i := .iload_n 1) (k := 1) (pc' := 1) (lv' := [(0, .ref 101), (1, .int ((xs 1)))]) (st' := [.int ((xs 1))]) (by decide +kernel) rfl rfl ?_
        refine ab_fin.brF (c := (xs 1) < 0) (i := .ifCond .lt 15) (off := 15) (t := 16) (pc' := 4) (r := []) (by decide +kernel) rfl (by decide +kernel) rfl (by have l0 : (0 : Int32).toInt = 0 := rfl; have l3 : (3 : Int32).toInt = 3 := rfl; simp only [← Int32.toInt_inj, Int32.lt_iff_toInt_lt, Int32.le_iff_toInt_le, l0, l3] at q1 q2 q3 ⊢; omega) ?_
        refine ab_fin.s2 (i := .iload_n 1) (k := 1) (pc' := 5) (lv' := [(0, .ref 101), (1, .int ((xs 1)))]) (st' := [.int ((xs 1))]) (by decide +kernel) rfl rfl ?_
        refine ab_fin.s2 (i := .aload_n 0) (k := 1) (pc' := 6) (lv' := [(0, .ref 101), (1, .int ((xs 1)))]) (st' := [.ref 101, .int ((xs 1))]) (by decide +kernel) rfl rfl ?_
        refine ab_fin.getf (ix := 13) (k := 4) (v := .int 3) (pc' := 9) (by decide +kernel) rfl (ab_ov_get (lt1 101 (by decide)) rfl) rfl rfl ?_
        refine ab_fin.brF (c := (3 : Int32) ≤ (xs 1)) (i := .if_icmp .ge 7) (off := 7) (t := 16) (pc' := 12) (r := []) (by decide +kernel) rfl (by decide +kernel) rfl (by have l0 : (0 : Int32).toInt = 0 := rfl; have l3 : (3 : Int32).toInt = 3 := rfl; simp only [← Int32.toInt_inj, Int32.lt_iff_toInt_lt, Int32.le_iff_toInt_le, l0, l3] at q1 q2 q3 ⊢; omega) ?_
        refine ab_fin.s1i (i := .iconst 1) (k := 1) (pc' := 13) (n := 1) (by decide +kernel) rfl (by decide +kernel) rfl ?_
        refine ab_fin.s3 (i := .goto 4) (k := 3) (t := 17) (st' := [.int 1]) (by decide +kernel) (ab_goto (by decide +kernel)) ?_
        refine ab_fin.ret (i := .ireturn) (k := 1) (some (.int 1)) (by decide +kernel) rfl ?_
        refine ab_bk.back (pc' := 10) (st' := [.int 1]) rfl rfl ?_
        refine ab_fin.brF (c := (1 : Int32) = 0) (i := .ifCond .eq 11) (off := 11) (t := 21) (pc' := 13) (r := []) (by decide +kernel) rfl (by decide +kernel) rfl (by decide +kernel) ?_
        refine ab_fin.s2 (i := .aload_n 0) (k := 1) (pc' := 14) (lv' := [(0, .ref 101), (1, .int ((xs 1))), (2, .int ((xs 2)))]) (st' := [.ref 101]) (by decide +kernel) rfl rfl ?_
        refine ab_fin.s2 (i := .iload_n 2) (k := 1) (pc' := 15) (lv' := [(0, .ref 101), (1, .int ((xs 1))), (2, .int ((xs 2)))]) (st' := [.int ((xs 2)), .ref 101]) (by decide +kernel) rfl rfl ?_
        refine ab_fin.call (i := .invokevirtual 1018) (k := 3) (y := 6001) (As := [.ref 101, .int ((xs 2))]) (rest := []) (M' := (mX23_isKind, [])) (by decide +kernel) (ab_cv rfl rfl (ab_ov_get (lt1 101 (by decide)) rfl) ⟨(Nat.le_of_ble_eq_true rfl), (Nat.le_of_ble_eq_true rfl)⟩ rfl) rfl (Nat.le_of_ble_eq_true rfl) ?_
        show ab_fin _ _ _ _ 0 [(0, .ref 101), (1, .int ((xs 2)))] [] _ _
        refine ab_fin.s2 (i := .iload_n 1) (k := 1) (pc' := 1) (lv' := [(0, .ref 101), (1, .int ((xs 2)))]) (st' := [.int ((xs 2))]) (by decide +kernel) rfl rfl ?_
        refine ab_fin.brT (c := (xs 2) < 0) (i := .ifCond .lt 15) (off := 15) (t := 16) (r := []) (by decide +kernel) rfl (by decide +kernel) (by have l0 : (0 : Int32).toInt = 0 := rfl; have l3 : (3 : Int32).toInt = 3 := rfl; simp only [← Int32.toInt_inj, Int32.lt_iff_toInt_lt, Int32.le_iff_toInt_le, l0, l3] at q1 q2 q3 ⊢; omega) ?_
        refine ab_fin.s1i (i := .iconst 0) (k := 1) (pc' := 17) (n := 0) (by decide +kernel) rfl (by decide +kernel) rfl ?_
        refine ab_fin.ret (i := .ireturn) (k := 1) (some (.int 0)) (by decide +kernel) rfl ?_
        refine ab_bk.back (pc' := 18) (st' := [.int 0]) rfl rfl ?_
        refine ab_fin.brF (c := ¬ (0 : Int32) = 0) (i := .ifCond .ne 17) (off := 17) (t := 35) (pc' := 21) (r := []) (by decide +kernel) rfl (by decide +kernel) rfl (by decide +kernel) ?_
        refine ab_fin.s2 (i := .aload_n 0) (k := 1) (pc' := 22) (lv' := [(0, .ref 101), (1, .int ((xs 1))), (2, .int ((xs 2)))]) (st' := [.ref 101]) (by decide +kernel) rfl rfl ?_
        refine ab_fin.s1i (i := .iconst 1) (k := 1) (pc' := 23) (n := 1) (by decide +kernel) rfl (by decide +kernel) rfl ?_
        refine ab_fin.call (i := .invokevirtual 1003) (k := 3) (y := 5993) (As := [.ref 101, .int 1]) (rest := []) (M' := (mX23_no_, [])) (by decide +kernel) (ab_cv rfl rfl (ab_ov_get (lt1 101 (by decide)) rfl) ⟨(Nat.le_of_ble_eq_true rfl), (Nat.le_of_ble_eq_true rfl)⟩ rfl) rfl (Nat.le_of_ble_eq_true rfl) ?_
        show ab_fin _ _ _ _ 0 [(0, .ref 101), (1, .int 1)] [] _ _
        refine ab_fin.s2 (i := .aload_n 0) (k := 1) (pc' := 1) (lv' := [(0, .ref 101), (1, .int 1)]) (st' := [.ref 101]) (by decide +kernel) rfl rfl ?_
        refine ab_fin.s2 (i := .iload_n 1) (k := 1) (pc' := 2) (lv' := [(0, .ref 101), (1, .int 1)]) (st' := [.int 1, .ref 101]) (by decide +kernel) rfl rfl ?_
        refine ab_fin.putf (ix := 1000) (h1 := ab_ov h1 [(101, .inr (.inr (24, (p1_o101).set 110 (.int 1))))]) (pc' := 5) (by decide +kernel) rfl (ab_ov_get (lt1 101 (by decide)) rfl) (ab_klt (n := 115) (by rw [List.length_set, p1_n101]) (by decide)) rfl rfl (ab_ov_set rfl) rfl ?_
        refine ab_fin.s1i (i := .iconst 0) (k := 1) (pc' := 6) (n := 0) (by decide +kernel) rfl (by decide +kernel) rfl ?_
        refine ab_fin.ret (i := .ireturn) (k := 1) (some (.int 0)) (by decide +kernel) rfl ?_
        refine ab_bk.back (pc' := 26) (st' := [.int 0]) rfl rfl ?_
        refine ab_fin.brT (c := (0 : Int32) ≤ 0) (i := .ifCond .le 7) (off := 7) (t := 33) (r := []) (by decide +kernel) rfl (by decide +kernel) (by decide +kernel) ?_
        refine ab_fin.s1i (i := .iconst 0) (k := 1) (pc' := 34) (n := 0) (by decide +kernel) rfl (by decide +kernel) rfl ?_
        refine ab_fin.ret (i := .ireturn) (k := 1) (some (.int 0)) (by decide +kernel) rfl ?_
        refine ab_bk.back (pc' := 543) (st' := [.int 0]) rfl rfl ?_
        refine ab_fin.s2 (i := .istore 6) (k := 2) (pc' := 545) (lv' := [(6, .int 0), (5, .int 1), (4, .int 0), (3, .ref 3466), (2, .ref 101), (1, .ref 0), (0, .retAddr 9)]) (st' := []) (by decide +kernel) rfl rfl ?_
        refine ab_fin.s2 (i := .aload_n 2) (k := 1) (pc' := 546) (lv' := [(6, .int 0), (5, .int 1), (4, .int 0), (3, .ref 3466), (2, .ref 101), (1, .ref 0), (0, .retAddr 9)]) (st' := [.ref 101]) (by decide +kernel) rfl rfl ?_
        refine ab_fin.call (i := .invokevirtual 75) (k := 3) (y := 5992) (As := [.ref 101]) (rest := []) (M' := (mX23_thrown, [])) (by decide +kernel) (ab_cv rfl rfl (ab_ov_get (lt1 101 (by decide)) rfl) ⟨(Nat.le_of_ble_eq_true rfl), (Nat.le_of_ble_eq_true rfl)⟩ rfl) rfl (Nat.le_of_ble_eq_true rfl) ?_
        show ab_fin _ _ _ _ 0 [(0, .ref 101)] [] _ _
        refine ab_fin.s2 (i := .aload_n 0) (k := 1) (pc' := 1) (lv' := [(0, .ref 101)]) (st' := [.ref 101]) (by decide +kernel) rfl rfl ?_
        refine ab_fin.getf (ix := 1000) (k := 110) (v := .int 1) (pc' := 4) (by decide +kernel) rfl (ab_ov_get (lt1 101 (by decide)) rfl) rfl rfl ?_
        refine ab_fin.ret (i := .ireturn) (k := 1) (some (.int 1)) (by decide +kernel) rfl ?_
        refine ab_bk.back (pc' := 549) (st' := [.int 1]) rfl rfl ?_
        refine ab_fin.s2 (i := .iload 5) (k := 2) (pc' := 551) (lv' := [(6, .int 0), (5, .int 1), (4, .int 0), (3, .ref 3466), (2, .ref 101), (1, .ref 0), (0, .retAddr 9)]) (st' := [.int 1, .int 1]) (by decide +kernel) rfl rfl ?_
        refine ab_fin.brT (c := (1 : Int32) = (1 : Int32)) (i := .if_icmp .eq 5) (off := 5) (t := 556) (r := []) (by decide +kernel) rfl (by decide +kernel) (by decide +kernel) ?_
        refine ab_fin.s2 (i := .iload 5) (k := 2) (pc' := 558) (lv' := [(6, .int 0), (5, .int 1), (4, .int 0), (3, .ref 3466), (2, .ref 101), (1, .ref 0), (0, .retAddr 9)]) (st' := [.int 1]) (by decide +kernel) rfl rfl ?_
        refine ab_fin.brT (c := ¬ (1 : Int32) = 0) (i := .ifCond .ne 22) (off := 22) (t := 580) (r := []) (by decide +kernel) rfl (by decide +kernel) (by decide +kernel) ?_
        refine ab_fin.s3 (i := .goto 510) (k := 3) (t := 1090) (st' := []) (by decide +kernel) (ab_goto (by decide +kernel)) ?_
        refine ab_fin.inc (i := .iinc 4 6) (k := 3) (pc' := 1093) (j := 4) (n := 6) (lv' := [(6, .int 0), (5, .int 1), (3, .ref 3466), (2, .ref 101), (1, .ref 0), (0, .retAddr 9)]) (by decide +kernel) rfl (by decide +kernel) rfl ?_
        refine ab_fin.s3 (i := .goto (-1070)) (k := 3) (t := 23) (st' := []) (by decide +kernel) (ab_goto (by decide +kernel)) ?_
        refine ab_fin.s2 (i := .iload 4) (k := 2) (pc' := 25) (lv' := [(4, .int 6), (6, .int 0), (5, .int 1), (3, .ref 3466), (2, .ref 101), (1, .ref 0), (0, .retAddr 9)]) (st' := [.int 6]) (by decide +kernel) rfl rfl ?_
        refine ab_fin.s2 (i := .aload_n 0) (k := 1) (pc' := 26) (lv' := [(4, .int 6), (6, .int 0), (5, .int 1), (3, .ref 3466), (2, .ref 101), (1, .ref 0), (0, .retAddr 9)]) (st' := [.retAddr 9, .int 6]) (by decide +kernel) rfl rfl ?_
        refine ab_fin.s8 (i := .arraylength) (k := 1) (pc' := 27) (st' := [.int 6, .int 6]) (by decide +kernel) rfl rfl rfl rfl ?_
        refine ab_fin.s1i (i := .bipush 6) (k := 2) (pc' := 29) (n := 6) (by decide +kernel) rfl (by decide +kernel) rfl ?_
        refine ab_fin.s1i (i := .isub) (k := 1) (pc' := 30) (n := 0) (by decide +kernel) rfl (by decide +kernel) rfl ?_
        refine ab_fin.brT (c := (0 : Int32) < (6 : Int32)) (i := .if_icmp .gt 1066) (off := 1066) (t := 1096) (r := []) (by decide +kernel) rfl (by decide +kernel) (by decide +kernel) ?_
        refine ab_fin.s1i (i := .iconst 1) (k := 1) (pc' := 1097) (n := 1) (by decide +kernel) rfl (by decide +kernel) rfl ?_
        refine ab_fin.ret (i := .ireturn) (k := 1) (some (.int 1)) (by decide +kernel) rfl ?_
        refine ⟨rfl, ?_, ?_⟩
        · rw [ab_ov_len, hl1]; decide
        · refine Nat.le_trans (ab_ov_z _ _) ?_
          simp only [List.map, List.sum_cons, List.sum_nil, ab_z1, ab_len, List.length_set, List.length_replicate, List.length_cons, List.length_nil, p1_n101]
          have z1 : ab_z h1 = _ := hz1
          omega
      · refine ab_fin.s2 (i := .iload_n 1) (k := 1) (pc' := 5) (lv' := [(0, .ref 1), (1, .int ((xs 2)))]) (st' := [.int ((xs 2))]) (by decide +kernel) rfl rfl ?_
        refine ab_fin.s2 (i := .aload_n 0) (k := 1) (pc' := 6) (lv' := [(0, .ref 1), (1, .int ((xs 2)))]) (st' := [.ref 1, .int ((xs 2))]) (by decide +kernel) rfl rfl ?_
        refine ab_fin.getf (ix := 32) (k := 3) (v := .ref 28) (pc' := 9) (by decide +kernel) rfl (ab_ov_no f_1 rfl) rfl rfl ?_
        refine ab_fin.s1i (i := .iconst 0) (k := 1) (pc' := 10) (n := 0) (by decide +kernel) rfl (by decide +kernel) rfl ?_
        refine ab_fin.iald (v := 3) (pc' := 11) (by decide +kernel) (ab_ov_no f_28 rfl) (ab_bd (n := 4) (by rw [p1_n28]) (by decide +kernel)) rfl rfl ?_
        refine ab_fin.br (c := (3 : Int32) ≤ (xs 2)) (i := .if_icmp .ge 7) (off := 7) (t := 18) (pc' := 14) (r := []) (by decide +kernel) rfl (by decide +kernel) rfl (fun q4 => ?_) (fun q4 => ?_)
        · refine ab_fin.s1i (i := .iconst 0) (k := 1) (pc' := 19) (n := 0) (by decide +kernel) rfl (by decide +kernel) rfl ?_
          refine ab_fin.ret (i := .ireturn) (k := 1) (some (.int 0)) (by decide +kernel) rfl ?_
          refine ab_bk.back (pc' := 19) (st' := [.int 0]) rfl rfl ?_
          refine ab_fin.brF (c := ¬ (0 : Int32) = 0) (i := .ifCond .ne 11) (off := 11) (t := 30) (pc' := 22) (r := []) (by decide +kernel) rfl (by decide +kernel) rfl (by decide +kernel) ?_
          refine ab_fin.thrN (i := .new 80) (k := 3) (cls := "java/lang/IndexOutOfBoundsException") (n := 3467) (by decide +kernel) (by decide +kernel) (fun ix q => by cases q; rfl) (by decide) (Nat.le_of_ble_eq_true rfl) ((ab_ov_len _ _).trans hl) (ab_ov_app (by rw [hl]; decide +kernel)) ?_
          obtain ⟨h1, e1⟩ : ∃ h2 : List ab_E, h2 = h ++ [.inl 6] := ⟨_, rfl⟩
          have hl1 : h1.length = 3468 := by rw [e1, List.length_append, hl]; rfl
          have lt1 : ∀ a, a < 3468 → a < h1.length := fun a q => by rw [hl1]; exact q
          have hz1 : ab_z h1 = ab_z h + 6 := by rw [e1, ab_z_app]; rfl
          have f1_0 := (show h1[0]? = h[0]? by rw [e1, List.getElem?_append_left (by rw [hl]; decide)]).trans f_0
          have f1_1 := (show h1[1]? = h[1]? by rw [e1, List.getElem?_append_left (by rw [hl]; decide)]).trans f_1
          have f1_2 := (show h1[2]? = h[2]? by rw [e1, List.getElem?_append_left (by rw [hl]; decide)]).trans f_2
          have f1_4 := (show h1[4]? = h[4]? by rw [e1, List.getElem?_append_left (by rw [hl]; decide)]).trans f_4
          have f1_28 := (show h1[28]? = h[28]? by rw [e1, List.getElem?_append_left (by rw [hl]; decide)]).trans f_28
          have f1_101 := (show h1[101]? = h[101]? by rw [e1, List.getElem?_append_left (by rw [hl]; decide)]).trans f_101
          have f1_1981 := (show h1[1981]? = h[1981]? by rw [e1, List.getElem?_append_left (by rw [hl]; decide)]).trans f_1981
          have f1_1982 := (show h1[1982]? = h[1982]? by rw [e1, List.getElem?_append_left (by rw [hl]; decide)]).trans f_1982
          have f1_1983 := (show h1[1983]? = h[1983]? by rw [e1, List.getElem?_append_left (by rw [hl]; decide)]).trans f_1983
          have f1_1984 := (show h1[1984]? = h[1984]? by rw [e1, List.getElem?_append_left (by rw [hl]; decide)]).trans f_1984
          have f1_3466 := (show h1[3466]? = h[3466]? by rw [e1, List.getElem?_append_left (by rw [hl]; decide)]).trans f_3466
          rw [← e1]
          refine ab_bk.catch (hp := 20) (by decide +kernel) rfl ?_
          refine ab_fin.s2 (i := .astore 4) (k := 2) (pc' := 22) (lv' := [(4, .ref 3467), (0, .ref 0), (1, .int ((xs 1))), (2, .int ((xs 2))), (3, .ref 3466)]) (st' := []) (by decide +kernel) rfl rfl ?_
          refine ab_fin.s1i (i := .iconst 1) (k := 1) (pc' := 23) (n := 1) (by decide +kernel) rfl (by decide +kernel) rfl ?_
          refine ab_fin.ret (i := .ireturn) (k := 1) (some (.int 1)) (by decide +kernel) rfl ?_
          refine ab_bk.back (pc' := 525) (st' := [.int 1]) rfl rfl ?_
          refine ab_fin.s2 (i := .istore 5) (k := 2) (pc' := 527) (lv' := [(5, .int 1), (4, .int 0), (3, .ref 3466), (2, .ref 101), (1, .ref 0), (0, .retAddr 9)]) (st' := []) (by decide +kernel) rfl rfl ?_
          refine ab_fin.s2 (i := .aload_n 2) (k := 1) (pc' := 528) (lv' := [(5, .int 1), (4, .int 0), (3, .ref 3466), (2, .ref 101), (1, .ref 0), (0, .retAddr 9)]) (st' := [.ref 101]) (by decide +kernel) rfl rfl ?_
          refine ab_fin.s2 (i := .aload_n 0) (k := 1) (pc' := 529) (lv' := [(5, .int 1), (4, .int 0), (3, .ref 3466), (2, .ref 101), (1, .ref 0), (0, .retAddr 9)]) (st' := [.retAddr 9, .ref 101]) (by decide +kernel) rfl rfl ?_
          refine ab_fin.s2 (i := .iload 4) (k := 2) (pc' := 531) (lv' := [(5, .int 1), (4, .int 0), (3, .ref 3466), (2, .ref 101), (1, .ref 0), (0, .retAddr 9)]) (st' := [.int 0, .retAddr 9, .ref 101]) (by decide +kernel) rfl rfl ?_
          refine ab_fin.s1i (i := .iconst 1) (k := 1) (pc' := 532) (n := 1) (by decide +kernel) rfl (by decide +kernel) rfl ?_
          refine ab_fin.s1i (i := .iadd) (k := 1) (pc' := 533) (n := 1) (by decide +kernel) rfl (by decide +kernel) rfl ?_
          refine ab_fin.s8 (i := .iaload) (k := 1) (pc' := 534) (st' := [.int ((xs 1)), .ref 101]) (by decide +kernel) (ab_x0 rfl (by decide +kernel) rfl) rfl rfl rfl ?_
          refine ab_fin.s2 (i := .aload_n 0) (k := 1) (pc' := 535) (lv' := [(5, .int 1), (4, .int 0), (3, .ref 3466), (2, .ref 101), (1, .ref 0), (0, .retAddr 9)]) (st' := [.retAddr 9, .int ((xs 1)), .ref 101]) (by decide +kernel) rfl rfl ?_
          refine ab_fin.s2 (i := .iload 4) (k := 2) (pc' := 537) (lv' := [(5, .int 1), (4, .int 0), (3, .ref 3466), (2, .ref 101), (1, .ref 0), (0, .retAddr 9)]) (st' := [.int 0, .retAddr 9, .int ((xs 1)), .ref 101]) (by decide +kernel) rfl rfl ?_
          refine ab_fin.s1i (i := .iconst 2) (k := 1) (pc' := 538) (n := 2) (by decide +kernel) rfl (by decide +kernel) rfl ?_
          refine ab_fin.s1i (i := .iadd) (k := 1) (pc' := 539) (n := 2) (by decide +kernel) rfl (by decide +kernel) rfl ?_
          refine ab_fin.s8 (i := .iaload) (k := 1) (pc' := 540) (st' := [.int ((xs 2)), .int ((xs 1)), .ref 101]) (by decide +kernel) (ab_x0 rfl (by decide +kernel) rfl) rfl rfl rfl ?_
          refine ab_fin.call (i := .invokevirtual 106) (k := 3) (y := 6002) (As := [.ref 101, .int ((xs 1)), .int ((xs 2))]) (rest := []) (M' := (mX23_below, [])) (by decide +kernel) (ab_cv rfl rfl (ab_ov_no f1_101 rfl) ⟨(Nat.le_of_ble_eq_true rfl), (Nat.le_of_ble_eq_true rfl)⟩ rfl) rfl (Nat.le_of_ble_eq_true rfl) ?_
          show ab_fin _ _ _ _ 0 [(0, .ref 101), (1, .int ((xs 1))), (2, .int ((xs 2)))] [] _ _
          refine ab_fin.s2 (i := .aload_n 0) (k := 1) (pc' := 1) (lv' := [(0, .ref 101), (1, .int ((xs 1))), (2, .int ((xs 2)))]) (st' := [.ref 101]) (by decide +kernel) rfl rfl ?_
          refine ab_fin.s1i (i := .iconst 0) (k := 1) (pc' := 2) (n := 0) (by decide +kernel) rfl (by decide +kernel) rfl ?_
          refine ab_fin.putf (ix := 1000) (h1 := ab_ov h1 [(101, .inr (.inr (24, (p1_o101).set 110 (.int 0))))]) (pc' := 5) (by decide +kernel) rfl (ab_ov_no f1_101 rfl) (ab_klt (n := 115) (by rw [p1_n101]) (by decide)) rfl rfl (ab_ov_set rfl) rfl ?_
          refine ab_fin.s2 (i := .aload_n 0) (k := 1) (pc' := 6) (lv' := [(0, .ref 101), (1, .int ((xs 1))), (2, .int ((xs 2)))]) (st' := [.ref 101]) (by decide +kernel) rfl rfl ?_
          refine ab_fin.s2 (i := .iload_n 1) (k := 1) (pc' := 7) (lv' := [(0, .ref 101), (1, .int ((xs 1))), (2, .int ((xs 2)))]) (st' := [.int ((xs 1)), .ref 101]) (by decide +kernel) rfl rfl ?_
          refine ab_fin.call (i := .invokevirtual 1018) (k := 3) (y := 6001) (As := [.ref 101, .int ((xs 1))]) (rest := []) (M' := (mX23_isKind, [])) (by decide +kernel) (ab_cv rfl rfl (ab_ov_get (lt1 101 (by decide)) rfl) ⟨(Nat.le_of_ble_eq_true rfl), (Nat.le_of_ble_eq_true rfl)⟩ rfl) rfl (Nat.le_of_ble_eq_true rfl) ?_
          show ab_fin _ _ _ _ 0 [(0, .ref 101), (1, .int ((xs 1)))] [] _ _
          refine ab_fin.s2 (i := .iload_n 1) (k := 1) (pc' := 1) (lv' := [(0, .ref 101), (1, .int ((xs 1)))]) (st' := [.int ((xs 1))]) (by decide +kernel) rfl rfl ?_
          refine ab_fin.brF (c := (xs 1) < 0) (i := .ifCond .lt 15) (off := 15) (t := 16) (pc' := 4) (r := []) (by decide +kernel) rfl (by decide +kernel) rfl (by have l0 : (0 : Int32).toInt = 0 := rfl; have l3 : (3 : Int32).toInt = 3 := rfl; simp only [← Int32.toInt_inj, Int32.lt_iff_toInt_lt, Int32.le_iff_toInt_le, l0, l3] at q1 q2 q3 q4 ⊢; omega) ?_
          refine ab_fin.s2 (i := .iload_n 1) (k := 1) (pc' := 5) (lv' := [(0, .ref 101), (1, .int ((xs 1)))]) (st' := [.int ((xs 1))]) (by decide +kernel) rfl rfl ?_
          refine ab_fin.s2 (i := .aload_n 0) (k := 1) (pc' := 6) (lv' := [(0, .ref 101), (1, .int ((xs 1)))]) (st' := [.ref 101, .int ((xs 1))]) (by decide +kernel) rfl rfl ?_
          refine ab_fin.getf (ix := 13) (k := 4) (v := .int 3) (pc' := 9) (by decide +kernel) rfl (ab_ov_get (lt1 101 (by decide)) rfl) rfl rfl ?_
          refine ab_fin.brF (c := (3 : Int32) ≤ (xs 1)) (i := .if_icmp .ge 7) (off := 7) (t := 16) (pc' := 12) (r := []) (by decide +kernel) rfl (by decide +kernel) rfl (by have l0 : (0 : Int32).toInt = 0 := rfl; have l3 : (3 : Int32).toInt = 3 := rfl; simp only [← Int32.toInt_inj, Int32.lt_iff_toInt_lt, Int32.le_iff_toInt_le, l0, l3] at q1 q2 q3 q4 ⊢; omega) ?_
          refine ab_fin.s1i (i := .iconst 1) (k := 1) (pc' := 13) (n := 1) (by decide +kernel) rfl (by decide +kernel) rfl ?_
          refine ab_fin.s3 (i := .goto 4) (k := 3) (t := 17) (st' := [.int 1]) (by decide +kernel) (ab_goto (by decide +kernel)) ?_
          refine ab_fin.ret (i := .ireturn) (k := 1) (some (.int 1)) (by decide +kernel) rfl ?_
          refine ab_bk.back (pc' := 10) (st' := [.int 1]) rfl rfl ?_
          refine ab_fin.brF (c := (1 : Int32) = 0) (i := .ifCond .eq 11) (off := 11) (t := 21) (pc' := 13) (r := []) (by decide +kernel) rfl (by decide +kernel) rfl (by decide +kernel) ?_
          refine ab_fin.s2 (i := .aload_n 0) (k := 1) (pc' := 14) (lv' := [(0, .ref 101), (1, .int ((xs 1))), (2, .int ((xs 2)))]) (st' := [.ref 101]) (by decide +kernel) rfl rfl ?_
          refine ab_fin.s2 (i := .iload_n 2) (k := 1) (pc' := 15) (lv' := [(0, .ref 101), (1, .int ((xs 1))), (2, .int ((xs 2)))]) (st' := [.int ((xs 2)), .ref 101]) (by decide +kernel) rfl rfl ?_
          refine ab_fin.call (i := .invokevirtual 1018) (k := 3) (y := 6001) (As := [.ref 101, .int ((xs 2))]) (rest := []) (M' := (mX23_isKind, [])) (by decide +kernel) (ab_cv rfl rfl (ab_ov_get (lt1 101 (by decide)) rfl) ⟨(Nat.le_of_ble_eq_true rfl), (Nat.le_of_ble_eq_true rfl)⟩ rfl) rfl (Nat.le_of_ble_eq_true rfl) ?_
          show ab_fin _ _ _ _ 0 [(0, .ref 101), (1, .int ((xs 2)))] [] _ _
          refine ab_fin.s2 (i := .iload_n 1) (k := 1) (pc' := 1) (lv' := [(0, .ref 101), (1, .int ((xs 2)))]) (st' := [.int ((xs 2))]) (by decide +kernel) rfl rfl ?_
          refine ab_fin.brF (c := (xs 2) < 0) (i := .ifCond .lt 15) (off := 15) (t := 16) (pc' := 4) (r := []) (by decide +kernel) rfl (by decide +kernel) rfl (by have l0 : (0 : Int32).toInt = 0 := rfl; have l3 : (3 : Int32).toInt = 3 := rfl; simp only [← Int32.toInt_inj, Int32.lt_iff_toInt_lt, Int32.le_iff_toInt_le, l0, l3] at q1 q2 q3 q4 ⊢; omega) ?_
          refine ab_fin.s2 (i := .iload_n 1) (k := 1) (pc' := 5) (lv' := [(0, .ref 101), (1, .int ((xs 2)))]) (st' := [.int ((xs 2))]) (by decide +kernel) rfl rfl ?_
          refine ab_fin.s2 (i := .aload_n 0) (k := 1) (pc' := 6) (lv' := [(0, .ref 101), (1, .int ((xs 2)))]) (st' := [.ref 101, .int ((xs 2))]) (by decide +kernel) rfl rfl ?_
          refine ab_fin.getf (ix := 13) (k := 4) (v := .int 3) (pc' := 9) (by decide +kernel) rfl (ab_ov_get (lt1 101 (by decide)) rfl) rfl rfl ?_
          refine ab_fin.brT (c := (3 : Int32) ≤ (xs 2)) (i := .if_icmp .ge 7) (off := 7) (t := 16) (r := []) (by decide +kernel) rfl (by decide +kernel) (by have l0 : (0 : Int32).toInt = 0 := rfl; have l3 : (3 : Int32).toInt = 3 := rfl; simp only [← Int32.toInt_inj, Int32.lt_iff_toInt_lt, Int32.le_iff_toInt_le, l0, l3] at q1 q2 q3 q4 ⊢; omega) ?_
          refine ab_fin.s1i (i := .iconst 0) (k := 1) (pc' := 17) (n := 0) (by decide +kernel) rfl (by decide +kernel) rfl ?_
          refine ab_fin.ret (i := .ireturn) (k := 1) (some (.int 0)) (by decide +kernel) rfl ?_
          refine ab_bk.back (pc' := 18) (st' := [.int 0]) rfl rfl ?_
          refine ab_fin.brF (c := ¬ (0 : Int32) = 0) (i := .ifCond .ne 17) (off := 17) (t := 35) (pc' := 21) (r := []) (by decide +kernel) rfl (by decide +kernel) rfl (by decide +kernel) ?_
          refine ab_fin.s2 (i := .aload_n 0) (k := 1) (pc' := 22) (lv' := [(0, .ref 101), (1, .int ((xs 1))), (2, .int ((xs 2)))]) (st' := [.ref 101]) (by decide +kernel) rfl rfl ?_
          refine ab_fin.s1i (i := .iconst 1) (k := 1) (pc' := 23) (n := 1) (by decide +kernel) rfl (by decide +kernel) rfl ?_
          refine ab_fin.call (i := .invokevirtual 1003) (k := 3) (y := 5993) (As := [.ref 101, .int 1]) (rest := []) (M' := (mX23_no_, [])) (by decide +kernel) (ab_cv rfl rfl (ab_ov_get (lt1 101 (by decide)) rfl) ⟨(Nat.le_of_ble_eq_true rfl), (Nat.le_of_ble_eq_true rfl)⟩ rfl) rfl (Nat.le_of_ble_eq_true rfl) ?_
          show ab_fin _ _ _ _ 0 [(0, .ref 101), (1, .int 1)] [] _ _
          refine ab_fin.s2 (i := .aload_n 0) (k := 1) (pc' := 1) (lv' := [(0, .ref 101), (1, .int 1)]) (st' := [.ref 101]) (by decide +kernel) rfl rfl ?_
          refine ab_fin.s2 (i := .iload_n 1) (k := 1) (pc' := 2) (lv' := [(0, .ref 101), (1, .int 1)]) (st' := [.int 1, .ref 101]) (by decide +kernel) rfl rfl ?_
          refine ab_fin.putf (ix := 1000) (h1 := ab_ov h1 [(101, .inr (.inr (24, (p1_o101).set 110 (.int 1))))]) (pc' := 5) (by decide +kernel) rfl (ab_ov_get (lt1 101 (by decide)) rfl) (ab_klt (n := 115) (by rw [List.length_set, p1_n101]) (by decide)) rfl rfl (ab_ov_set rfl) rfl ?_
          refine ab_fin.s1i (i := .iconst 0) (k := 1) (pc' := 6) (n := 0) (by decide +kernel) rfl (by decide +kernel) rfl ?_
          refine ab_fin.ret (i := .ireturn) (k := 1) (some (.int 0)) (by decide +kernel) rfl ?_
          refine ab_bk.back (pc' := 26) (st' := [.int 0]) rfl rfl ?_
          refine ab_fin.brT (c := (0 : Int32) ≤ 0) (i := .ifCond .le 7) (off := 7) (t := 33) (r := []) (by decide +kernel) rfl (by decide +kernel) (by decide +kernel) ?_
          refine ab_fin.s1i (i := .iconst 0) (k := 1) (pc' := 34) (n := 0) (by decide +kernel) rfl (by decide +kernel) rfl ?_
          refine ab_fin.ret (i := .ireturn) (k := 1) (some (.int 0)) (by decide +kernel) rfl ?_
          refine ab_bk.back (pc' := 543) (st' := [.int 0]) rfl rfl ?_
          refine ab_fin.s2 (i := .istore 6) (k := 2) (pc' := 545) (lv' := [(6, .int 0), (5, .int 1), (4, .int 0), (3, .ref 3466), (2, .ref 101), (1, .ref 0), (0, .retAddr 9)]) (st' := []) (by decide +kernel) rfl rfl ?_
          refine ab_fin.s2 (i := .aload_n 2) (k := 1) (pc' := 546) (lv' := [(6, .int 0), (5, .int 1), (4, .int 0), (3, .ref 3466), (2, .ref 101), (1, .ref 0), (0, .retAddr 9)]) (st' := [.ref 101]) (by decide +kernel) rfl rfl ?_
          refine ab_fin.call (i := .invokevirtual 75) (k := 3) (y := 5992) (As := [.ref 101]) (rest := []) (M' := (mX23_thrown, [])) (by decide +kernel) (ab_cv rfl rfl (ab_ov_get (lt1 101 (by decide)) rfl) ⟨(Nat.le_of_ble_eq_true rfl), (Nat.le_of_ble_eq_true rfl)⟩ rfl) rfl (Nat.le_of_ble_eq_true rfl) ?_
          show ab_fin _ _ _ _ 0 [(0, .ref 101)] [] _ _
          refine ab_fin.s2 (i := .aload_n 0) (k := 1) (pc' := 1) (lv' := [(0, .ref 101)]) (st' := [.ref 101]) (by decide +kernel) rfl rfl ?_
          refine ab_fin.getf (ix := 1000) (k := 110) (v := .int 1) (pc' := 4) (by decide +kernel) rfl (ab_ov_get (lt1 101 (by decide)) rfl) rfl rfl ?_
          refine ab_fin.ret (i := .ireturn) (k := 1) (some (.int 1)) (by decide +kernel) rfl ?_
          refine ab_bk.back (pc' := 549) (st' := [.int 1]) rfl rfl ?_
          refine ab_fin.s2 (i := .iload 5) (k := 2) (pc' := 551) (lv' := [(6, .int 0), (5, .int 1), (4, .int 0), (3, .ref 3466), (2, .ref 101), (1, .ref 0), (0, .retAddr 9)]) (st' := [.int 1, .int 1]) (by decide +kernel) rfl rfl ?_
          refine ab_fin.brT (c := (1 : Int32) = (1 : Int32)) (i := .if_icmp .eq 5) (off := 5) (t := 556) (r := []) (by decide +kernel) rfl (by decide +kernel) (by decide +kernel) ?_
          refine ab_fin.s2 (i := .iload 5) (k := 2) (pc' := 558) (lv' := [(6, .int 0), (5, .int 1), (4, .int 0), (3, .ref 3466), (2, .ref 101), (1, .ref 0), (0, .retAddr 9)]) (st' := [.int 1]) (by decide +kernel) rfl rfl ?_
          refine ab_fin.brT (c := ¬ (1 : Int32) = 0) (i := .ifCond .ne 22) (off := 22) (t := 580) (r := []) (by decide +kernel) rfl (by decide +kernel) (by decide +kernel) ?_
          refine ab_fin.s3 (i := .goto 510) (k := 3) (t := 1090) (st' := []) (by decide +kernel) (ab_goto (by decide +kernel)) ?_
          refine ab_fin.inc (i := .iinc 4 6) (k := 3) (pc' := 1093) (j := 4) (n := 6) (lv' := [(6, .int 0), (5, .int 1), (3, .ref 3466), (2, .ref 101), (1, .ref 0), (0, .retAddr 9)]) (by decide +kernel) rfl (by decide +kernel) rfl ?_
          refine ab_fin.s3 (i := .goto (-1070)) (k := 3) (t := 23) (st' := []) (by decide +kernel) (ab_goto (by decide +kernel)) ?_
          refine ab_fin.s2 (i := .iload 4) (k := 2) (pc' := 25) (lv' := [(4, .int 6), (6, .int 0), (5, .int 1), (3, .ref 3466), (2, .ref 101), (1, .ref 0), (0, .retAddr 9)]) (st' := [.int 6]) (by decide +kernel) rfl rfl ?_
          refine ab_fin.s2 (i := .aload_n 0) (k := 1) (pc' := 26) (lv' := [(4, .int 6), (6, .int 0), (5, .int 1), (3, .ref 3466), (2, .ref 101), (1, .ref 0), (0, .retAddr 9)]) (st' := [.retAddr 9, .int 6]) (by decide +kernel) rfl rfl ?_
          refine ab_fin.s8 (i := .arraylength) (k := 1) (pc' := 27) (st' := [.int 6, .int 6]) (by decide +kernel) rfl rfl rfl rfl ?_
          refine ab_fin.s1i (i := .bipush 6) (k := 2) (pc' := 29) (n := 6) (by decide +kernel) rfl (by decide +kernel) rfl ?_
          refine ab_fin.s1i (i := .isub) (k := 1) (pc' := 30) (n := 0) (by decide +kernel) rfl (by decide +kernel) rfl ?_
          refine ab_fin.brT (c := (0 : Int32) < (6 : Int32)) (i := .if_icmp .gt 1066) (off := 1066) (t := 1096) (r := []) (by decide +kernel) rfl (by decide +kernel) (by decide +kernel) ?_
          refine ab_fin.s1i (i := .iconst 1) (k := 1) (pc' := 1097) (n := 1) (by decide +kernel) rfl (by decide +kernel) rfl ?_
          refine ab_fin.ret (i := .ireturn) (k := 1) (some (.int 1)) (by decide +kernel) rfl ?_
          refine ⟨rfl, ?_, ?_⟩
          · rw [ab_ov_len, hl1]; decide
          · refine Nat.le_trans (ab_ov_z _ _) ?_
            simp only [List.map, List.sum_cons, List.sum_nil, ab_z1, ab_len, List.length_set, List.length_replicate, List.length_cons, List.length_nil, p1_n101]
            have z1 : ab_z h1 = _ := hz1
            omega
        · refine ab_fin.s1i (i := .iconst 1) (k := 1) (pc' := 15) (n := 1) (by decide +kernel) rfl (by decide +kernel) rfl ?_
          refine ab_fin.s3 (i := .goto 4) (k := 3) (t := 19) (st' := [.int 1]) (by decide +kernel) (ab_goto (by decide +kernel)) ?_
          refine ab_fin.ret (i := .ireturn) (k := 1) (some (.int 1)) (by decide +kernel) rfl ?_
          refine ab_bk.back (pc' := 19) (st' := [.int 1]) rfl rfl ?_
          refine ab_fin.brT (c := ¬ (1 : Int32) = 0) (i := .ifCond .ne 11) (off := 11) (t := 30) (r := []) (by decide +kernel) rfl (by decide +kernel) (by decide +kernel) ?_
          refine ab_fin.s2 (i := .aload_n 0) (k := 1) (pc' := 31) (lv' := [(0, .ref 0), (1, .int ((xs 1))), (2, .int ((xs 2)))]) (st' := [.ref 0]) (by decide +kernel) rfl rfl ?_
          refine ab_fin.getf (ix := 10) (k := 0) (v := .ref 1) (pc' := 34) (by decide +kernel) rfl (ab_ov_no f_0 rfl) rfl rfl ?_
          refine ab_fin.getf (ix := 160) (k := 0) (v := .ref 2) (pc' := 37) (by decide +kernel) rfl (ab_ov_no f_1 rfl) rfl rfl ?_
          refine ab_fin.s2 (i := .iload_n 1) (k := 1) (pc' := 38) (lv' := [(0, .ref 0), (1, .int ((xs 1))), (2, .int ((xs 2)))]) (st' := [.int ((xs 1)), .ref 2]) (by decide +kernel) rfl rfl ?_
          refine ab_fin.s2 (i := .iload_n 2) (k := 1) (pc' := 39) (lv' := [(0, .ref 0), (1, .int ((xs 1))), (2, .int ((xs 2)))]) (st' := [.int ((xs 2)), .int ((xs 1)), .ref 2]) (by decide +kernel) rfl rfl ?_
          refine ab_fin.call (i := .invokevirtual 164) (k := 3) (y := 513) (As := [.ref 2, .int ((xs 1)), .int ((xs 2))]) (rest := []) (M' := (mX2_isBelow, [])) (by decide +kernel) (ab_cv rfl rfl (ab_ov_no f_2 rfl) ⟨(Nat.le_of_ble_eq_true rfl), (Nat.le_of_ble_eq_true rfl)⟩ rfl) rfl (Nat.le_of_ble_eq_true rfl) ?_
          show ab_fin _ _ _ _ 0 [(0, .ref 2), (1, .int ((xs 1))), (2, .int ((xs 2)))] [] _ _
          refine ab_fin.s2 (i := .aload_n 0) (k := 1) (pc' := 1) (lv' := [(0, .ref 2), (1, .int ((xs 1))), (2, .int ((xs 2)))]) (st' := [.ref 2]) (by decide +kernel) rfl rfl ?_
          refine ab_fin.getf (ix := 15) (k := 1) (v := .ref 4) (pc' := 4) (by decide +kernel) rfl (ab_ov_no f_2 rfl) rfl rfl ?_
          refine ab_fin.s2 (i := .iload_n 1) (k := 1) (pc' := 5) (lv' := [(0, .ref 2), (1, .int ((xs 1))), (2, .int ((xs 2)))]) (st' := [.int ((xs 1)), .ref 4]) (by decide +kernel) rfl rfl ?_
          have q5 : (xs 1) = 0 ∨ (xs 1) = 1 ∨ (xs 1) = 2 := (by have l0 : (0 : Int32).toInt = 0 := rfl; have l1 : (1 : Int32).toInt = 1 := rfl; have l2 : (2 : Int32).toInt = 2 := rfl; have l3 : (3 : Int32).toInt = 3 := rfl; simp only [← Int32.toInt_inj, Int32.lt_iff_toInt_lt, Int32.le_iff_toInt_le, l0, l1, l2, l3] at q1 q2 q3 q4 ⊢; omega)
          rcases q5 with q5 | q5 | q5
          · rw [q5]
            refine ab_fin.iald (v := 1) (pc' := 6) (by decide +kernel) (ab_ov_no f_4 rfl) (ab_bd (n := 24) (by rw [p1_n4]) (by decide +kernel)) rfl rfl ?_
            refine ab_fin.s2 (i := .iload_n 2) (k := 1) (pc' := 7) (lv' := [(0, .ref 2), (1, .int 0), (2, .int ((xs 2)))]) (st' := [.int ((xs 2)), .int 1]) (by decide +kernel) rfl rfl ?_
            refine ab_fin.s1 (i := .ishr) (k := 1) (pc' := 8) (st' := [.int (((1 : Int32) >>> ((xs 2) &&& 31)))]) (by decide +kernel) rfl rfl ?_
            refine ab_fin.s1i (i := .iconst 1) (k := 1) (pc' := 9) (n := 1) (by decide +kernel) rfl (by decide +kernel) rfl ?_
            refine ab_fin.s1 (i := .iand) (k := 1) (pc' := 10) (st' := [.int ((((1 : Int32) >>> ((xs 2) &&& 31)) &&& (1 : Int32)))]) (by decide +kernel) rfl rfl ?_
            have q6 : (xs 2) = 0 ∨ (xs 2) = 1 ∨ (xs 2) = 2 := (by have l0 : (0 : Int32).toInt = 0 := rfl; have l1 : (1 : Int32).toInt = 1 := rfl; have l2 : (2 : Int32).toInt = 2 := rfl; have l3 : (3 : Int32).toInt = 3 := rfl; simp only [← Int32.toInt_inj, Int32.lt_iff_toInt_lt, Int32.le_iff_toInt_le, l0, l1, l2, l3] at q1 q2 q3 q4 q5 ⊢; omega)
            rcases q6 with q6 | q6 | q6
            · rw [q6]
              try rw [show (((1 : Int32) >>> (0 &&& 31)) &&& (1 : Int32)) = (1 : Int32) by decide +kernel]
              refine ab_fin.brF (c := (1 : Int32) = 0) (i := .ifCond .eq 7) (off := 7) (t := 17) (pc' := 13) (r := []) (by decide +kernel) rfl (by decide +kernel) rfl (by decide +kernel) ?_
              refine ab_fin.s1i (i := .iconst 1) (k := 1) (pc' := 14) (n := 1) (by decide +kernel) rfl (by decide +kernel) rfl ?_
              refine ab_fin.s3 (i := .goto 4) (k := 3) (t := 18) (st' := [.int 1]) (by decide +kernel) (ab_goto (by decide +kernel)) ?_
              refine ab_fin.ret (i := .ireturn) (k := 1) (some (.int 1)) (by decide +kernel) rfl ?_
              refine ab_bk.back (pc' := 42) (st' := [.int 1]) rfl rfl ?_
              refine ab_fin.ret (i := .ireturn) (k := 1) (some (.int 1)) (by decide +kernel) rfl ?_
              refine ab_bk.back (pc' := 8) (st' := [.int 1, .int 0, .ref 3466]) rfl rfl ?_
              refine ab_fin.brF (c := (1 : Int32) = 0) (i := .ifCond .eq 7) (off := 7) (t := 15) (pc' := 11) (r := [.int 0, .ref 3466]) (by decide +kernel) rfl (by decide +kernel) rfl (by decide +kernel) ?_
              refine ab_fin.s1l (i := .lconst 1) (k := 1) (pc' := 12) (n := 1) (by decide +kernel) rfl (by decide +kernel) rfl ?_
              refine ab_fin.s3 (i := .goto 4) (k := 3) (t := 16) (st' := [.long 1, .int 0, .ref 3466]) (by decide +kernel) (ab_goto (by decide +kernel)) ?_
              refine ab_fin.last (h1 := ab_ov h [(3466, .inr (.inl (1, .inr (.inl ((List.replicate 1 0).set 0 (1))))))]) (pc' := 17) (by decide +kernel) (ab_ov_no f_3466 rfl) (ab_bd (n := 1) (by rw [List.length_replicate]) (by decide +kernel)) (ab_ov_set rfl) rfl ?_
              refine ab_fin.s3 (i := .goto 7) (k := 3) (t := 24) (st' := []) (by decide +kernel) (ab_goto (by decide +kernel)) ?_
              refine ab_fin.s1i (i := .iconst 0) (k := 1) (pc' := 25) (n := 0) (by decide +kernel) rfl (by decide +kernel) rfl ?_
              refine ab_fin.ret (i := .ireturn) (k := 1) (some (.int 0)) (by decide +kernel) rfl ?_
              refine ab_bk.back (pc' := 525) (st' := [.int 0]) rfl rfl ?_
              refine ab_fin.s2 (i := .istore 5) (k := 2) (pc' := 527) (lv' := [(5, .int 0), (4, .int 0), (3, .ref 3466), (2, .ref 101), (1, .ref 0), (0, .retAddr 9)]) (st' := []) (by decide +kernel) rfl rfl ?_
              refine ab_fin.s2 (i := .aload_n 2) (k := 1) (pc' := 528) (lv' := [(5, .int 0), (4, .int 0), (3, .ref 3466), (2, .ref 101), (1, .ref 0), (0, .retAddr 9)]) (st' := [.ref 101]) (by decide +kernel) rfl rfl ?_
              refine ab_fin.s2 (i := .aload_n 0) (k := 1) (pc' := 529) (lv' := [(5, .int 0), (4, .int 0), (3, .ref 3466), (2, .ref 101), (1, .ref 0), (0, .retAddr 9)]) (st' := [.retAddr 9, .ref 101]) (by decide +kernel) rfl rfl ?_
              refine ab_fin.s2 (i := .iload 4) (k := 2) (pc' := 531) (lv' := [(5, .int 0), (4, .int 0), (3, .ref 3466), (2, .ref 101), (1, .ref 0), (0, .retAddr 9)]) (st' := [.int 0, .retAddr 9, .ref 101]) (by decide +kernel) rfl rfl ?_
              refine ab_fin.s1i (i := .iconst 1) (k := 1) (pc' := 532) (n := 1) (by decide +kernel) rfl (by decide +kernel) rfl ?_
              refine ab_fin.s1i (i := .iadd) (k := 1) (pc' := 533) (n := 1) (by decide +kernel) rfl (by decide +kernel) rfl ?_
              refine ab_fin.s8 (i := .iaload) (k := 1) (pc' := 534) (st' := [.int ((xs 1)), .ref 101]) (by decide +kernel) (ab_x0 rfl (by decide +kernel) rfl) rfl rfl rfl ?_
              refine ab_fin.s2 (i := .aload_n 0) (k := 1) (pc' := 535) (lv' := [(5, .int 0), (4, .int 0), (3, .ref 3466), (2, .ref 101), (1, .ref 0), (0, .retAddr 9)]) (st' := [.retAddr 9, .int ((xs 1)), .ref 101]) (by decide +kernel) rfl rfl ?_
              refine ab_fin.s2 (i := .iload 4) (k := 2) (pc' := 537) (lv' := [(5, .int 0), (4, .int 0), (3, .ref 3466), (2, .ref 101), (1, .ref 0), (0, .retAddr 9)]) (st' := [.int 0, .retAddr 9, .int ((xs 1)), .ref 101]) (by decide +kernel) rfl rfl ?_
              refine ab_fin.s1i (i := .iconst 2) (k := 1) (pc' := 538) (n := 2) (by decide +kernel) rfl (by decide +kernel) rfl ?_
              refine ab_fin.s1i (i := .iadd) (k := 1) (pc' := 539) (n := 2) (by decide +kernel) rfl (by decide +kernel) rfl ?_
              refine ab_fin.s8 (i := .iaload) (k := 1) (pc' := 540) (st' := [.int ((xs 2)), .int ((xs 1)), .ref 101]) (by decide +kernel) (ab_x0 rfl (by decide +kernel) rfl) rfl rfl rfl ?_
              refine ab_fin.call (i := .invokevirtual 106) (k := 3) (y := 6002) (As := [.ref 101, .int ((xs 1)), .int ((xs 2))]) (rest := []) (M' := (mX23_below, [])) (by decide +kernel) (ab_cv rfl rfl (ab_ov_no f_101 rfl) ⟨(Nat.le_of_ble_eq_true rfl), (Nat.le_of_ble_eq_true rfl)⟩ rfl) rfl (Nat.le_of_ble_eq_true rfl) ?_
              show ab_fin _ _ _ _ 0 [(0, .ref 101), (1, .int ((xs 1))), (2, .int ((xs 2)))] [] _ _
              refine ab_fin.s2 (i := .aload_n 0) (k := 1) (pc' := 1) (lv' := [(0, .ref 101), (1, .int ((xs 1))), (2, .int ((xs 2)))]) (st' := [.ref 101]) (by decide +kernel) rfl rfl ?_
              refine ab_fin.s1i (i := .iconst 0) (k := 1) (pc' := 2) (n := 0) (by decide +kernel) rfl (by decide +kernel) rfl ?_
              refine ab_fin.putf (ix := 1000) (h1 := ab_ov h [(101, .inr (.inr (24, (p1_o101).set 110 (.int 0)))), (3466, .inr (.inl (1, .inr (.inl ((List.replicate 1 0).set 0 (1))))))]) (pc' := 5) (by decide +kernel) rfl (ab_ov_no f_101 rfl) (ab_klt (n := 115) (by rw [p1_n101]) (by decide)) rfl rfl (ab_ov_set rfl) rfl ?_
              refine ab_fin.s2 (i := .aload_n 0) (k := 1) (pc' := 6) (lv' := [(0, .ref 101), (1, .int ((xs 1))), (2, .int ((xs 2)))]) (st' := [.ref 101]) (by decide +kernel) rfl rfl ?_
              refine ab_fin.s2 (i := .iload_n 1) (k := 1) (pc' := 7) (lv' := [(0, .ref 101), (1, .int ((xs 1))), (2, .int ((xs 2)))]) (st' := [.int ((xs 1)), .ref 101]) (by decide +kernel) rfl rfl ?_
              refine ab_fin.call (i := .invokevirtual 1018) (k := 3) (y := 6001) (As := [.ref 101, .int ((xs 1))]) (rest := []) (M' := (mX23_isKind, [])) (by decide +kernel) (ab_cv rfl rfl (ab_ov_get (lt0 101 (by decide)) rfl) ⟨(Nat.le_of_ble_eq_true rfl), (Nat.le_of_ble_eq_true rfl)⟩ rfl) rfl (Nat.le_of_ble_eq_true rfl) ?_
              show ab_fin _ _ _ _ 0 [(0, .ref 101), (1, .int ((xs 1)))] [] _ _
              refine ab_fin.s2 (i := .iload_n 1) (k := 1) (pc' := 1) (lv' := [(0, .ref 101), (1, .int ((xs 1)))]) (st' := [.int ((xs 1))]) (by decide +kernel) rfl rfl ?_
              refine ab_fin.brF (c := (xs 1) < 0) (i := .ifCond .lt 15) (off := 15) (t := 16) (pc' := 4) (r := []) (by decide +kernel) rfl (by decide +kernel) rfl (by have l0 : (0 : Int32).toInt = 0 := rfl; have l3 : (3 : Int32).toInt = 3 := rfl; simp only [← Int32.toInt_inj, Int32.lt_iff_toInt_lt, Int32.le_iff_toInt_le, l0, l3] at q1 q2 q3 q4 q5 q6 ⊢; omega) ?_
              refine ab_fin.s2 (i := .iload_n 1) (k := 1) (pc' := 5) (lv' := [(0, .ref 101), (1, .int ((xs 1)))]) (st' := [.int ((xs 1))]) (by decide +kernel) rfl rfl ?_
              refine ab_fin.s2 (i := .aload_n 0) (k := 1) (pc' := 6) (lv' := [(0, .ref 101), (1, .int ((xs 1)))]) (st' := [.ref 101, .int ((xs 1))]) (by decide +kernel) rfl rfl ?_
              refine ab_fin.getf (ix := 13) (k := 4) (v := .int 3) (pc' := 9) (by decide +kernel) rfl (ab_ov_get (lt0 101 (by decide)) rfl) rfl rfl ?_
              refine ab_fin.brF (c := (3 : Int32) ≤ (xs 1)) (i := .if_icmp .ge 7) (off := 7) (t := 16) (pc' := 12) (r := []) (by decide +kernel) rfl (by decide +kernel) rfl (by have l0 : (0 : Int32).toInt = 0 := rfl; have l3 : (3 : Int32).toInt = 3 := rfl; simp only [← Int32.toInt_inj, Int32.lt_iff_toInt_lt, Int32.le_iff_toInt_le, l0, l3] at q1 q2 q3 q4 q5 q6 ⊢; omega) ?_
              refine ab_fin.s1i (i := .iconst 1) (k := 1) (pc' := 13) (n := 1) (by decide +kernel) rfl (by decide +kernel) rfl ?_
              refine ab_fin.s3 (i := .goto 4) (k := 3) (t := 17) (st' := [.int 1]) (by decide +kernel) (ab_goto (by decide +kernel)) ?_
              refine ab_fin.ret (i := .ireturn) (k := 1) (some (.int 1)) (by decide +kernel) rfl ?_
              refine ab_bk.back (pc' := 10) (st' := [.int 1]) rfl rfl ?_
              refine ab_fin.brF (c := (1 : Int32) = 0) (i := .ifCond .eq 11) (off := 11) (t := 21) (pc' := 13) (r := []) (by decide +kernel) rfl (by decide +kernel) rfl (by decide +kernel) ?_
              refine ab_fin.s2 (i := .aload_n 0) (k := 1) (pc' := 14) (lv' := [(0, .ref 101), (1, .int ((xs 1))), (2, .int ((xs 2)))]) (st' := [.ref 101]) (by decide +kernel) rfl rfl ?_
              refine ab_fin.s2 (i := .iload_n 2) (k := 1) (pc' := 15) (lv' := [(0, .ref 101), (1, .int ((xs 1))), (2, .int ((xs 2)))]) (st' := [.int ((xs 2)), .ref 101]) (by decide +kernel) rfl rfl ?_
              refine ab_fin.call (i := .invokevirtual 1018) (k := 3) (y := 6001) (As := [.ref 101, .int ((xs 2))]) (rest := []) (M' := (mX23_isKind, [])) (by decide +kernel) (ab_cv rfl rfl (ab_ov_get (lt0 101 (by decide)) rfl) ⟨(Nat.le_of_ble_eq_true rfl), (Nat.le_of_ble_eq_true rfl)⟩ rfl) rfl (Nat.le_of_ble_eq_true rfl) ?_
              show ab_fin _ _ _ _ 0 [(0, .ref 101), (1, .int ((xs 2)))] [] _ _
              refine ab_fin.s2 (i := .iload_n 1) (k := 1) (pc' := 1) (lv' := [(0, .ref 101), (1, .int ((xs 2)))]) (st' := [.int ((xs 2))]) (by decide +kernel) rfl rfl ?_
              refine ab_fin.brF (c := (xs 2) < 0) (i := .ifCond .lt 15) (off := 15) (t := 16) (pc' := 4) (r := []) (by decide +kernel) rfl (by decide +kernel) rfl (by have l0 : (0 : Int32).toInt = 0 := rfl; have l3 : (3 : Int32).toInt = 3 := rfl; simp only [← Int32.toInt_inj, Int32.lt_iff_toInt_lt, Int32.le_iff_toInt_le, l0, l3] at q1 q2 q3 q4 q5 q6 ⊢; omega) ?_
              refine ab_fin.s2 (i := .iload_n 1) (k := 1) (pc' := 5) (lv' := [(0, .ref 101), (1, .int ((xs 2)))]) (st' := [.int ((xs 2))]) (by decide +kernel) rfl rfl ?_
              refine ab_fin.s2 (i := .aload_n 0) (k := 1) (pc' := 6) (lv' := [(0, .ref 101), (1, .int ((xs 2)))]) (st' := [.ref 101, .int ((xs 2))]) (by decide +kernel) rfl rfl ?_
              refine ab_fin.getf (ix := 13) (k := 4) (v := .int 3) (pc' := 9) (by decide +kernel) rfl (ab_ov_get (lt0 101 (by decide)) rfl) rfl rfl ?_
              refine ab_fin.brF (c := (3 : Int32) ≤ (xs 2)) (i := .if_icmp .ge 7) (off := 7) (t := 16) (pc' := 12) (r := []) (by decide +kernel) rfl (by decide +kernel) rfl (by have l0 : (0 : Int32).toInt = 0 := rfl; have l3 : (3 : Int32).toInt = 3 := rfl; simp only [← Int32.toInt_inj, Int32.lt_iff_toInt_lt, Int32.le_iff_toInt_le, l0, l3] at q1 q2 q3 q4 q5 q6 ⊢; omega) ?_
              refine ab_fin.s1i (i := .iconst 1) (k := 1) (pc' := 13) (n := 1) (by decide +kernel) rfl (by decide +kernel) rfl ?_
              refine ab_fin.s3 (i := .goto 4) (k := 3) (t := 17) (st' := [.int 1]) (by decide +kernel) (ab_goto (by decide +kernel)) ?_
              refine ab_fin.ret (i := .ireturn) (k := 1) (some (.int 1)) (by decide +kernel) rfl ?_
              refine ab_bk.back (pc' := 18) (st' := [.int 1]) rfl rfl ?_
              refine ab_fin.brT (c := ¬ (1 : Int32) = 0) (i := .ifCond .ne 17) (off := 17) (t := 35) (r := []) (by decide +kernel) rfl (by decide +kernel) (by decide +kernel) ?_
              refine ab_fin.s2 (i := .aload_n 0) (k := 1) (pc' := 36) (lv' := [(0, .ref 101), (1, .int ((xs 1))), (2, .int ((xs 2)))]) (st' := [.ref 101]) (by decide +kernel) rfl rfl ?_
              refine ab_fin.getf (ix := 490) (k := 36) (v := .ref 1981) (pc' := 39) (by decide +kernel) rfl (ab_ov_get (lt0 101 (by decide)) rfl) rfl rfl ?_
              refine ab_fin.s2 (i := .iload_n 1) (k := 1) (pc' := 40) (lv' := [(0, .ref 101), (1, .int ((xs 1))), (2, .int ((xs 2)))]) (st' := [.int ((xs 1)), .ref 1981]) (by decide +kernel) rfl rfl ?_
              have q8 : (xs 1) = 0 := (by have l0 : (0 : Int32).toInt = 0 := rfl; have l3 : (3 : Int32).toInt = 3 := rfl; simp only [← Int32.toInt_inj, Int32.lt_iff_toInt_lt, Int32.le_iff_toInt_le, l0, l3] at q1 q2 q3 q4 q5 q6 ⊢; omega)
              rw [q8]
              refine ab_fin.aald (v := .ref 1982) (pc' := 41) (by decide +kernel) (ab_ov_no f_1981 rfl) (by decide) rfl (ab_bd (n := 24) (by rw [p1_n1981]) (by decide +kernel)) rfl rfl ?_
              refine ab_fin.s2 (i := .iload_n 2) (k := 1) (pc' := 42) (lv' := [(0, .ref 101), (1, .int 0), (2, .int ((xs 2)))]) (st' := [.int ((xs 2)), .ref 1982]) (by decide +kernel) rfl rfl ?_
              have q9 : (xs 2) = 0 := (by have l0 : (0 : Int32).toInt = 0 := rfl; have l3 : (3 : Int32).toInt = 3 := rfl; simp only [← Int32.toInt_inj, Int32.lt_iff_toInt_lt, Int32.le_iff_toInt_le, l0, l3] at q1 q2 q3 q4 q5 q6 q8 ⊢; omega)
              rw [q9]
              refine ab_fin.bald (t := 3) (v := 1) (pc' := 43) (by decide +kernel) (by decide) (ab_ov_no f_1982 rfl) (ab_bd (n := 24) (by rw [p1_n1982]) (by decide +kernel)) rfl rfl ?_
              refine ab_fin.ret (i := .ireturn) (k := 1) (some (.int 1)) (by decide +kernel) rfl ?_
              refine ab_bk.back (pc' := 543) (st' := [.int 1]) rfl rfl ?_
              refine ab_fin.s2 (i := .istore 6) (k := 2) (pc' := 545) (lv' := [(6, .int 1), (5, .int 0), (4, .int 0), (3, .ref 3466), (2, .ref 101), (1, .ref 0), (0, .retAddr 9)]) (st' := []) (by decide +kernel) rfl rfl ?_
              refine ab_fin.s2 (i := .aload_n 2) (k := 1) (pc' := 546) (lv' := [(6, .int 1), (5, .int 0), (4, .int 0), (3, .ref 3466), (2, .ref 101), (1, .ref 0), (0, .retAddr 9)]) (st' := [.ref 101]) (by decide +kernel) rfl rfl ?_
              refine ab_fin.call (i := .invokevirtual 75) (k := 3) (y := 5992) (As := [.ref 101]) (rest := []) (M' := (mX23_thrown, [])) (by decide +kernel) (ab_cv rfl rfl (ab_ov_get (lt0 101 (by decide)) rfl) ⟨(Nat.le_of_ble_eq_true rfl), (Nat.le_of_ble_eq_true rfl)⟩ rfl) rfl (Nat.le_of_ble_eq_true rfl) ?_
              show ab_fin _ _ _ _ 0 [(0, .ref 101)] [] _ _
              refine ab_fin.s2 (i := .aload_n 0) (k := 1) (pc' := 1) (lv' := [(0, .ref 101)]) (st' := [.ref 101]) (by decide +kernel) rfl rfl ?_
              refine ab_fin.getf (ix := 1000) (k := 110) (v := .int 0) (pc' := 4) (by decide +kernel) rfl (ab_ov_get (lt0 101 (by decide)) rfl) rfl rfl ?_
              refine ab_fin.ret (i := .ireturn) (k := 1) (some (.int 0)) (by decide +kernel) rfl ?_
              refine ab_bk.back (pc' := 549) (st' := [.int 0]) rfl rfl ?_
              refine ab_fin.s2 (i := .iload 5) (k := 2) (pc' := 551) (lv' := [(6, .int 1), (5, .int 0), (4, .int 0), (3, .ref 3466), (2, .ref 101), (1, .ref 0), (0, .retAddr 9)]) (st' := [.int 0, .int 0]) (by decide +kernel) rfl rfl ?_
              refine ab_fin.brT (c := (0 : Int32) = (0 : Int32)) (i := .if_icmp .eq 5) (off := 5) (t := 556) (r := []) (by decide +kernel) rfl (by decide +kernel) (by decide +kernel) ?_
              refine ab_fin.s2 (i := .iload 5) (k := 2) (pc' := 558) (lv' := [(6, .int 1), (5, .int 0), (4, .int 0), (3, .ref 3466), (2, .ref 101), (1, .ref 0), (0, .retAddr 9)]) (st' := [.int 0]) (by decide +kernel) rfl rfl ?_
              refine ab_fin.brF (c := ¬ (0 : Int32) = 0) (i := .ifCond .ne 22) (off := 22) (t := 580) (pc' := 561) (r := []) (by decide +kernel) rfl (by decide +kernel) rfl (by decide +kernel) ?_
              refine ab_fin.s2 (i := .aload_n 3) (k := 1) (pc' := 562) (lv' := [(6, .int 1), (5, .int 0), (4, .int 0), (3, .ref 3466), (2, .ref 101), (1, .ref 0), (0, .retAddr 9)]) (st' := [.ref 3466]) (by decide +kernel) rfl rfl ?_
              refine ab_fin.s1i (i := .iconst 0) (k := 1) (pc' := 563) (n := 0) (by decide +kernel) rfl (by decide +kernel) rfl ?_
              refine ab_fin.lald (v := 1) (pc' := 564) (by decide +kernel) (ab_ov_get (lt0 3466 (by decide)) rfl) (ab_bd (n := 1) (by rw [List.length_set, List.length_replicate]) (by decide +kernel)) rfl rfl ?_
              refine ab_fin.s2 (i := .iload 6) (k := 2) (pc' := 566) (lv' := [(6, .int 1), (5, .int 0), (4, .int 0), (3, .ref 3466), (2, .ref 101), (1, .ref 0), (0, .retAddr 9)]) (st' := [.int 1, .long 1]) (by decide +kernel) rfl rfl ?_
              refine ab_fin.brF (c := (1 : Int32) = 0) (i := .ifCond .eq 7) (off := 7) (t := 573) (pc' := 569) (r := [.long 1]) (by decide +kernel) rfl (by decide +kernel) rfl (by decide +kernel) ?_
              refine ab_fin.s1l (i := .lconst 1) (k := 1) (pc' := 570) (n := 1) (by decide +kernel) rfl (by decide +kernel) rfl ?_
              refine ab_fin.s3 (i := .goto 4) (k := 3) (t := 574) (st' := [.long 1, .long 1]) (by decide +kernel) (ab_goto (by decide +kernel)) ?_
              refine ab_fin.s1i (i := .lcmp) (k := 1) (pc' := 575) (n := 0) (by decide +kernel) rfl (by decide +kernel) rfl ?_
              refine ab_fin.brT (c := (0 : Int32) = 0) (i := .ifCond .eq 5) (off := 5) (t := 580) (r := []) (by decide +kernel) rfl (by decide +kernel) (by decide +kernel) ?_
              refine ab_fin.s3 (i := .goto 510) (k := 3) (t := 1090) (st' := []) (by decide +kernel) (ab_goto (by decide +kernel)) ?_
              refine ab_fin.inc (i := .iinc 4 6) (k := 3) (pc' := 1093) (j := 4) (n := 6) (lv' := [(6, .int 1), (5, .int 0), (3, .ref 3466), (2, .ref 101), (1, .ref 0), (0, .retAddr 9)]) (by decide +kernel) rfl (by decide +kernel) rfl ?_
              refine ab_fin.s3 (i := .goto (-1070)) (k := 3) (t := 23) (st' := []) (by decide +kernel) (ab_goto (by decide +kernel)) ?_
              refine ab_fin.s2 (i := .iload 4) (k := 2) (pc' := 25) (lv' := [(4, .int 6), (6, .int 1), (5, .int 0), (3, .ref 3466), (2, .ref 101), (1, .ref 0), (0, .retAddr 9)]) (st' := [.int 6]) (by decide +kernel) rfl rfl ?_
              refine ab_fin.s2 (i := .aload_n 0) (k := 1) (pc' := 26) (lv' := [(4, .int 6), (6, .int 1), (5, .int 0), (3, .ref 3466), (2, .ref 101), (1, .ref 0), (0, .retAddr 9)]) (st' := [.retAddr 9, .int 6]) (by decide +kernel) rfl rfl ?_
              refine ab_fin.s8 (i := .arraylength) (k := 1) (pc' := 27) (st' := [.int 6, .int 6]) (by decide +kernel) rfl rfl rfl rfl ?_
              refine ab_fin.s1i (i := .bipush 6) (k := 2) (pc' := 29) (n := 6) (by decide +kernel) rfl (by decide +kernel) rfl ?_
              refine ab_fin.s1i (i := .isub) (k := 1) (pc' := 30) (n := 0) (by decide +kernel) rfl (by decide +kernel) rfl ?_
              refine ab_fin.brT (c := (0 : Int32) < (6 : Int32)) (i := .if_icmp .gt 1066) (off := 1066) (t := 1096) (r := []) (by decide +kernel) rfl (by decide +kernel) (by decide +kernel) ?_
              refine ab_fin.s1i (i := .iconst 1) (k := 1) (pc' := 1097) (n := 1) (by decide +kernel) rfl (by decide +kernel) rfl ?_
              refine ab_fin.ret (i := .ireturn) (k := 1) (some (.int 1)) (by decide +kernel) rfl ?_
              refine ⟨rfl, ?_, ?_⟩
              · rw [ab_ov_len, hl]; decide
              · refine Nat.le_trans (ab_ov_z _ _) ?_
                simp only [List.map, List.sum_cons, List.sum_nil, ab_z1, ab_len, List.length_set, List.length_replicate, List.length_cons, List.length_nil, p1_n101]
                omega
            · rw [q6]
              try rw [show (((1 : Int32) >>> (1 &&& 31)) &&& (1 : Int32)) = (0 : Int32) by decide +kernel]
              refine ab_fin.brT (c := (0 : Int32) = 0) (i := .ifCond .eq 7) (off := 7) (t := 17) (r := []) (by decide +kernel) rfl (by decide +kernel) (by decide +kernel) ?_
              refine ab_fin.s1i (i := .iconst 0) (k := 1) (pc' := 18) (n := 0) (by decide +kernel) rfl (by decide +kernel) rfl ?_
              refine ab_fin.ret (i := .ireturn) (k := 1) (some (.int 0)) (by decide +kernel) rfl ?_
              refine ab_bk.back (pc' := 42) (st' := [.int 0]) rfl rfl ?_
              refine ab_fin.ret (i := .ireturn) (k := 1) (some (.int 0)) (by decide +kernel) rfl ?_
              refine ab_bk.back (pc' := 8) (st' := [.int 0, .int 0, .ref 3466]) rfl rfl ?_
              refine ab_fin.brT (c := (0 : Int32) = 0) (i := .ifCond .eq 7) (off := 7) (t := 15) (r := [.int 0, .ref 3466]) (by decide +kernel) rfl (by decide +kernel) (by decide +kernel) ?_
              refine ab_fin.s1l (i := .lconst 0) (k := 1) (pc' := 16) (n := 0) (by decide +kernel) rfl (by decide +kernel) rfl ?_
              refine ab_fin.last (h1 := ab_ov h [(3466, .inr (.inl (1, .inr (.inl ((List.replicate 1 0).set 0 (0))))))]) (pc' := 17) (by decide +kernel) (ab_ov_no f_3466 rfl) (ab_bd (n := 1) (by rw [List.length_replicate]) (by decide +kernel)) (ab_ov_set rfl) rfl ?_
              refine ab_fin.s3 (i := .goto 7) (k := 3) (t := 24) (st' := []) (by decide +kernel) (ab_goto (by decide +kernel)) ?_
              refine ab_fin.s1i (i := .iconst 0) (k := 1) (pc' := 25) (n := 0) (by decide +kernel) rfl (by decide +kernel) rfl ?_
              refine ab_fin.ret (i := .ireturn) (k := 1) (some (.int 0)) (by decide +kernel) rfl ?_
              refine ab_bk.back (pc' := 525) (st' := [.int 0]) rfl rfl ?_
              refine ab_fin.s2 (i := .istore 5) (k := 2) (pc' := 527) (lv' := [(5, .int 0), (4, .int 0), (3, .ref 3466), (2, .ref 101), (1, .ref 0), (0, .retAddr 9)]) (st' := []) (by decide +kernel) rfl rfl ?_
              refine ab_fin.s2 (i := .aload_n 2) (k := 1) (pc' := 528) (lv' := [(5, .int 0), (4, .int 0), (3, .ref 3466), (2, .ref 101), (1, .ref 0), (0, .retAddr 9)]) (st' := [.ref 101]) (by decide +kernel) rfl rfl ?_
              refine ab_fin.s2 (i := .aload_n 0) (k := 1) (pc' := 529) (lv' := [(5, .int 0), (4, .int 0), (3, .ref 3466), (2, .ref 101), (1, .ref 0), (0, .retAddr 9)]) (st' := [.retAddr 9, .ref 101]) (by decide +kernel) rfl rfl ?_
              refine ab_fin.s2 (i := .iload 4) (k := 2) (pc' := 531) (lv' := [(5, .int 0), (4, .int 0), (3, .ref 3466), (2, .ref 101), (1, .ref 0), (0, .retAddr 9)]) (st' := [.int 0, .retAddr 9, .ref 101]) (by decide +kernel) rfl rfl ?_
              refine ab_fin.s1i (i := .iconst 1) (k := 1) (pc' := 532) (n := 1) (by decide +kernel) rfl (by decide +kernel) rfl ?_
              refine ab_fin.s1i (i := .iadd) (k := 1) (pc' := 533) (n := 1) (by decide +kernel) rfl (by decide +kernel) rfl ?_
              refine ab_fin.s8 (i := .iaload) (k := 1) (pc' := 534) (st' := [.int ((xs 1)), .ref 101]) (by decide +kernel) (ab_x0 rfl (by decide +kernel) rfl) rfl rfl rfl ?_
              refine ab_fin.s2 (i := .aload_n 0) (k := 1) (pc' := 535) (lv' := [(5, .int 0), (4, .int 0), (3, .ref 3466), (2, .ref 101), (1, .ref 0), (0, .retAddr 9)]) (st' := [.retAddr 9, .int ((xs 1)), .ref 101]) (by decide +kernel) rfl rfl ?_
              refine ab_fin.s2 (i := .iload 4) (k := 2) (pc' := 537) (lv' := [(5, .int 0), (4, .int 0), (3, .ref 3466), (2, .ref 101), (1, .ref 0), (0, .retAddr 9)]) (st' := [.int 0, .retAddr 9, .int ((xs 1)), .ref 101]) (by decide +kernel) rfl rfl ?_
              refine ab_fin.s1i (i := .iconst 2) (k := 1) (pc' := 538) (n := 2) (by decide +kernel) rfl (by decide +kernel) rfl ?_
              refine ab_fin.s1i (i := .iadd) (k := 1) (pc' := 539) (n := 2) (by decide +kernel) rfl (by decide +kernel) rfl ?_
              refine ab_fin.s8 (i := .iaload) (k := 1) (pc' := 540) (st' := [.int ((xs 2)), .int ((xs 1)), .ref 101]) (by decide +kernel) (ab_x0 rfl (by decide +kernel) rfl) rfl rfl rfl ?_
              refine ab_fin.call (i := .invokevirtual 106) (k := 3) (y := 6002) (As := [.ref 101, .int ((xs 1)), .int ((xs 2))]) (rest := []) (M' := (mX23_below, [])) (by decide +kernel) (ab_cv rfl rfl (ab_ov_no f_101 rfl) ⟨(Nat.le_of_ble_eq_true rfl), (Nat.le_of_ble_eq_true rfl)⟩ rfl) rfl (Nat.le_of_ble_eq_true rfl) ?_
              show ab_fin _ _ _ _ 0 [(0, .ref 101), (1, .int ((xs 1))), (2, .int ((xs 2)))] [] _ _
              refine ab_fin.s2 (i := .aload_n 0) (k := 1) (pc' := 1) (lv' := [(0, .ref 101), (1, .int ((xs 1))), (2, .int ((xs 2)))]) (st' := [.ref 101]) (by decide +kernel) rfl rfl ?_
              refine ab_fin.s1i (i := .iconst 0) (k := 1) (pc' := 2) (n := 0) (by decide +kernel) rfl (by decide +kernel) rfl ?_
              refine ab_fin.putf (ix := 1000) (h1 := ab_ov h [(101, .inr (.inr (24, (p1_o101).set 110 (.int 0)))), (3466, .inr (.inl (1, .inr (.inl ((List.replicate 1 0).set 0 (0))))))]) (pc' := 5) (by decide +kernel) rfl (ab_ov_no f_101 rfl) (ab_klt (n := 115) (by rw [p1_n101]) (by decide)) rfl rfl (ab_ov_set rfl) rfl ?_
              refine ab_fin.s2 (i := .aload_n 0) (k := 1) (pc' := 6) (lv' := [(0, .ref 101), (1, .int ((xs 1))), (2, .int ((xs 2)))]) (st' := [.ref 101]) (by decide +kernel) rfl rfl ?_
              refine ab_fin.s2 (i := .iload_n 1) (k := 1) (pc' := 7) (lv' := [(0, .ref 101), (1, .int ((xs 1))), (2, .int ((xs 2)))]) (st' := [.int ((xs 1)), .ref 101]) (by decide +kernel) rfl rfl ?_
              refine ab_fin.call (i := .invokevirtual 1018) (k := 3) (y := 6001) (As := [.ref 101, .int ((xs 1))]) (rest := []) (M' := (mX23_isKind, [])) (by decide +kernel) (ab_cv rfl rfl (ab_ov_get (lt0 101 (by decide)) rfl) ⟨(Nat.le_of_ble_eq_true rfl), (Nat.le_of_ble_eq_true rfl)⟩ rfl) rfl (Nat.le_of_ble_eq_true rfl) ?_
              show ab_fin _ _ _ _ 0 [(0, .ref 101), (1, .int ((xs 1)))] [] _ _
              refine ab_fin.s2 (i := .iload_n 1) (k := 1) (pc' := 1) (lv' := [(0, .ref 101), (1, .int ((xs 1)))]) (st' := [.int ((xs 1))]) (by decide +kernel) rfl rfl ?_
              refine ab_fin.brF (c := (xs 1) < 0) (i := .ifCond .lt 15) (off := 15) (t := 16) (pc' := 4) (r := []) (by decide +kernel) rfl (by decide +kernel) rfl (by have l0 : (0 : Int32).toInt = 0 := rfl; have l1 : (1 : Int32).toInt = 1 := rfl; have l3 : (3 : Int32).toInt = 3 := rfl; simp only [← Int32.toInt_inj, Int32.lt_iff_toInt_lt, Int32.le_iff_toInt_le, l0, l1, l3] at q1 q2 q3 q4 q5 q6 ⊢; omega) ?_
              refine ab_fin.s2 (i := .iload_n 1) (k := 1) (pc' := 5) (lv' := [(0, .ref 101), (1, .int ((xs 1)))]) (st' := [.int ((xs 1))]) (by decide +kernel) rfl rfl ?_
              refine ab_fin.s2 (i := .aload_n 0) (k := 1) (pc' := 6) (lv' := [(0, .ref 101), (1, .int ((xs 1)))]) (st' := [.ref 101, .int ((xs 1))]) (by decide +kernel) rfl rfl ?_
              refine ab_fin.getf (ix := 13) (k := 4) (v := .int 3) (pc' := 9) (by decide +kernel) rfl (ab_ov_get (lt0 101 (by decide)) rfl) rfl rfl ?_
              refine ab_fin.brF (c := (3 : Int32) ≤ (xs 1)) (i := .if_icmp .ge 7) (off := 7) (t := 16) (pc' := 12) (r := []) (by decide +kernel) rfl (by decide +kernel) rfl (by have l0 : (0 : Int32).toInt = 0 := rfl; have l1 : (1 : Int32).toInt = 1 := rfl; have l3 : (3 : Int32).toInt = 3 := rfl; simp only [← Int32.toInt_inj, Int32.lt_iff_toInt_lt, Int32.le_iff_toInt_le, l0, l1, l3] at q1 q2 q3 q4 q5 q6 ⊢; omega) ?_
              refine ab_fin.s1i (i := .iconst 1) (k := 1) (pc' := 13) (n := 1) (by decide +kernel) rfl (by decide +kernel) rfl ?_
              refine ab_fin.s3 (i := .goto 4) (k := 3) (t := 17) (st' := [.int 1]) (by decide +kernel) (ab_goto (by decide +kernel)) ?_
              refine ab_fin.ret (i := .ireturn) (k := 1) (some (.int 1)) (by decide +kernel) rfl ?_
              refine ab_bk.back (pc' := 10) (st' := [.int 1]) rfl rfl ?_
              refine ab_fin.brF (c := (1 : Int32) = 0) (i := .ifCond .eq 11) (off := 11) (t := 21) (pc' := 13) (r := []) (by decide +kernel) rfl (by decide +kernel) rfl (by decide +kernel) ?_
              refine ab_fin.s2 (i := .aload_n 0) (k := 1) (pc' := 14) (lv' := [(0, .ref 101), (1, .int ((xs 1))), (2, .int ((xs 2)))]) (st' := [.ref 101]) (by decide +kernel) rfl rfl ?_
              refine ab_fin.s2 (i := .iload_n 2) (k := 1) (pc' := 15) (lv' := [(0, .ref 101), (1, .int ((xs 1))), (2, .int ((xs 2)))]) (st' := [.int ((xs 2)), .ref 101]) (by decide +kernel) rfl rfl ?_
              refine ab_fin.call (i := .invokevirtual 1018) (k := 3) (y := 6001) (As := [.ref 101, .int ((xs 2))]) (rest := []) (M' := (mX23_isKind, [])) (by decide +kernel) (ab_cv rfl rfl (ab_ov_get (lt0 101 (by decide)) rfl) ⟨(Nat.le_of_ble_eq_true rfl), (Nat.le_of_ble_eq_true rfl)⟩ rfl) rfl (Nat.le_of_ble_eq_true rfl) ?_
              show ab_fin _ _ _ _ 0 [(0, .ref 101), (1, .int ((xs 2)))] [] _ _
              refine ab_fin.s2 (i := .iload_n 1) (k := 1) (pc' := 1) (lv' := [(0, .ref 101), (1, .int ((xs 2)))]) (st' := [.int ((xs 2))]) (by decide +kernel) rfl rfl ?_
              refine ab_fin.brF (c := (xs 2) < 0) (i := .ifCond .lt 15) (off := 15) (t := 16) (pc' := 4) (r := []) (by decide +kernel) rfl (by decide +kernel) rfl (by have l0 : (0 : Int32).toInt = 0 := rfl; have l1 : (1 : Int32).toInt = 1 := rfl; have l3 : (3 : Int32).toInt = 3 := rfl; simp only [← Int32.toInt_inj, Int32.lt_iff_toInt_lt, Int32.le_iff_toInt_le, l0, l1, l3] at q1 q2 q3 q4 q5 q6 ⊢; omega) ?_
              refine ab_fin.s2 (i := .iload_n 1) (k := 1) (pc' := 5) (lv' := [(0, .ref 101), (1, .int ((xs 2)))]) (st' := [.int ((xs 2))]) (by decide +kernel) rfl rfl ?_
              refine ab_fin.s2 (i := .aload_n 0) (k := 1) (pc' := 6) (lv' := [(0, .ref 101), (1, .int ((xs 2)))]) (st' := [.ref 101, .int ((xs 2))]) (by decide +kernel) rfl rfl ?_
              refine ab_fin.getf (ix := 13) (k := 4) (v := .int 3) (pc' := 9) (by decide +kernel) rfl (ab_ov_get (lt0 101 (by decide)) rfl) rfl rfl ?_
              refine ab_fin.brF (c := (3 : Int32) ≤ (xs 2)) (i := .if_icmp .ge 7) (off := 7) (t := 16) (pc' := 12) (r := []) (by decide +kernel) rfl (by decide +kernel) rfl (by have l0 : (0 : Int32).toInt = 0 := rfl; have l1 : (1 : Int32).toInt = 1 := rfl; have l3 : (3 : Int32).toInt = 3 := rfl; simp only [← Int32.toInt_inj, Int32.lt_iff_toInt_lt, Int32.le_iff_toInt_le, l0, l1, l3] at q1 q2 q3 q4 q5 q6 ⊢; omega) ?_
              refine ab_fin.s1i (i := .iconst 1) (k := 1) (pc' := 13) (n := 1) (by decide +kernel) rfl (by decide +kernel) rfl ?_
              refine ab_fin.s3 (i := .goto 4) (k := 3) (t := 17) (st' := [.int 1]) (by decide +kernel) (ab_goto (by decide +kernel)) ?_
              refine ab_fin.ret (i := .ireturn) (k := 1) (some (.int 1)) (by decide +kernel) rfl ?_
              refine ab_bk.back (pc' := 18) (st' := [.int 1]) rfl rfl ?_
              refine ab_fin.brT (c := ¬ (1 : Int32) = 0) (i := .ifCond .ne 17) (off := 17) (t := 35) (r := []) (by decide +kernel) rfl (by decide +kernel) (by decide +kernel) ?_
              refine ab_fin.s2 (i := .aload_n 0) (k := 1) (pc' := 36) (lv' := [(0, .ref 101), (1, .int ((xs 1))), (2, .int ((xs 2)))]) (st' := [.ref 101]) (by decide +kernel) rfl rfl ?_
              refine ab_fin.getf (ix := 490) (k := 36) (v := .ref 1981) (pc' := 39) (by decide +kernel) rfl (ab_ov_get (lt0 101 (by decide)) rfl) rfl rfl ?_
              refine ab_fin.s2 (i := .iload_n 1) (k := 1) (pc' := 40) (lv' := [(0, .ref 101), (1, .int ((xs 1))), (2, .int ((xs 2)))]) (st' := [.int ((xs 1)), .ref 1981]) (by decide +kernel) rfl rfl ?_
              have q11 : (xs 1) = 0 := (by have l0 : (0 : Int32).toInt = 0 := rfl; have l1 : (1 : Int32).toInt = 1 := rfl; have l3 : (3 : Int32).toInt = 3 := rfl; simp only [← Int32.toInt_inj, Int32.lt_iff_toInt_lt, Int32.le_iff_toInt_le, l0, l1, l3] at q1 q2 q3 q4 q5 q6 ⊢; omega)
              rw [q11]
              refine ab_fin.aald (v := .ref 1982) (pc' := 41) (by decide +kernel) (ab_ov_no f_1981 rfl) (by decide) rfl (ab_bd (n := 24) (by rw [p1_n1981]) (by decide +kernel)) rfl rfl ?_
              refine ab_fin.s2 (i := .iload_n 2) (k := 1) (pc' := 42) (lv' := [(0, .ref 101), (1, .int 0), (2, .int ((xs 2)))]) (st' := [.int ((xs 2)), .ref 1982]) (by decide +kernel) rfl rfl ?_
              have q12 : (xs 2) = 1 := (by have l0 : (0 : Int32).toInt = 0 := rfl; have l1 : (1 : Int32).toInt = 1 := rfl; have l3 : (3 : Int32).toInt = 3 := rfl; simp only [← Int32.toInt_inj, Int32.lt_iff_toInt_lt, Int32.le_iff_toInt_le, l0, l1, l3] at q1 q2 q3 q4 q5 q6 q11 ⊢; omega)
              rw [q12]
              refine ab_fin.bald (t := 3) (v := 0) (pc' := 43) (by decide +kernel) (by decide) (ab_ov_no f_1982 rfl) (ab_bd (n := 24) (by rw [p1_n1982]) (by decide +kernel)) rfl rfl ?_
              refine ab_fin.ret (i := .ireturn) (k := 1) (some (.int 0)) (by decide +kernel) rfl ?_
              refine ab_bk.back (pc' := 543) (st' := [.int 0]) rfl rfl ?_
              refine ab_fin.s2 (i := .istore 6) (k := 2) (pc' := 545) (lv' := [(6, .int 0), (5, .int 0), (4, .int 0), (3, .ref 3466), (2, .ref 101), (1, .ref 0), (0, .retAddr 9)]) (st' := []) (by decide +kernel) rfl rfl ?_
              refine ab_fin.s2 (i := .aload_n 2) (k := 1) (pc' := 546) (lv' := [(6, .int 0), (5, .int 0), (4, .int 0), (3, .ref 3466), (2, .ref 101), (1, .ref 0), (0, .retAddr 9)]) (st' := [.ref 101]) (by decide +kernel) rfl rfl ?_
              refine ab_fin.call (i := .invokevirtual 75) (k := 3) (y := 5992) (As := [.ref 101]) (rest := []) (M' := (mX23_thrown, [])) (by decide +kernel) (ab_cv rfl rfl (ab_ov_get (lt0 101 (by decide)) rfl) ⟨(Nat.le_of_ble_eq_true rfl), (Nat.le_of_ble_eq_true rfl)⟩ rfl) rfl (Nat.le_of_ble_eq_true rfl) ?_
              show ab_fin _ _ _ _ 0 [(0, .ref 101)] [] _ _
              refine ab_fin.s2 (i := .aload_n 0) (k := 1) (pc' := 1) (lv' := [(0, .ref 101)]) (st' := [.ref 101]) (by decide +kernel) rfl rfl ?_
              refine ab_fin.getf (ix := 1000) (k := 110) (v := .int 0) (pc' := 4) (by decide +kernel) rfl (ab_ov_get (lt0 101 (by decide)) rfl) rfl rfl ?_
              refine ab_fin.ret (i := .ireturn) (k := 1) (some (.int 0)) (by decide +kernel) rfl ?_
              refine ab_bk.back (pc' := 549) (st' := [.int 0]) rfl rfl ?_
              refine ab_fin.s2 (i := .iload 5) (k := 2) (pc' := 551) (lv' := [(6, .int 0), (5, .int 0), (4, .int 0), (3, .ref 3466), (2, .ref 101), (1, .ref 0), (0, .retAddr 9)]) (st' := [.int 0, .int 0]) (by decide +kernel) rfl rfl ?_
              refine ab_fin.brT (c := (0 : Int32) = (0 : Int32)) (i := .if_icmp .eq 5) (off := 5) (t := 556) (r := []) (by decide +kernel) rfl (by decide +kernel) (by decide +kernel) ?_
              refine ab_fin.s2 (i := .iload 5) (k := 2) (pc' := 558) (lv' := [(6, .int 0), (5, .int 0), (4, .int 0), (3, .ref 3466), (2, .ref 101), (1, .ref 0), (0, .retAddr 9)]) (st' := [.int 0]) (by decide +kernel) rfl rfl ?_
              refine ab_fin.brF (c := ¬ (0 : Int32) = 0) (i := .ifCond .ne 22) (off := 22) (t := 580) (pc' := 561) (r := []) (by decide +kernel) rfl (by decide +kernel) rfl (by decide +kernel) ?_
              refine ab_fin.s2 (i := .aload_n 3) (k := 1) (pc' := 562) (lv' := [(6, .int 0), (5, .int 0), (4, .int 0), (3, .ref 3466), (2, .ref 101), (1, .ref 0), (0, .retAddr 9)]) (st' := [.ref 3466]) (by decide +kernel) rfl rfl ?_
              refine ab_fin.s1i (i := .iconst 0) (k := 1) (pc' := 563) (n := 0) (by decide +kernel) rfl (by decide +kernel) rfl ?_
              refine ab_fin.lald (v := 0) (pc' := 564) (by decide +kernel) (ab_ov_get (lt0 3466 (by decide)) rfl) (ab_bd (n := 1) (by rw [List.length_set, List.length_replicate]) (by decide +kernel)) rfl rfl ?_
              refine ab_fin.s2 (i := .iload 6) (k := 2) (pc' := 566) (lv' := [(6, .int 0), (5, .int 0), (4, .int 0), (3, .ref 3466), (2, .ref 101), (1, .ref 0), (0, .retAddr 9)]) (st' := [.int 0, .long 0]) (by decide +kernel) rfl rfl ?_
              refine ab_fin.brT (c := (0 : Int32) = 0) (i := .ifCond .eq 7) (off := 7) (t := 573) (r := [.long 0]) (by decide +kernel) rfl (by decide +kernel) (by decide +kernel) ?_
              refine ab_fin.s1l (i := .lconst 0) (k := 1) (pc' := 574) (n := 0) (by decide +kernel) rfl (by decide +kernel) rfl ?_
              refine ab_fin.s1i (i := .lcmp) (k := 1) (pc' := 575) (n := 0) (by decide +kernel) rfl (by decide +kernel) rfl ?_
              refine ab_fin.brT (c := (0 : Int32) = 0) (i := .ifCond .eq 5) (off := 5) (t := 580) (r := []) (by decide +kernel) rfl (by decide +kernel) (by decide +kernel) ?_
              refine ab_fin.s3 (i := .goto 510) (k := 3) (t := 1090) (st' := []) (by decide +kernel) (ab_goto (by decide +kernel)) ?_
              refine ab_fin.inc (i := .iinc 4 6) (k := 3) (pc' := 1093) (j := 4) (n := 6) (lv' := [(6, .int 0), (5, .int 0), (3, .ref 3466), (2, .ref 101), (1, .ref 0), (0, .retAddr 9)]) (by decide +kernel) rfl (by decide +kernel) rfl ?_
              refine ab_fin.s3 (i := .goto (-1070)) (k := 3) (t := 23) (st' := []) (by decide +kernel) (ab_goto (by decide +kernel)) ?_
              refine ab_fin.s2 (i := .iload 4) (k := 2) (pc' := 25) (lv' := [(4, .int 6), (6, .int 0), (5, .int 0), (3, .ref 3466), (2, .ref 101), (1, .ref 0), (0, .retAddr 9)]) (st' := [.int 6]) (by decide +kernel) rfl rfl ?_
              refine ab_fin.s2 (i := .aload_n 0) (k := 1) (pc' := 26) (lv' := [(4, .int 6), (6, .int 0), (5, .int 0), (3, .ref 3466), (2, .ref 101), (1, .ref 0), (0, .retAddr 9)]) (st' := [.retAddr 9, .int 6]) (by decide +kernel) rfl rfl ?_
              refine ab_fin.s8 (i := .arraylength) (k := 1) (pc' := 27) (st' := [.int 6, .int 6]) (by decide +kernel) rfl rfl rfl rfl ?_
              refine ab_fin.s1i (i := .bipush 6) (k := 2) (pc' := 29) (n := 6) (by decide +kernel) rfl (by decide +kernel) rfl ?_
              refine ab_fin.s1i (i := .isub) (k := 1) (pc' := 30) (n := 0) (by decide +kernel) rfl (by decide +kernel) rfl ?_
              refine ab_fin.brT (c := (0 : Int32) < (6 : Int32)) (i := .if_icmp .gt 1066) (off := 1066) (t := 1096) (r := []) (by decide +kernel) rfl (by decide +kernel) (by decide +kernel) ?_
              refine ab_fin.s1i (i := .iconst 1) (k := 1) (pc' := 1097) (n := 1) (by decide +kernel) rfl (by decide +kernel) rfl ?_
              refine ab_fin.ret (i := .ireturn) (k := 1) (some (.int 1)) (by decide +kernel) rfl ?_
              refine ⟨rfl, ?_, ?_⟩
              · rw [ab_ov_len, hl]; decide
              · refine Nat.le_trans (ab_ov_z _ _) ?_
                simp only [List.map, List.sum_cons, List.sum_nil, ab_z1, ab_len, List.length_set, List.length_replicate, List.length_cons, List.length_nil, p1_n101]
                omega
            · rw [q6]
              try rw [show (((1 : Int32) >>> (2 &&& 31)) &&& (1 : Int32)) = (0 : Int32) by decide +kernel]
              refine ab_fin.brT (c := (0 : Int32) = 0) (i := .ifCond .eq 7) (off := 7) (t := 17) (r := []) (by decide +kernel) rfl (by decide +kernel) (by decide +kernel) ?_
              refine ab_fin.s1i (i := .iconst 0) (k := 1) (pc' := 18) (n := 0) (by decide +kernel) rfl (by decide +kernel) rfl ?_
              refine ab_fin.ret (i := .ireturn) (k := 1) (some (.int 0)) (by decide +kernel) rfl ?_
              refine ab_bk.back (pc' := 42) (st' := [.int 0]) rfl rfl ?_
              refine ab_fin.ret (i := .ireturn) (k := 1) (some (.int 0)) (by decide +kernel) rfl ?_
              refine ab_bk.back (pc' := 8) (st' := [.int 0, .int 0, .ref 3466]) rfl rfl ?_
              refine ab_fin.brT (c := (0 : Int32) = 0) (i := .ifCond .eq 7) (off := 7) (t := 15) (r := [.int 0, .ref 3466]) (by decide +kernel) rfl (by decide +kernel) (by decide +kernel) ?_
              refine ab_fin.s1l (i := .lconst 0) (k := 1) (pc' := 16) (n := 0) (by decide +kernel) rfl (by decide +kernel) rfl ?_
              refine ab_fin.last (h1 := ab_ov h [(3466, .inr (.inl (1, .inr (.inl ((List.replicate 1 0).set 0 (0))))))]) (pc' := 17) (by decide +kernel) (ab_ov_no f_3466 rfl) (ab_bd (n := 1) (by rw [List.length_replicate]) (by decide +kernel)) (ab_ov_set rfl) rfl ?_
              refine ab_fin.s3 (i := .goto 7) (k := 3) (t := 24) (st' := []) (by decide +kernel) (ab_goto (by decide +kernel)) ?_
              refine ab_fin.s1i (i := .iconst 0) (k := 1) (pc' := 25) (n := 0) (by decide +kernel) rfl (by decide +kernel) rfl ?_
              refine ab_fin.ret (i := .ireturn) (k := 1) (some (.int 0)) (by decide +kernel) rfl ?_
              refine ab_bk.back (pc' := 525) (st' := [.int 0]) rfl rfl ?_
              refine ab_fin.s2 (i := .istore 5) (k := 2) (pc' := 527) (lv' := [(5, .int 0), (4, .int 0), (3, .ref 3466), (2, .ref 101), (1, .ref 0), (0, .retAddr 9)]) (st' := []) (by decide +kernel) rfl rfl ?_
              refine ab_fin.s2 (i := .aload_n 2) (k := 1) (pc' := 528) (lv' := [(5, .int 0), (4, .int 0), (3, .ref 3466), (2, .ref 101), (1, .ref 0), (0, .retAddr 9)]) (st' := [.ref 101]) (by decide +kernel) rfl rfl ?_
              refine ab_fin.s2 (i := .aload_n 0) (k := 1) (pc' := 529) (lv' := [(5, .int 0), (4, .int 0), (3, .ref 3466), (2, .ref 101), (1, .ref 0), (0, .retAddr 9)]) (st' := [.retAddr 9, .ref 101]) (by decide +kernel) rfl rfl ?_
              refine ab_fin.s2 (i := .iload 4) (k := 2) (pc' := 531) (lv' := [(5, .int 0), (4, .int 0), (3, .ref 3466), (2, .ref 101), (1, .ref 0), (0, .retAddr 9)]) (st' := [.int 0, .retAddr 9, .ref 101]) (by decide +kernel) rfl rfl ?_
              refine ab_fin.s1i (i := .iconst 1) (k := 1) (pc' := 532) (n := 1) (by decide +kernel) rfl (by decide +kernel) rfl ?_
              refine ab_fin.s1i (i := .iadd) (k := 1) (pc' := 533) (n := 1) (by decide +kernel) rfl (by decide +kernel) rfl ?_
              refine ab_fin.s8 (i := .iaload) (k := 1) (pc' := 534) (st' := [.int ((xs 1)), .ref 101]) (by decide +kernel) (ab_x0 rfl (by decide +kernel) rfl) rfl rfl rfl ?_
              refine ab_fin.s2 (i := .aload_n 0) (k := 1) (pc' := 535) (lv' := [(5, .int 0), (4, .int 0), (3, .ref 3466), (2, .ref 101), (1, .ref 0), (0, .retAddr 9)]) (st' := [.retAddr 9, .int ((xs 1)), .ref 101]) (by decide +kernel) rfl rfl ?_
              refine ab_fin.s2 (i := .iload 4) (k := 2) (pc' := 537) (lv' := [(5, .int 0), (4, .int 0), (3, .ref 3466), (2, .ref 101), (1, .ref 0), (0, .retAddr 9)]) (st' := [.int 0, .retAddr 9, .int ((xs 1)), .ref 101]) (by decide +kernel) rfl rfl ?_
              refine ab_fin.s1i (i := .iconst 2) (k := 1) (pc' := 538) (n := 2) (by decide +kernel) rfl (by decide +kernel) rfl ?_
              refine ab_fin.s1i (i := .iadd) (k := 1) (pc' := 539) (n := 2) (by decide +kernel) rfl (by decide +kernel) rfl ?_
              refine ab_fin.s8 (i := .iaload) (k := 1) (pc' := 540) (st' := [.int ((xs 2)), .int ((xs 1)), .ref 101]) (by decide +kernel) (ab_x0 rfl (by decide +kernel) rfl) rfl rfl rfl ?_
              refine ab_fin.call (i := .invokevirtual 106) (k := 3) (y := 6002) (As := [.ref 101, .int ((xs 1)), .int ((xs 2))]) (rest := []) (M' := (mX23_below, [])) (by decide +kernel) (ab_cv rfl rfl (ab_ov_no f_101 rfl) ⟨(Nat.le_of_ble_eq_true rfl), (Nat.le_of_ble_eq_true rfl)⟩ rfl) rfl (Nat.le_of_ble_eq_true rfl) ?_
              show ab_fin _ _ _ _ 0 [(0, .ref 101), (1, .int ((xs 1))), (2, .int ((xs 2)))] [] _ _
              refine ab_fin.s2 (i := .aload_n 0) (k := 1) (pc' := 1) (lv' := [(0, .ref 101), (1, .int ((xs 1))), (2, .int ((xs 2)))]) (st' := [.ref 101]) (by decide +kernel) rfl rfl ?_
              refine ab_fin.s1i (i := .iconst 0) (k := 1) (pc' := 2) (n := 0) (by decide +kernel) rfl (by decide +kernel) rfl ?_
              refine ab_fin.putf (ix := 1000) (h1 := ab_ov h [(101, .inr (.inr (24, (p1_o101).set 110 (.int 0)))), (3466, .inr (.inl (1, .inr (.inl ((List.replicate 1 0).set 0 (0))))))]) (pc' := 5) (by decide +kernel) rfl (ab_ov_no f_101 rfl) (ab_klt (n := 115) (by rw [p1_n101]) (by decide)) rfl rfl (ab_ov_set rfl) rfl ?_
              refine ab_fin.s2 (i := .aload_n 0) (k := 1) (pc' := 6) (lv' := [(0, .ref 101), (1, .int ((xs 1))), (2, .int ((xs 2)))]) (st' := [.ref 101]) (by decide +kernel) rfl rfl ?_
              refine ab_fin.s2 (i := .iload_n 1) (k := 1) (pc' := 7) (lv' := [(0, .ref 101), (1, .int ((xs 1))), (2, .int ((xs 2)))]) (st' := [.int ((xs 1)), .ref 101]) (by decide +kernel) rfl rfl ?_
              refine ab_fin.call (i := .invokevirtual 1018) (k := 3) (y := 6001) (As := [.ref 101, .int ((xs 1))]) (rest := []) (M' := (mX23_isKind, [])) (by decide +kernel) (ab_cv rfl rfl (ab_ov_get (lt0 101 (by decide)) rfl) ⟨(Nat.le_of_ble_eq_true rfl), (Nat.le_of_ble_eq_true rfl)⟩ rfl) rfl (Nat.le_of_ble_eq_true rfl) ?_
              show ab_fin _ _ _ _ 0 [(0, .ref 101), (1, .int ((xs 1)))] [] _ _
              refine ab_fin.s2 (i := .iload_n 1) (k := 1) (pc' := 1) (lv' := [(0, .ref 101), (1, .int ((xs 1)))]) (st' := [.int ((xs 1))]) (by decide +kernel) rfl rfl ?_
              refine ab_fin.brF (c := (xs 1) < 0) (i := .ifCond .lt 15) (off := 15) (t := 16) (pc' := 4) (r := []) (by decide +kernel) rfl (by decide +kernel) rfl (by have l0 : (0 : Int32).toInt = 0 := rfl; have l2 : (2 : Int32).toInt = 2 := rfl; have l3 : (3 : Int32).toInt = 3 := rfl; simp only [← Int32.toInt_inj, Int32.lt_iff_toInt_lt, Int32.le_iff_toInt_le, l0, l2, l3] at q1 q2 q3 q4 q5 q6 ⊢; omega) ?_
              refine ab_fin.s2 (i := .iload_n 1) (k := 1) (pc' := 5) (lv' := [(0, .ref 101), (1, .int ((xs 1)))]) (st' := [.int ((xs 1))]) (by decide +kernel) rfl rfl ?_
              refine ab_fin.s2 (i := .aload_n 0) (k := 1) (pc' := 6) (lv' := [(0, .ref 101), (1, .int ((xs 1)))]) (st' := [.ref 101, .int ((xs 1))]) (by decide +kernel) rfl rfl ?_
              refine ab_fin.getf (ix := 13) (k := 4) (v := .int 3) (pc' := 9) (by decide +kernel) rfl (ab_ov_get (lt0 101 (by decide)) rfl) rfl rfl ?_
              refine ab_fin.brF (c := (3 : Int32) ≤ (xs 1)) (i := .if_icmp .ge 7) (off := 7) (t := 16) (pc' := 12) (r := []) (by decide +kernel) rfl (by decide +kernel) rfl (by have l0 : (0 : Int32).toInt = 0 := rfl; have l2 : (2 : Int32).toInt = 2 := rfl; have l3 : (3 : Int32).toInt = 3 := rfl; simp only [← Int32.toInt_inj, Int32.lt_iff_toInt_lt, Int32.le_iff_toInt_le, l0, l2, l3] at q1 q2 q3 q4 q5 q6 ⊢; omega) ?_
              refine ab_fin.s1i (i := .iconst 1) (k := 1) (pc' := 13) (n := 1) (by decide +kernel) rfl (by decide +kernel) rfl ?_
              refine ab_fin.s3 (i := .goto 4) (k := 3) (t := 17) (st' := [.int 1]) (by decide +kernel) (ab_goto (by decide +kernel)) ?_
              refine ab_fin.ret (i := .ireturn) (k := 1) (some (.int 1)) (by decide +kernel) rfl ?_
              refine ab_bk.back (pc' := 10) (st' := [.int 1]) rfl rfl ?_
              refine ab_fin.brF (c := (1 : Int32) = 0) (i := .ifCond .eq 11) (off := 11) (t := 21) (pc' := 13) (r := []) (by decide +kernel) rfl (by decide +kernel) rfl (by decide +kernel) ?_
              refine ab_fin.s2 (i := .aload_n 0) (k := 1) (pc' := 14) (lv' := [(0, .ref 101), (1, .int ((xs 1))), (2, .int ((xs 2)))]) (st' := [.ref 101]) (by decide +kernel) rfl rfl ?_
              refine ab_fin.s2 (i := .iload_n 2) (k := 1) (pc' := 15) (lv' := [(0, .ref 101), (1, .int ((xs 1))), (2, .int ((xs 2)))]) (st' := [.int ((xs 2)), .ref 101]) (by decide +kernel) rfl rfl ?_
              refine ab_fin.call (i := .invokevirtual 1018) (k := 3) (y := 6001) (As := [.ref 101, .int ((xs 2))]) (rest := []) (M' := (mX23_isKind, [])) (by decide +kernel) (ab_cv rfl rfl (ab_ov_get (lt0 101 (by decide)) rfl) ⟨(Nat.le_of_ble_eq_true rfl), (Nat.le_of_ble_eq_true rfl)⟩ rfl) rfl (Nat.le_of_ble_eq_true rfl) ?_
              show ab_fin _ _ _ _ 0 [(0, .ref 101), (1, .int ((xs 2)))] [] _ _
              refine ab_fin.s2 (i := .iload_n 1) (k := 1) (pc' := 1) (lv' := [(0, .ref 101), (1, .int ((xs 2)))]) (st' := [.int ((xs 2))]) (by decide +kernel) rfl rfl ?_
              refine ab_fin.brF (c := (xs 2) < 0) (i := .ifCond .lt 15) (off := 15) (t := 16) (pc' := 4) (r := []) (by decide +kernel) rfl (by decide +kernel) rfl (by have l0 : (0 : Int32).toInt = 0 := rfl; have l2 : (2 : Int32).toInt = 2 := rfl; have l3 : (3 : Int32).toInt = 3 := rfl; simp only [← Int32.toInt_inj, Int32.lt_iff_toInt_lt, Int32.le_iff_toInt_le, l0, l2, l3] at q1 q2 q3 q4 q5 q6 ⊢; omega) ?_
              refine ab_fin.s2 (i := .iload_n 1) (k := 1) (pc' := 5) (lv' := [(0, .ref 101), (1, .int ((xs 2)))]) (st' := [.int ((xs 2))]) (by decide +kernel) rfl rfl ?_
              refine ab_fin.s2 (i := .aload_n 0) (k := 1) (pc' := 6) (lv' := [(0, .ref 101), (1, .int ((xs 2)))]) (st' := [.ref 101, .int ((xs 2))]) (by decide +kernel) rfl rfl ?_
              refine ab_fin.getf (ix := 13) (k := 4) (v := .int 3) (pc' := 9) (by decide +kernel) rfl (ab_ov_get (lt0 101 (by decide)) rfl) rfl rfl ?_
              refine ab_fin.brF (c := (3 : Int32) ≤ (xs 2)) (i := .if_icmp .ge 7) (off := 7) (t := 16) (pc' := 12) (r := []) (by decide +kernel) rfl (by decide +kernel) rfl (by have l0 : (0 : Int32).toInt = 0 := rfl; have l2 : (2 : Int32).toInt = 2 := rfl; have l3 : (3 : Int32).toInt = 3 := rfl; simp only [← Int32.toInt_inj, Int32.lt_iff_toInt_lt, Int32.le_iff_toInt_le, l0, l2, l3] at q1 q2 q3 q4 q5 q6 ⊢; omega) ?_
              refine ab_fin.s1i (i := .iconst 1) (k := 1) (pc' := 13) (n := 1) (by decide +kernel) rfl (by decide +kernel) rfl ?_
              refine ab_fin.s3 (i := .goto 4) (k := 3) (t := 17) (st' := [.int 1]) (by decide +kernel) (ab_goto (by decide +kernel)) ?_
              refine ab_fin.ret (i := .ireturn) (k := 1) (some (.int 1)) (by decide +kernel) rfl ?_
              refine ab_bk.back (pc' := 18) (st' := [.int 1]) rfl rfl ?_
              refine ab_fin.brT (c := ¬ (1 : Int32) = 0) (i := .ifCond .ne 17) (off := 17) (t := 35) (r := []) (by decide +kernel) rfl (by decide +kernel) (by decide +kernel) ?_
              refine ab_fin.s2 (i := .aload_n 0) (k := 1) (pc' := 36) (lv' := [(0, .ref 101), (1, .int ((xs 1))), (2, .int ((xs 2)))]) (st' := [.ref 101]) (by decide +kernel) rfl rfl ?_
              refine ab_fin.getf (ix := 490) (k := 36) (v := .ref 1981) (pc' := 39) (by decide +kernel) rfl (ab_ov_get (lt0 101 (by decide)) rfl) rfl rfl ?_
              refine ab_fin.s2 (i := .iload_n 1) (k := 1) (pc' := 40) (lv' := [(0, .ref 101), (1, .int ((xs 1))), (2, .int ((xs 2)))]) (st' := [.int ((xs 1)), .ref 1981]) (by decide +kernel) rfl rfl ?_
              have q14 : (xs 1) = 0 := (by have l0 : (0 : Int32).toInt = 0 := rfl; have l2 : (2 : Int32).toInt = 2 := rfl; have l3 : (3 : Int32).toInt = 3 := rfl; simp only [← Int32.toInt_inj, Int32.lt_iff_toInt_lt, Int32.le_iff_toInt_le, l0, l2, l3] at q1 q2 q3 q4 q5 q6 ⊢; omega)
              rw [q14]
              refine ab_fin.aald (v := .ref 1982) (pc' := 41) (by decide +kernel) (ab_ov_no f_1981 rfl) (by decide) rfl (ab_bd (n := 24) (by rw [p1_n1981]) (by decide +kernel)) rfl rfl ?_
              refine ab_fin.s2 (i := .iload_n 2) (k := 1) (pc' := 42) (lv' := [(0, .ref 101), (1, .int 0), (2, .int ((xs 2)))]) (st' := [.int ((xs 2)), .ref 1982]) (by decide +kernel) rfl rfl ?_
              have q15 : (xs 2) = 2 := (by have l0 : (0 : Int32).toInt = 0 := rfl; have l2 : (2 : Int32).toInt = 2 := rfl; have l3 : (3 : Int32).toInt = 3 := rfl; simp only [← Int32.toInt_inj, Int32.lt_iff_toInt_lt, Int32.le_iff_toInt_le, l0, l2, l3] at q1 q2 q3 q4 q5 q6 q14 ⊢; omega)
              rw [q15]
              refine ab_fin.bald (t := 3) (v := 0) (pc' := 43) (by decide +kernel) (by decide) (ab_ov_no f_1982 rfl) (ab_bd (n := 24) (by rw [p1_n1982]) (by decide +kernel)) rfl rfl ?_
              refine ab_fin.ret (i := .ireturn) (k := 1) (some (.int 0)) (by decide +kernel) rfl ?_
              refine ab_bk.back (pc' := 543) (st' := [.int 0]) rfl rfl ?_
              refine ab_fin.s2 (i := .istore 6) (k := 2) (pc' := 545) (lv' := [(6, .int 0), (5, .int 0), (4, .int 0), (3, .ref 3466), (2, .ref 101), (1, .ref 0), (0, .retAddr 9)]) (st' := []) (by decide +kernel) rfl rfl ?_
              refine ab_fin.s2 (i := .aload_n 2) (k := 1) (pc' := 546) (lv' := [(6, .int 0), (5, .int 0), (4, .int 0), (3, .ref 3466), (2, .ref 101), (1, .ref 0), (0, .retAddr 9)]) (st' := [.ref 101]) (by decide +kernel) rfl rfl ?_
              refine ab_fin.call (i := .invokevirtual 75) (k := 3) (y := 5992) (As := [.ref 101]) (rest := []) (M' := (mX23_thrown, [])) (by decide +kernel) (ab_cv rfl rfl (ab_ov_get (lt0 101 (by decide)) rfl) ⟨(Nat.le_of_ble_eq_true rfl), (Nat.le_of_ble_eq_true rfl)⟩ rfl) rfl (Nat.le_of_ble_eq_true rfl) ?_
              show ab_fin _ _ _ _ 0 [(0, .ref 101)] [] _ _
              refine ab_fin.s2 (i := .aload_n 0) (k := 1) (pc' := 1) (lv' := [(0, .ref 101)]) (st' := [.ref 101]) (by decide +kernel) rfl rfl ?_
              refine ab_fin.getf (ix := 1000) (k := 110) (v := .int 0) (pc' := 4) (by decide +kernel) rfl (ab_ov_get (lt0 101 (by decide)) rfl) rfl rfl ?_
              refine ab_fin.ret (i := .ireturn) (k := 1) (some (.int 0)) (by decide +kernel) rfl ?_
              refine ab_bk.back (pc' := 549) (st' := [.int 0]) rfl rfl ?_
              refine ab_fin.s2 (i := .iload 5) (k := 2) (pc' := 551) (lv' := [(6, .int 0), (5, .int 0), (4, .int 0), (3, .ref 3466), (2, .ref 101), (1, .ref 0), (0, .retAddr 9)]) (st' := [.int 0, .int 0]) (by decide +kernel) rfl rfl ?_
              refine ab_fin.brT (c := (0 : Int32) = (0 : Int32)) (i := .if_icmp .eq 5) (off := 5) (t := 556) (r := []) (by decide +kernel) rfl (by decide +kernel) (by decide +kernel) ?_
              refine ab_fin.s2 (i := .iload 5) (k := 2) (pc' := 558) (lv' := [(6, .int 0), (5, .int 0), (4, .int 0), (3, .ref 3466), (2, .ref 101), (1, .ref 0), (0, .retAddr 9)]) (st' := [.int 0]) (by decide +kernel) rfl rfl ?_
              refine ab_fin.brF (c := ¬ (0 : Int32) = 0) (i := .ifCond .ne 22) (off := 22) (t := 580) (pc' := 561) (r := []) (by decide +kernel) rfl (by decide +kernel) rfl (by decide +kernel) ?_
              refine ab_fin.s2 (i := .aload_n 3) (k := 1) (pc' := 562) (lv' := [(6, .int 0), (5, .int 0), (4, .int 0), (3, .ref 3466), (2, .ref 101), (1, .ref 0), (0, .retAddr 9)]) (st' := [.ref 3466]) (by decide +kernel) rfl rfl ?_
              refine ab_fin.s1i (i := .iconst 0) (k := 1) (pc' := 563) (n := 0) (by decide +kernel) rfl (by decide +kernel) rfl ?_
              refine ab_fin.lald (v := 0) (pc' := 564) (by decide +kernel) (ab_ov_get (lt0 3466 (by decide)) rfl) (ab_bd (n := 1) (by rw [List.length_set, List.length_replicate]) (by decide +kernel)) rfl rfl ?_
              refine ab_fin.s2 (i := .iload 6) (k := 2) (pc' := 566) (lv' := [(6, .int 0), (5, .int 0), (4, .int 0), (3, .ref 3466), (2, .ref 101), (1, .ref 0), (0, .retAddr 9)]) (st' := [.int 0, .long 0]) (by decide +kernel) rfl rfl ?_
              refine ab_fin.brT (c := (0 : Int32) = 0) (i := .ifCond .eq 7) (off := 7) (t := 573) (r := [.long 0]) (by decide +kernel) rfl (by decide +kernel) (by decide +kernel) ?_
              refine ab_fin.s1l (i := .lconst 0) (k := 1) (pc' := 574) (n := 0) (by decide +kernel) rfl (by decide +kernel) rfl ?_
              refine ab_fin.s1i (i := .lcmp) (k := 1) (pc' := 575) (n := 0) (by decide +kernel) rfl (by decide +kernel) rfl ?_
              refine ab_fin.brT (c := (0 : Int32) = 0) (i := .ifCond .eq 5) (off := 5) (t := 580) (r := []) (by decide +kernel) rfl (by decide +kernel) (by decide +kernel) ?_
              refine ab_fin.s3 (i := .goto 510) (k := 3) (t := 1090) (st' := []) (by decide +kernel) (ab_goto (by decide +kernel)) ?_
              refine ab_fin.inc (i := .iinc 4 6) (k := 3) (pc' := 1093) (j := 4) (n := 6) (lv' := [(6, .int 0), (5, .int 0), (3, .ref 3466), (2, .ref 101), (1, .ref 0), (0, .retAddr 9)]) (by decide +kernel) rfl (by decide +kernel) rfl ?_
              refine ab_fin.s3 (i := .goto (-1070)) (k := 3) (t := 23) (st' := []) (by decide +kernel) (ab_goto (by decide +kernel)) ?_
              refine ab_fin.s2 (i := .iload 4) (k := 2) (pc' := 25) (lv' := [(4, .int 6), (6, .int 0), (5, .int 0), (3, .ref 3466), (2, .ref 101), (1, .ref 0), (0, .retAddr 9)]) (st' := [.int 6]) (by decide +kernel) rfl rfl ?_
              refine ab_fin.s2 (i := .aload_n 0) (k := 1) (pc' := 26) (lv' := [(4, .int 6), (6, .int 0), (5, .int 0), (3, .ref 3466), (2, .ref 101), (1, .ref 0), (0, .retAddr 9)]) (st' := [.retAddr 9, .int 6]) (by decide +kernel) rfl rfl ?_
              refine ab_fin.s8 (i := .arraylength) (k := 1) (pc' := 27) (st' := [.int 6, .int 6]) (by decide +kernel) rfl rfl rfl rfl ?_
              refine ab_fin.s1i (i := .bipush 6) (k := 2) (pc' := 29) (n := 6) (by decide +kernel) rfl (by decide +kernel) rfl ?_
              refine ab_fin.s1i (i := .isub) (k := 1) (pc' := 30) (n := 0) (by decide +kernel) rfl (by decide +kernel) rfl ?_
              refine ab_fin.brT (c := (0 : Int32) < (6 : Int32)) (i := .if_icmp .gt 1066) (off := 1066) (t := 1096) (r := []) (by decide +kernel) rfl (by decide +kernel) (by decide +kernel) ?_
              refine ab_fin.s1i (i := .iconst 1) (k := 1) (pc' := 1097) (n := 1) (by decide +kernel) rfl (by decide +kernel) rfl ?_
              refine ab_fin.ret (i := .ireturn) (k := 1) (some (.int 1)) (by decide +kernel) rfl ?_
              refine ⟨rfl, ?_, ?_⟩
              · rw [ab_ov_len, hl]; decide
              · refine Nat.le_trans (ab_ov_z _ _) ?_
                simp only [List.map, List.sum_cons, List.sum_nil, ab_z1, ab_len, List.length_set, List.length_replicate, List.length_cons, List.length_nil, p1_n101]
                omega
          · rw [q5]
            refine ab_fin.iald (v := 3) (pc' := 6) (by decide +kernel) (ab_ov_no f_4 rfl) (ab_bd (n := 24) (by rw [p1_n4]) (by decide +kernel)) rfl rfl ?_
            refine ab_fin.s2 (i := .iload_n 2) (k := 1) (pc' := 7) (lv' := [(0, .ref 2), (1, .int 1), (2, .int ((xs 2)))]) (st' := [.int ((xs 2)), .int 3]) (by decide +kernel) rfl rfl ?_
            refine ab_fin.s1 (i := .ishr) (k := 1) (pc' := 8) (st' := [.int (((3 : Int32) >>> ((xs 2) &&& 31)))]) (by decide +kernel) rfl rfl ?_
            refine ab_fin.s1i (i := .iconst 1) (k := 1) (pc' := 9) (n := 1) (by decide +kernel) rfl (by decide +kernel) rfl ?_
            refine ab_fin.s1 (i := .iand) (k := 1) (pc' := 10) (st' := [.int ((((3 : Int32) >>> ((xs 2) &&& 31)) &&& (1 : Int32)))]) (by decide +kernel) rfl rfl ?_
            have q16 : (xs 2) = 0 ∨ (xs 2) = 1 ∨ (xs 2) = 2 := (by have l0 : (0 : Int32).toInt = 0 := rfl; have l1 : (1 : Int32).toInt = 1 := rfl; have l2 : (2 : Int32).toInt = 2 := rfl; have l3 : (3 : Int32).toInt = 3 := rfl; simp only [← Int32.toInt_inj, Int32.lt_iff_toInt_lt, Int32.le_iff_toInt_le, l0, l1, l2, l3] at q1 q2 q3 q4 q5 ⊢; omega)
            rcases q16 with q16 | q16 | q16
            · rw [q16]
              try rw [show (((3 : Int32) >>> (0 &&& 31)) &&& (1 : Int32)) = (1 : Int32) by decide +kernel]
              refine ab_fin.brF (c := (1 : Int32) = 0) (i := .ifCond .eq 7) (off := 7) (t := 17) (pc' := 13) (r := []) (by decide +kernel) rfl (by decide +kernel) rfl (by decide +kernel) ?_
              refine ab_fin.s1i (i := .iconst 1) (k := 1) (pc' := 14) (n := 1) (by decide +kernel) rfl (by decide +kernel) rfl ?_
              refine ab_fin.s3 (i := .goto 4) (k := 3) (t := 18) (st' := [.int 1]) (by decide +kernel) (ab_goto (by decide +kernel)) ?_
              refine ab_fin.ret (i := .ireturn) (k := 1) (some (.int 1)) (by decide +kernel) rfl ?_
              refine ab_bk.back (pc' := 42) (st' := [.int 1]) rfl rfl ?_
              refine ab_fin.ret (i := .ireturn) (k := 1) (some (.int 1)) (by decide +kernel) rfl ?_
              refine ab_bk.back (pc' := 8) (st' := [.int 1, .int 0, .ref 3466]) rfl rfl ?_
              refine ab_fin.brF (c := (1 : Int32) = 0) (i := .ifCond .eq 7) (off := 7) (t := 15) (pc' := 11) (r := [.int 0, .ref 3466]) (by decide +kernel) rfl (by decide +kernel) rfl (by decide +kernel) ?_
              refine ab_fin.s1l (i := .lconst 1) (k := 1) (pc' := 12) (n := 1) (by decide +kernel) rfl (by decide +kernel) rfl ?_
              refine ab_fin.s3 (i := .goto 4) (k := 3) (t := 16) (st' := [.long 1, .int 0, .ref 3466]) (by decide +kernel) (ab_goto (by decide +kernel)) ?_
              refine ab_fin.last (h1 := ab_ov h [(3466, .inr (.inl (1, .inr (.inl ((List.replicate 1 0).set 0 (1))))))]) (pc' := 17) (by decide +kernel) (ab_ov_no f_3466 rfl) (ab_bd (n := 1) (by rw [List.length_replicate]) (by decide +kernel)) (ab_ov_set rfl) rfl ?_
              refine ab_fin.s3 (i := .goto 7) (k := 3) (t := 24) (st' := []) (by decide +kernel) (ab_goto (by decide +kernel)) ?_
              refine ab_fin.s1i (i := .iconst 0) (k := 1) (pc' := 25) (n := 0) (by decide +kernel) rfl (by decide +kernel) rfl ?_
              refine ab_fin.ret (i := .ireturn) (k := 1) (some (.int 0)) (by decide +kernel) rfl ?_
              refine ab_bk.back (pc' := 525) (st' := [.int 0]) rfl rfl ?_
              refine ab_fin.s2 (i := .istore 5) (k := 2) (pc' := 527) (lv' := [(5, .int 0), (4, .int 0), (3, .ref 3466), (2, .ref 101), (1, .ref 0), (0, .retAddr 9)]) (st' := []) (by decide +kernel) rfl rfl ?_
              refine ab_fin.s2 (i := .aload_n 2) (k := 1) (pc' := 528) (lv' := [(5, .int 0), (4, .int 0), (3, .ref 3466), (2, .ref 101), (1, .ref 0), (0, .retAddr 9)]) (st' := [.ref 101]) (by decide +kernel) rfl rfl ?_
              refine ab_fin.s2 (i := .aload_n 0) (k := 1) (pc' := 529) (lv' := [(5, .int 0), (4, .int 0), (3, .ref 3466), (2, .ref 101), (1, .ref 0), (0, .retAddr 9)]) (st' := [.retAddr 9, .ref 101]) (by decide +kernel) rfl rfl ?_
              refine ab_fin.s2 (i := .iload 4) (k := 2) (pc' := 531) (lv' := [(5, .int 0), (4, .int 0), (3, .ref 3466), (2, .ref 101), (1, .ref 0), (0, .retAddr 9)]) (st' := [.int 0, .retAddr 9, .ref 101]) (by decide +kernel) rfl rfl ?_
              refine ab_fin.s1i (i := .iconst 1) (k := 1) (pc' := 532) (n := 1) (by decide +kernel) rfl (by decide +kernel) rfl ?_
              refine ab_fin.s1i (i := .iadd) (k := 1) (pc' := 533) (n := 1) (by decide +kernel) rfl (by decide +kernel) rfl ?_
              refine ab_fin.s8 (i := .iaload) (k := 1) (pc' := 534) (st' := [.int ((xs 1)), .ref 101]) (by decide +kernel) (ab_x0 rfl (by decide +kernel) rfl) rfl rfl rfl ?_
              refine ab_fin.s2 (i := .aload_n 0) (k := 1) (pc' := 535) (lv' := [(5, .int 0), (4, .int 0), (3, .ref 3466), (2, .ref 101), (1, .ref 0), (0, .retAddr 9)]) (st' := [.retAddr 9, .int ((xs 1)), .ref 101]) (by decide +kernel) rfl rfl ?_
              refine ab_fin.s2 (i := .iload 4) (k := 2) (pc' := 537) (lv' := [(5, .int 0), (4, .int 0), (3, .ref 3466), (2, .ref 101), (1, .ref 0), (0, .retAddr 9)]) (st' := [.int 0, .retAddr 9, .int ((xs 1)), .ref 101]) (by decide +kernel) rfl rfl ?_
              refine ab_fin.s1i (i := .iconst 2) (k := 1) (pc' := 538) (n := 2) (by decide +kernel) rfl (by decide +kernel) rfl ?_
              refine ab_fin.s1i (i := .iadd) (k := 1) (pc' := 539) (n := 2) (by decide +kernel) rfl (by decide +kernel) rfl ?_
              refine ab_fin.s8 (i := .iaload) (k := 1) (pc' := 540) (st' := [.int ((xs 2)), .int ((xs 1)), .ref 101]) (by decide +kernel) (ab_x0 rfl (by decide +kernel) rfl) rfl rfl rfl ?_
              refine ab_fin.call (i := .invokevirtual 106) (k := 3) (y := 6002) (As := [.ref 101, .int ((xs 1)), .int ((xs 2))]) (rest := []) (M' := (mX23_below, [])) (by decide +kernel) (ab_cv rfl rfl (ab_ov_no f_101 rfl) ⟨(Nat.le_of_ble_eq_true rfl), (Nat.le_of_ble_eq_true rfl)⟩ rfl) rfl (Nat.le_of_ble_eq_true rfl) ?_
              show ab_fin _ _ _ _ 0 [(0, .ref 101), (1, .int ((xs 1))), (2, .int ((xs 2)))] [] _ _
              refine ab_fin.s2 (i := .aload_n 0) (k := 1) (pc' := 1) (lv' := [(0, .ref 101), (1, .int ((xs 1))), (2, .int ((xs 2)))]) (st' := [.ref 101]) (by decide +kernel) rfl rfl ?_
              refine ab_fin.s1i (i := .iconst 0) (k := 1) (pc' := 2) (n := 0) (by decide +kernel) rfl (by decide +kernel) rfl ?_
              refine ab_fin.putf (ix := 1000) (h1 := ab_ov h [(101, .inr (.inr (24, (p1_o101).set 110 (.int 0)))), (3466, .inr (.inl (1, .inr (.inl ((List.replicate 1 0).set 0 (1))))))]) (pc' := 5) (by decide +kernel) rfl (ab_ov_no f_101 rfl) (ab_klt (n := 115) (by rw [p1_n101]) (by decide)) rfl rfl (ab_ov_set rfl) rfl ?_
              refine ab_fin.s2 (i := .aload_n 0) (k := 1) (pc' := 6) (lv' := [(0, .ref 101), (1, .int ((xs 1))), (2, .int ((xs 2)))]) (st' := [.ref 101]) (by decide +kernel) rfl rfl ?_
              refine ab_fin.s2 (i := .iload_n 1) (k := 1) (pc' := 7) (lv' := [(0, .ref 101), (1, .int ((xs 1))), (2, .int ((xs 2)))]) (st' := [.int ((xs 1)), .ref 101]) (by decide +kernel) rfl rfl ?_
              refine ab_fin.call (i := .invokevirtual 1018) (k := 3) (y := 6001) (As := [.ref 101, .int ((xs 1))]) (rest := []) (M' := (mX23_isKind, [])) (by decide +kernel) (ab_cv rfl rfl (ab_ov_get (lt0 101 (by decide)) rfl) ⟨(Nat.le_of_ble_eq_true rfl), (Nat.le_of_ble_eq_true rfl)⟩ rfl) rfl (Nat.le_of_ble_eq_true rfl) ?_
              show ab_fin _ _ _ _ 0 [(0, .ref 101), (1, .int ((xs 1)))] [] _ _
              refine ab_fin.s2 (i := .iload_n 1) (k := 1) (pc' := 1) (lv' := [(0, .ref 101), (1, .int ((xs 1)))]) (st' := [.int ((xs 1))]) (by decide +kernel) rfl rfl ?_
              refine ab_fin.brF (c := (xs 1) < 0) (i := .ifCond .lt 15) (off := 15) (t := 16) (pc' := 4) (r := []) (by decide +kernel) rfl (by decide +kernel) rfl (by have l0 : (0 : Int32).toInt = 0 := rfl; have l1 : (1 : Int32).toInt = 1 := rfl; have l3 : (3 : Int32).toInt = 3 := rfl; simp only [← Int32.toInt_inj, Int32.lt_iff_toInt_lt, Int32.le_iff_toInt_le, l0, l1, l3] at q1 q2 q3 q4 q5 q16 ⊢; omega) ?_
              refine ab_fin.s2 (i := .iload_n 1) (k := 1) (pc' := 5) (lv' := [(0, .ref 101), (1, .int ((xs 1)))]) (st' := [.int ((xs 1))]) (by decide +kernel) rfl rfl ?_
              refine ab_fin.s2 (i := .aload_n 0) (k := 1) (pc' := 6) (lv' := [(0, .ref 101), (1, .int ((xs 1)))]) (st' := [.ref 101, .int ((xs 1))]) (by decide +kernel) rfl rfl ?_
              refine ab_fin.getf (ix := 13) (k := 4) (v := .int 3) (pc' := 9) (by decide +kernel) rfl (ab_ov_get (lt0 101 (by decide)) rfl) rfl rfl ?_
              refine ab_fin.brF (c := (3 : Int32) ≤ (xs 1)) (i := .if_icmp .ge 7) (off := 7) (t := 16) (pc' := 12) (r := []) (by decide +kernel) rfl (by decide +kernel) rfl (by have l0 : (0 : Int32).toInt = 0 := rfl; have l1 : (1 : Int32).toInt = 1 := rfl; have l3 : (3 : Int32).toInt = 3 := rfl; simp only [← Int32.toInt_inj, Int32.lt_iff_toInt_lt, Int32.le_iff_toInt_le, l0, l1, l3] at q1 q2 q3 q4 q5 q16 ⊢; omega) ?_
              refine ab_fin.s1i (i := .iconst 1) (k := 1) (pc' := 13) (n := 1) (by decide +kernel) rfl (by decide +kernel) rfl ?_
              refine ab_fin.s3 (i := .goto 4) (k := 3) (t := 17) (st' := [.int 1]) (by decide +kernel) (ab_goto (by decide +kernel)) ?_
              refine ab_fin.ret (i := .ireturn) (k := 1) (some (.int 1)) (by decide +kernel) rfl ?_
              refine ab_bk.back (pc' := 10) (st' := [.int 1]) rfl rfl ?_
              refine ab_fin.brF (c := (1 : Int32) = 0) (i := .ifCond .eq 11) (off := 11) (t := 21) (pc' := 13) (r := []) (by decide +kernel) rfl (by decide +kernel) rfl (by decide +kernel) ?_
              refine ab_fin.s2 (i := .aload_n 0) (k := 1) (pc' := 14) (lv' := [(0, .ref 101), (1, .int ((xs 1))), (2, .int ((xs 2)))]) (st' := [.ref 101]) (by decide +kernel) rfl rfl ?_
              refine ab_fin.s2 (i := .iload_n 2) (k := 1) (pc' := 15) (lv' := [(0, .ref 101), (1, .int ((xs 1))), (2, .int ((xs 2)))]) (st' := [.int ((xs 2)), .ref 101]) (by decide +kernel) rfl rfl ?_
              refine ab_fin.call (i := .invokevirtual 1018) (k := 3) (y := 6001) (As := [.ref 101, .int ((xs 2))]) (rest := []) (M' := (mX23_isKind, [])) (by decide +kernel) (ab_cv rfl rfl (ab_ov_get (lt0 101 (by decide)) rfl) ⟨(Nat.le_of_ble_eq_true rfl), (Nat.le_of_ble_eq_true rfl)⟩ rfl) rfl (Nat.le_of_ble_eq_true rfl) ?_
              show ab_fin _ _ _ _ 0 [(0, .ref 101), (1, .int ((xs 2)))] [] _ _
              refine ab_fin.s2 (i := .iload_n 1) (k := 1) (pc' := 1) (lv' := [(0, .ref 101), (1, .int ((xs 2)))]) (st' := [.int ((xs 2))]) (by decide +kernel) rfl rfl ?_
              refine ab_fin.brF (c := (xs 2) < 0) (i := .ifCond .lt 15) (off := 15) (t := 16) (pc' := 4) (r := []) (by decide +kernel) rfl (by decide +kernel) rfl (by have l0 : (0 : Int32).toInt = 0 := rfl; have l1 : (1 : Int32).toInt = 1 := rfl; have l3 : (3 : Int32).toInt = 3 := rfl; simp only [← Int32.toInt_inj, Int32.lt_iff_toInt_lt, Int32.le_iff_toInt_le, l0, l1, l3] at q1 q2 q3 q4 q5 q16 ⊢; omega) ?_
              refine ab_fin.s2 (i := .iload_n 1) (k := 1) (pc' := 5) (lv' := [(0, .ref 101), (1, .int ((xs 2)))]) (st' := [.int ((xs 2))]) (by decide +kernel) rfl rfl ?_
              refine ab_fin.s2 (i := .aload_n 0) (k := 1) (pc' := 6) (lv' := [(0, .ref 101), (1, .int ((xs 2)))]) (st' := [.ref 101, .int ((xs 2))]) (by decide +kernel) rfl rfl ?_
              refine ab_fin.getf (ix := 13) (k := 4) (v := .int 3) (pc' := 9) (by decide +kernel) rfl (ab_ov_get (lt0 101 (by decide)) rfl) rfl rfl ?_
              refine ab_fin.brF (c := (3 : Int32) ≤ (xs 2)) (i := .if_icmp .ge 7) (off := 7) (t := 16) (pc' := 12) (r := []) (by decide +kernel) rfl (by decide +kernel) rfl (by have l0 : (0 : Int32).toInt = 0 := rfl; have l1 : (1 : Int32).toInt = 1 := rfl; have l3 : (3 : Int32).toInt = 3 := rfl; simp only [← Int32.toInt_inj, Int32.lt_iff_toInt_lt, Int32.le_iff_toInt_le, l0, l1, l3] at q1 q2 q3 q4 q5 q16 ⊢; omega) ?_
              refine ab_fin.s1i (i := .iconst 1) (k := 1) (pc' := 13) (n := 1) (by decide +kernel) rfl (by decide +kernel) rfl ?_
              refine ab_fin.s3 (i := .goto 4) (k := 3) (t := 17) (st' := [.int 1]) (by decide +kernel) (ab_goto (by decide +kernel)) ?_
              refine ab_fin.ret (i := .ireturn) (k := 1) (some (.int 1)) (by decide +kernel) rfl ?_
              refine ab_bk.back (pc' := 18) (st' := [.int 1]) rfl rfl ?_
              refine ab_fin.brT (c := ¬ (1 : Int32) = 0) (i := .ifCond .ne 17) (off := 17) (t := 35) (r := []) (by decide +kernel) rfl (by decide +kernel) (by decide +kernel) ?_
              refine ab_fin.s2 (i := .aload_n 0) (k := 1) (pc' := 36) (lv' := [(0, .ref 101), (1, .int ((xs 1))), (2, .int ((xs 2)))]) (st' := [.ref 101]) (by decide +kernel) rfl rfl ?_
              refine ab_fin.getf (ix := 490) (k := 36) (v := .ref 1981) (pc' := 39) (by decide +kernel) rfl (ab_ov_get (lt0 101 (by decide)) rfl) rfl rfl ?_
              refine ab_fin.s2 (i := .iload_n 1) (k := 1) (pc' := 40) (lv' := [(0, .ref 101), (1, .int ((xs 1))), (2, .int ((xs 2)))]) (st' := [.int ((xs 1)), .ref 1981]) (by decide +kernel) rfl rfl ?_
              have q18 : (xs 1) = 1 := (by have l0 : (0 : Int32).toInt = 0 := rfl; have l1 : (1 : Int32).toInt = 1 := rfl; have l3 : (3 : Int32).toInt = 3 := rfl; simp only [← Int32.toInt_inj, Int32.lt_iff_toInt_lt, Int32.le_iff_toInt_le, l0, l1, l3] at q1 q2 q3 q4 q5 q16 ⊢; omega)
              rw [q18]
              refine ab_fin.aald (v := .ref 1983) (pc' := 41) (by decide +kernel) (ab_ov_no f_1981 rfl) (by decide) rfl (ab_bd (n := 24) (by rw [p1_n1981]) (by decide +kernel)) rfl rfl ?_
              refine ab_fin.s2 (i := .iload_n 2) (k := 1) (pc' := 42) (lv' := [(0, .ref 101), (1, .int 1), (2, .int ((xs 2)))]) (st' := [.int ((xs 2)), .ref 1983]) (by decide +kernel) rfl rfl ?_
              have q19 : (xs 2) = 0 := (by have l0 : (0 : Int32).toInt = 0 := rfl; have l1 : (1 : Int32).toInt = 1 := rfl; have l3 : (3 : Int32).toInt = 3 := rfl; simp only [← Int32.toInt_inj, Int32.lt_iff_toInt_lt, Int32.le_iff_toInt_le, l0, l1, l3] at q1 q2 q3 q4 q5 q16 q18 ⊢; omega)
              rw [q19]
              refine ab_fin.bald (t := 3) (v := 1) (pc' := 43) (by decide +kernel) (by decide) (ab_ov_no f_1983 rfl) (ab_bd (n := 24) (by rw [p1_n1983]) (by decide +kernel)) rfl rfl ?_
              refine ab_fin.ret (i := .ireturn) (k := 1) (some (.int 1)) (by decide +kernel) rfl ?_
              refine ab_bk.back (pc' := 543) (st' := [.int 1]) rfl rfl ?_
              refine ab_fin.s2 (i := .istore 6) (k := 2) (pc' := 545) (lv' := [(6, .int 1), (5, .int 0), (4, .int 0), (3, .ref 3466), (2, .ref 101), (1, .ref 0), (0, .retAddr 9)]) (st' := []) (by decide +kernel) rfl rfl ?_
              refine ab_fin.s2 (i := .aload_n 2) (k := 1) (pc' := 546) (lv' := [(6, .int 1), (5, .int 0), (4, .int 0), (3, .ref 3466), (2, .ref 101), (1, .ref 0), (0, .retAddr 9)]) (st' := [.ref 101]) (by decide +kernel) rfl rfl ?_
              refine ab_fin.call (i := .invokevirtual 75) (k := 3) (y := 5992) (As := [.ref 101]) (rest := []) (M' := (mX23_thrown, [])) (by decide +kernel) (ab_cv rfl rfl (ab_ov_get (lt0 101 (by decide)) rfl) ⟨(Nat.le_of_ble_eq_true rfl), (Nat.le_of_ble_eq_true rfl)⟩ rfl) rfl (Nat.le_of_ble_eq_true rfl) ?_
              show ab_fin _ _ _ _ 0 [(0, .ref 101)] [] _ _
              refine ab_fin.s2 (i := .aload_n 0) (k := 1) (pc' := 1) (lv' := [(0, .ref 101)]) (st' := [.ref 101]) (by decide +kernel) rfl rfl ?_
              refine ab_fin.getf (ix := 1000) (k := 110) (v := .int 0) (pc' := 4) (by decide +kernel) rfl (ab_ov_get (lt0 101 (by decide)) rfl) rfl rfl ?_
              refine ab_fin.ret (i := .ireturn) (k := 1) (some (.int 0)) (by decide +kernel) rfl ?_
              refine ab_bk.back (pc' := 549) (st' := [.int 0]) rfl rfl ?_
              refine ab_fin.s2 (i := .iload 5) (k := 2) (pc' := 551) (lv' := [(6, .int 1), (5, .int 0), (4, .int 0), (3, .ref 3466), (2, .ref 101), (1, .ref 0), (0, .retAddr 9)]) (st' := [.int 0, .int 0]) (by decide +kernel) rfl rfl ?_
              refine ab_fin.brT (c := (0 : Int32) = (0 : Int32)) (i := .if_icmp .eq 5) (off := 5) (t := 556) (r := []) (by decide +kernel) rfl (by decide +kernel) (by decide +kernel) ?_
              refine ab_fin.s2 (i := .iload 5) (k := 2) (pc' := 558) (lv' := [(6, .int 1), (5, .int 0), (4, .int 0), (3, .ref 3466), (2, .ref 101), (1, .ref 0), (0, .retAddr 9)]) (st' := [.int 0]) (by decide +kernel) rfl rfl ?_
              refine ab_fin.brF (c := ¬ (0 : Int32) = 0) (i := .ifCond .ne 22) (off := 22) (t := 580) (pc' := 561) (r := []) (by decide +kernel) rfl (by decide +kernel) rfl (by decide +kernel) ?_
              refine ab_fin.s2 (i := .aload_n 3) (k := 1) (pc' := 562) (lv' := [(6, .int 1), (5, .int 0), (4, .int 0), (3, .ref 3466), (2, .ref 101), (1, .ref 0), (0, .retAddr 9)]) (st' := [.ref 3466]) (by decide +kernel) rfl rfl ?_
              refine ab_fin.s1i (i := .iconst 0) (k := 1) (pc' := 563) (n := 0) (by decide +kernel) rfl (by decide +kernel) rfl ?_
              refine ab_fin.lald (v := 1) (pc' := 564) (by decide +kernel) (ab_ov_get (lt0 3466 (by decide)) rfl) (ab_bd (n := 1) (by rw [List.length_set, List.length_replicate]) (by decide +kernel)) rfl rfl ?_
              refine ab_fin.s2 (i := .iload 6) (k := 2) (pc' := 566) (lv' := [(6, .int 1), (5, .int 0), (4, .int 0), (3, .ref 3466), (2, .ref 101), (1, .ref 0), (0, .retAddr 9)]) (st' := [.int 1, .long 1]) (by decide +kernel) rfl rfl ?_
              refine ab_fin.brF (c := (1 : Int32) = 0) (i := .ifCond .eq 7) (off := 7) (t := 573) (pc' := 569) (r := [.long 1]) (by decide +kernel) rfl (by decide +kernel) rfl (by decide +kernel) ?_
              refine ab_fin.s1l (i := .lconst 1) (k := 1) (pc' := 570) (n := 1) (by decide +kernel) rfl (by decide +kernel) rfl ?_
              refine ab_fin.s3 (i := .goto 4) (k := 3) (t := 574) (st' := [.long 1, .long 1]) (by decide +kernel) (ab_goto (by decide +kernel)) ?_
              refine ab_fin.s1i (i := .lcmp) (k := 1) (pc' := 575) (n := 0) (by decide +kernel) rfl (by decide +kernel) rfl ?_
              refine ab_fin.brT (c := (0 : Int32) = 0) (i := .ifCond .eq 5) (off := 5) (t := 580) (r := []) (by decide +kernel) rfl (by decide +kernel) (by decide +kernel) ?_
              refine ab_fin.s3 (i := .goto 510) (k := 3) (t := 1090) (st' := []) (by decide +kernel) (ab_goto (by decide +kernel)) ?_
              refine ab_fin.inc (i := .iinc 4 6) (k := 3) (pc' := 1093) (j := 4) (n := 6) (lv' := [(6, .int 1), (5, .int 0), (3, .ref 3466), (2, .ref 101), (1, .ref 0), (0, .retAddr 9)]) (by decide +kernel) rfl (by decide +kernel) rfl ?_
              refine ab_fin.s3 (i := .goto (-1070)) (k := 3) (t := 23) (st' := []) (by decide +kernel) (ab_goto (by decide +kernel)) ?_
              refine ab_fin.s2 (i := .iload 4) (k := 2) (pc' := 25) (lv' := [(4, .int 6), (6, .int 1), (5, .int 0), (3, .ref 3466), (2, .ref 101), (1, .ref 0), (0, .retAddr 9)]) (st' := [.int 6]) (by decide +kernel) rfl rfl ?_
              refine ab_fin.s2 (i := .aload_n 0) (k := 1) (pc' := 26) (lv' := [(4, .int 6), (6, .int 1), (5, .int 0), (3, .ref 3466), (2, .ref 101), (1, .ref 0), (0, .retAddr 9)]) (st' := [.retAddr 9, .int 6]) (by decide +kernel) rfl rfl ?_
              refine ab_fin.s8 (i := .arraylength) (k := 1) (pc' := 27) (st' := [.int 6, .int 6]) (by decide +kernel) rfl rfl rfl rfl ?_
              refine ab_fin.s1i (i := .bipush 6) (k := 2) (pc' := 29) (n := 6) (by decide +kernel) rfl (by decide +kernel) rfl ?_
              refine ab_fin.s1i (i := .isub) (k := 1) (pc' := 30) (n := 0) (by decide +kernel) rfl (by decide +kernel) rfl ?_
              refine ab_fin.brT (c := (0 : Int32) < (6 : Int32)) (i := .if_icmp .gt 1066) (off := 1066) (t := 1096) (r := []) (by decide +kernel) rfl (by decide +kernel) (by decide +kernel) ?_
              refine ab_fin.s1i (i := .iconst 1) (k := 1) (pc' := 1097) (n := 1) (by decide +kernel) rfl (by decide +kernel) rfl ?_
              refine ab_fin.ret (i := .ireturn) (k := 1) (some (.int 1)) (by decide +kernel) rfl ?_
              refine ⟨rfl, ?_, ?_⟩
              · rw [ab_ov_len, hl]; decide
              · refine Nat.le_trans (ab_ov_z _ _) ?_
                simp only [List.map, List.sum_cons, List.sum_nil, ab_z1, ab_len, List.length_set, List.length_replicate, List.length_cons, List.length_nil, p1_n101]
                omega
            · rw [q16]
              try rw [show (((3 : Int32) >>> (1 &&& 31)) &&& (1 : Int32)) = (1 : Int32) by decide +kernel]
              refine ab_fin.brF (c := (1 : Int32) = 0) (i := .ifCond .eq 7) (off := 7) (t := 17) (pc' := 13) (r := []) (by decide +kernel) rfl (by decide +kernel) rfl (by decide +kernel) ?_
              refine ab_fin.s1i (i := .iconst 1) (k := 1) (pc' := 14) (n := 1) (by decide +kernel) rfl (by decide +kernel) rfl ?_
              refine ab_fin.s3 (i := .goto 4) (k := 3) (t := 18) (st' := [.int 1]) (by decide +kernel) (ab_goto (by decide +kernel)) ?_
              refine ab_fin.ret (i := .ireturn) (k := 1) (some (.int 1)) (by decide +kernel) rfl ?_
              refine ab_bk.back (pc' := 42) (st' := [.int 1]) rfl rfl ?_
              refine ab_fin.ret (i := .ireturn) (k := 1) (some (.int 1)) (by decide +kernel) rfl ?_
              refine ab_bk.back (pc' := 8) (st' := [.int 1, .int 0, .ref 3466]) rfl rfl ?_
              refine ab_fin.brF (c := (1 : Int32) = 0) (i := .ifCond .eq 7) (off := 7) (t := 15) (pc' := 11) (r := [.int 0, .ref 3466]) (by decide +kernel) rfl (by decide +kernel) rfl (by decide +kernel) ?_
              refine ab_fin.s1l (i := .lconst 1) (k := 1) (pc' := 12) (n := 1) (by decide +kernel) rfl (by decide +kernel) rfl ?_
              refine ab_fin.s3 (i := .goto 4) (k := 3) (t := 16) (st' := [.long 1, .int 0, .ref 3466]) (by decide +kernel) (ab_goto (by decide +kernel)) ?_
              refine ab_fin.last (h1 := ab_ov h [(3466, .inr (.inl (1, .inr (.inl ((List.replicate 1 0).set 0 (1))))))]) (pc' := 17) (by decide +kernel) (ab_ov_no f_3466 rfl) (ab_bd (n := 1) (by rw [List.length_replicate]) (by decide +kernel)) (ab_ov_set rfl) rfl ?_
              refine ab_fin.s3 (i := .goto 7) (k := 3) (t := 24) (st' := []) (by decide +kernel) (ab_goto (by decide +kernel)) ?_
              refine ab_fin.s1i (i := .iconst 0) (k := 1) (pc' := 25) (n := 0) (by decide +kernel) rfl (by decide +kernel) rfl ?_
              refine ab_fin.ret (i := .ireturn) (k := 1) (some (.int 0)) (by decide +kernel) rfl ?_
              refine ab_bk.back (pc' := 525) (st' := [.int 0]) rfl rfl ?_
              refine ab_fin.s2 (i := .istore 5) (k := 2) (pc' := 527) (lv' := [(5, .int 0), (4, .int 0), (3, .ref 3466), (2, .ref 101), (1, .ref 0), (0, .retAddr 9)]) (st' := []) (by decide +kernel) rfl rfl ?_
              refine ab_fin.s2 (i := .aload_n 2) (k := 1) (pc' := 528) (lv' := [(5, .int 0), (4, .int 0), (3, .ref 3466), (2, .ref 101), (1, .ref 0), (0, .retAddr 9)]) (st' := [.ref 101]) (by decide +kernel) rfl rfl ?_
              refine ab_fin.s2 (i := .aload_n 0) (k := 1) (pc' := 529) (lv' := [(5, .int 0), (4, .int 0), (3, .ref 3466), (2, .ref 101), (1, .ref 0), (0, .retAddr 9)]) (st' := [.retAddr 9, .ref 101]) (by decide +kernel) rfl rfl ?_
              refine ab_fin.s2 (i := .iload 4) (k := 2) (pc' := 531) (lv' := [(5, .int 0), (4, .int 0), (3, .ref 3466), (2, .ref 101), (1, .ref 0), (0, .retAddr 9)]) (st' := [.int 0, .retAddr 9, .ref 101]) (by decide +kernel) rfl rfl ?_
              refine ab_fin.s1i (i := .iconst 1) (k := 1) (pc' := 532) (n := 1) (by decide +kernel) rfl (by decide +kernel) rfl ?_
              refine ab_fin.s1i (i := .iadd) (k := 1) (pc' := 533) (n := 1) (by decide +kernel) rfl (by decide +kernel) rfl ?_
              refine ab_fin.s8 (i := .iaload) (k := 1) (pc' := 534) (st' := [.int ((xs 1)), .ref 101]) (by decide +kernel) (ab_x0 rfl (by decide +kernel) rfl) rfl rfl rfl ?_
              refine ab_fin.s2 (i := .aload_n 0) (k := 1) (pc' := 535) (lv' := [(5, .int 0), (4, .int 0), (3, .ref 3466), (2, .ref 101), (1, .ref 0), (0, .retAddr 9)]) (st' := [.retAddr 9, .int ((xs 1)), .ref 101]) (by decide +kernel) rfl rfl ?_
              refine ab_fin.s2 (i := .iload 4) (k := 2) (pc' := 537) (lv' := [(5, .int 0), (4, .int 0), (3, .ref 3466), (2, .ref 101), (1, .ref 0), (0, .retAddr 9)]) (st' := [.int 0, .retAddr 9, .int ((xs 1)), .ref 101]) (by decide +kernel) rfl rfl ?_
              refine ab_fin.s1i (i := .iconst 2) (k := 1) (pc' := 538) (n := 2) (by decide +kernel) rfl (by decide +kernel) rfl ?_
              refine ab_fin.s1i (i := .iadd) (k := 1) (pc' := 539) (n := 2) (by decide +kernel) rfl (by decide +kernel) rfl ?_
              refine ab_fin.s8 (i := .iaload) (k := 1) (pc' := 540) (st' := [.int ((xs 2)), .int ((xs 1)), .ref 101]) (by decide +kernel) (ab_x0 rfl (by decide +kernel) rfl) rfl rfl rfl ?_
              refine ab_fin.call (i := .invokevirtual 106) (k := 3) (y := 6002) (As := [.ref 101, .int ((xs 1)), .int ((xs 2))]) (rest := []) (M' := (mX23_below, [])) (by decide +kernel) (ab_cv rfl rfl (ab_ov_no f_101 rfl) ⟨(Nat.le_of_ble_eq_true rfl), (Nat.le_of_ble_eq_true rfl)⟩ rfl) rfl (Nat.le_of_ble_eq_true rfl) ?_
              show ab_fin _ _ _ _ 0 [(0, .ref 101), (1, .int ((xs 1))), (2, .int ((xs 2)))] [] _ _
              refine ab_fin.s2 (i := .aload_n 0) (k := 1) (pc' := 1) (lv' := [(0, .ref 101), (1, .int ((xs 1))), (2, .int ((xs 2)))]) (st' := [.ref 101]) (by decide +kernel) rfl rfl ?_
              refine ab_fin.s1i (i := .iconst 0) (k := 1) (pc' := 2) (n := 0) (by decide +kernel) rfl (by decide +kernel) rfl ?_
              refine ab_fin.putf (ix := 1000) (h1 := ab_ov h [(101, .inr (.inr (24, (p1_o101).set 110 (.int 0)))), (3466, .inr (.inl (1, .inr (.inl ((List.replicate 1 0).set 0 (1))))))]) (pc' := 5) (by decide +kernel) rfl (ab_ov_no f_101 rfl) (ab_klt (n := 115) (by rw [p1_n101]) (by decide)) rfl rfl (ab_ov_set rfl) rfl ?_
              refine ab_fin.s2 (i := .aload_n 0) (k := 1) (pc' := 6) (lv' := [(0, .ref 101), (1, .int ((xs 1))), (2, .int ((xs 2)))]) (st' := [.ref 101]) (by decide +kernel) rfl rfl ?_
              refine ab_fin.s2 (i := .iload_n 1) (k := 1) (pc' := 7) (lv' := [(0, .ref 101), (1, .int ((xs 1))), (2, .int ((xs 2)))]) (st' := [.int ((xs 1)), .ref 101]) (by decide +kernel) rfl rfl ?_
              refine ab_fin.call (i := .invokevirtual 1018) (k := 3) (y := 6001) (As := [.ref 101, .int ((xs 1))]) (rest := []) (M' := (mX23_isKind, [])) (by decide +kernel) (ab_cv rfl rfl (ab_ov_get (lt0 101 (by decide)) rfl) ⟨(Nat.le_of_ble_eq_true rfl), (Nat.le_of_ble_eq_true rfl)⟩ rfl) rfl (Nat.le_of_ble_eq_true rfl) ?_
              show ab_fin _ _ _ _ 0 [(0, .ref 101), (1, .int ((xs 1)))] [] _ _
              refine ab_fin.s2 (i := .iload_n 1) (k := 1) (pc' := 1) (lv' := [(0, .ref 101), (1, .int ((xs 1)))]) (st' := [.int ((xs 1))]) (by decide +kernel) rfl rfl ?_
              refine ab_fin.brF (c := (xs 1) < 0) (i := .ifCond .lt 15) (off := 15) (t := 16) (pc' := 4) (r := []) (by decide +kernel) rfl (by decide +kernel) rfl (by have l0 : (0 : Int32).toInt = 0 := rfl; have l1 : (1 : Int32).toInt = 1 := rfl; have l3 : (3 : Int32).toInt = 3 := rfl; simp only [← Int32.toInt_inj, Int32.lt_iff_toInt_lt, Int32.le_iff_toInt_le, l0, l1, l3] at q1 q2 q3 q4 q5 q16 ⊢; omega) ?_
              refine ab_fin.s2 (i := .iload_n 1) (k := 1) (pc' := 5) (lv' := [(0, .ref 101), (1, .int ((xs 1)))]) (st' := [.int ((xs 1))]) (by decide +kernel) rfl rfl ?_
              refine ab_fin.s2 (i := .aload_n 0) (k := 1) (pc' := 6) (lv' := [(0, .ref 101), (1, .int ((xs 1)))]) (st' := [.ref 101, .int ((xs 1))]) (by decide +kernel) rfl rfl ?_
              refine ab_fin.getf (ix := 13) (k := 4) (v := .int 3) (pc' := 9) (by decide +kernel) rfl (ab_ov_get (lt0 101 (by decide)) rfl) rfl rfl ?_
              refine ab_fin.brF (c := (3 : Int32) ≤ (xs 1)) (i := .if_icmp .ge 7) (off := 7) (t := 16) (pc' := 12) (r := []) (by decide +kernel) rfl (by decide +kernel) rfl (by have l0 : (0 : Int32).toInt = 0 := rfl; have l1 : (1 : Int32).toInt = 1 := rfl; have l3 : (3 : Int32).toInt = 3 := rfl; simp only [← Int32.toInt_inj, Int32.lt_iff_toInt_lt, Int32.le_iff_toInt_le, l0, l1, l3] at q1 q2 q3 q4 q5 q16 ⊢; omega) ?_
              refine ab_fin.s1i (i := .iconst 1) (k := 1) (pc' := 13) (n := 1) (by decide +kernel) rfl (by decide +kernel) rfl ?_
              refine ab_fin.s3 (i := .goto 4) (k := 3) (t := 17) (st' := [.int 1]) (by decide +kernel) (ab_goto (by decide +kernel)) ?_
              refine ab_fin.ret (i := .ireturn) (k := 1) (some (.int 1)) (by decide +kernel) rfl ?_
              refine ab_bk.back (pc' := 10) (st' := [.int 1]) rfl rfl ?_
              refine ab_fin.brF (c := (1 : Int32) = 0) (i := .ifCond .eq 11) (off := 11) (t := 21) (pc' := 13) (r := []) (by decide +kernel) rfl (by decide +kernel) rfl (by decide +kernel) ?_
              refine ab_fin.s2 (i := .aload_n 0) (k := 1) (pc' := 14) (lv' := [(0, .ref 101), (1, .int ((xs 1))), (2, .int ((xs 2)))]) (st' := [.ref 101]) (by decide +kernel) rfl rfl ?_
              refine ab_fin.s2 (i := .iload_n 2) (k := 1) (pc' := 15) (lv' := [(0, .ref 101), (1, .int ((xs 1))), (2, .int ((xs 2)))]) (st' := [.int ((xs 2)), .ref 101]) (by decide +kernel) rfl rfl ?_
              refine ab_fin.call (i := .invokevirtual 1018) (k := 3) (y := 6001) (As := [.ref 101, .int ((xs 2))]) (rest := []) (M' := (mX23_isKind, [])) (by decide +kernel) (ab_cv rfl rfl (ab_ov_get (lt0 101 (by decide)) rfl) ⟨(Nat.le_of_ble_eq_true rfl), (Nat.le_of_ble_eq_true rfl)⟩ rfl) rfl (Nat.le_of_ble_eq_true rfl) ?_
              show ab_fin _ _ _ _ 0 [(0, .ref 101), (1, .int ((xs 2)))] [] _ _
              refine ab_fin.s2 (i := .iload_n 1) (k := 1) (pc' := 1) (lv' := [(0, .ref 101), (1, .int ((xs 2)))]) (st' := [.int ((xs 2))]) (by decide +kernel) rfl rfl ?_
              refine ab_fin.brF (c := (xs 2) < 0) (i := .ifCond .lt 15) (off := 15) (t := 16) (pc' := 4) (r := []) (by decide +kernel) rfl (by decide +kernel) rfl (by have l0 : (0 : Int32).toInt = 0 := rfl; have l1 : (1 : Int32).toInt = 1 := rfl; have l3 : (3 : Int32).toInt = 3 := rfl; simp only [← Int32.toInt_inj, Int32.lt_iff_toInt_lt, Int32.le_iff_toInt_le, l0, l1, l3] at q1 q2 q3 q4 q5 q16 ⊢; omega) ?_
              refine ab_fin.s2 (i := .iload_n 1) (k := 1) (pc' := 5) (lv' := [(0, .ref 101), (1, .int ((xs 2)))]) (st' := [.int ((xs 2))]) (by decide +kernel) rfl rfl ?_
              refine ab_fin.s2 (i := .aload_n 0) (k := 1) (pc' := 6) (lv' := [(0, .ref 101), (1, .int ((xs 2)))]) (st' := [.ref 101, .int ((xs 2))]) (by decide +kernel) rfl rfl ?_
              refine ab_fin.getf (ix := 13) (k := 4) (v := .int 3) (pc' := 9) (by decide +kernel) rfl (ab_ov_get (lt0 101 (by decide)) rfl) rfl rfl ?_
              refine ab_fin.brF (c := (3 : Int32) ≤ (xs 2)) (i := .if_icmp .ge 7) (off := 7) (t := 16) (pc' := 12) (r := []) (by decide +kernel) rfl (by decide +kernel) rfl (by have l0 : (0 : Int32).toInt = 0 := rfl; have l1 : (1 : Int32).toInt = 1 := rfl; have l3 : (3 : Int32).toInt = 3 := rfl; simp only [← Int32.toInt_inj, Int32.lt_iff_toInt_lt, Int32.le_iff_toInt_le, l0, l1, l3] at q1 q2 q3 q4 q5 q16 ⊢; omega) ?_
              refine ab_fin.s1i (i := .iconst 1) (k := 1) (pc' := 13) (n := 1) (by decide +kernel) rfl (by decide +kernel) rfl ?_
              refine ab_fin.s3 (i := .goto 4) (k := 3) (t := 17) (st' := [.int 1]) (by decide +kernel) (ab_goto (by decide +kernel)) ?_
              refine ab_fin.ret (i := .ireturn) (k := 1) (some (.int 1)) (by decide +kernel) rfl ?_
              refine ab_bk.back (pc' := 18) (st' := [.int 1]) rfl rfl ?_
              refine ab_fin.brT (c := ¬ (1 : Int32) = 0) (i := .ifCond .ne 17) (off := 17) (t := 35) (r := []) (by decide +kernel) rfl (by decide +kernel) (by decide +kernel) ?_
              refine ab_fin.s2 (i := .aload_n 0) (k := 1) (pc' := 36) (lv' := [(0, .ref 101), (1, .int ((xs 1))), (2, .int ((xs 2)))]) (st' := [.ref 101]) (by decide +kernel) rfl rfl ?_
              refine ab_fin.getf (ix := 490) (k := 36) (v := .ref 1981) (pc' := 39) (by decide +kernel) rfl (ab_ov_get (lt0 101 (by decide)) rfl) rfl rfl ?_
              refine ab_fin.s2 (i := .iload_n 1) (k := 1) (pc' := 40) (lv' := [(0, .ref 101), (1, .int ((xs 1))), (2, .int ((xs 2)))]) (st' := [.int ((xs 1)), .ref 1981]) (by decide +kernel) rfl rfl ?_
              have q21 : (xs 1) = 1 := (by have l0 : (0 : Int32).toInt = 0 := rfl; have l1 : (1 : Int32).toInt = 1 := rfl; have l3 : (3 : Int32).toInt = 3 := rfl; simp only [← Int32.toInt_inj, Int32.lt_iff_toInt_lt, Int32.le_iff_toInt_le, l0, l1, l3] at q1 q2 q3 q4 q5 q16 ⊢; omega)
              rw [q21]
              refine ab_fin.aald (v := .ref 1983) (pc' := 41) (by decide +kernel) (ab_ov_no f_1981 rfl) (by decide) rfl (ab_bd (n := 24) (by rw [p1_n1981]) (by decide +kernel)) rfl rfl ?_
              refine ab_fin.s2 (i := .iload_n 2) (k := 1) (pc' := 42) (lv' := [(0, .ref 101), (1, .int 1), (2, .int ((xs 2)))]) (st' := [.int ((xs 2)), .ref 1983]) (by decide +kernel) rfl rfl ?_
              have q22 : (xs 2) = 1 := (by have l0 : (0 : Int32).toInt = 0 := rfl; have l1 : (1 : Int32).toInt = 1 := rfl; have l3 : (3 : Int32).toInt = 3 := rfl; simp only [← Int32.toInt_inj, Int32.lt_iff_toInt_lt, Int32.le_iff_toInt_le, l0, l1, l3] at q1 q2 q3 q4 q5 q16 q21 ⊢; omega)
              rw [q22]
              refine ab_fin.bald (t := 3) (v := 1) (pc' := 43) (by decide +kernel) (by decide) (ab_ov_no f_1983 rfl) (ab_bd (n := 24) (by rw [p1_n1983]) (by decide +kernel)) rfl rfl ?_
              refine ab_fin.ret (i := .ireturn) (k := 1) (some (.int 1)) (by decide +kernel) rfl ?_
              refine ab_bk.back (pc' := 543) (st' := [.int 1]) rfl rfl ?_
              refine ab_fin.s2 (i := .istore 6) (k := 2) (pc' := 545) (lv' := [(6, .int 1), (5, .int 0), (4, .int 0), (3, .ref 3466), (2, .ref 101), (1, .ref 0), (0, .retAddr 9)]) (st' := []) (by decide +kernel) rfl rfl ?_
              refine ab_fin.s2 (i := .aload_n 2) (k := 1) (pc' := 546) (lv' := [(6, .int 1), (5, .int 0), (4, .int 0), (3, .ref 3466), (2, .ref 101), (1, .ref 0), (0, .retAddr 9)]) (st' := [.ref 101]) (by decide +kernel) rfl rfl ?_
              refine ab_fin.call (i := .invokevirtual 75) (k := 3) (y := 5992) (As := [.ref 101]) (rest := []) (M' := (mX23_thrown, [])) (by decide +kernel) (ab_cv rfl rfl (ab_ov_get (lt0 101 (by decide)) rfl) ⟨(Nat.le_of_ble_eq_true rfl), (Nat.le_of_ble_eq_true rfl)⟩ rfl) rfl (Nat.le_of_ble_eq_true rfl) ?_
              show ab_fin _ _ _ _ 0 [(0, .ref 101)] [] _ _
              refine ab_fin.s2 (i := .aload_n 0) (k := 1) (pc' := 1) (lv' := [(0, .ref 101)]) (st' := [.ref 101]) (by decide +kernel) rfl rfl ?_
              refine ab_fin.getf (ix := 1000) (k := 110) (v := .int 0) (pc' := 4) (by decide +kernel) rfl (ab_ov_get (lt0 101 (by decide)) rfl) rfl rfl ?_
              refine ab_fin.ret (i := .ireturn) (k := 1) (some (.int 0)) (by decide +kernel) rfl ?_
              refine ab_bk.back (pc' := 549) (st' := [.int 0]) rfl rfl ?_
              refine ab_fin.s2 (i := .iload 5) (k := 2) (pc' := 551) (lv' := [(6, .int 1), (5, .int 0), (4, .int 0), (3, .ref 3466), (2, .ref 101), (1, .ref 0), (0, .retAddr 9)]) (st' := [.int 0, .int 0]) (by decide +kernel) rfl rfl ?_
              refine ab_fin.brT (c := (0 : Int32) = (0 : Int32)) (i := .if_icmp .eq 5) (off := 5) (t := 556) (r := []) (by decide +kernel) rfl (by decide +kernel) (by decide +kernel) ?_
              refine ab_fin.s2 (i := .iload 5) (k := 2) (pc' := 558) (lv' := [(6, .int 1), (5, .int 0), (4, .int 0), (3, .ref 3466), (2, .ref 101), (1, .ref 0), (0, .retAddr 9)]) (st' := [.int 0]) (by decide +kernel) rfl rfl ?_
              refine ab_fin.brF (c := ¬ (0 : Int32) = 0) (i := .ifCond .ne 22) (off := 22) (t := 580) (pc' := 561) (r := []) (by decide +kernel) rfl (by decide +kernel) rfl (by decide +kernel) ?_
              refine ab_fin.s2 (i := .aload_n 3) (k := 1) (pc' := 562) (lv' := [(6, .int 1), (5, .int 0), (4, .int 0), (3, .ref 3466), (2, .ref 101), (1, .ref 0), (0, .retAddr 9)]) (st' := [.ref 3466]) (by decide +kernel) rfl rfl ?_
              refine ab_fin.s1i (i := .iconst 0) (k := 1) (pc' := 563) (n := 0) (by decide +kernel) rfl (by decide +kernel) rfl ?_
              refine ab_fin.lald (v := 1) (pc' := 564) (by decide +kernel) (ab_ov_get (lt0 3466 (by decide)) rfl) (ab_bd (n := 1) (by rw [List.length_set, List.length_replicate]) (by decide +kernel)) rfl rfl ?_
              refine ab_fin.s2 (i := .iload 6) (k := 2) (pc' := 566) (lv' := [(6, .int 1), (5, .int 0), (4, .int 0), (3, .ref 3466), (2, .ref 101), (1, .ref 0), (0, .retAddr 9)]) (st' := [.int 1, .long 1]) (by decide +kernel) rfl rfl ?_
              refine ab_fin.brF (c := (1 : Int32) = 0) (i := .ifCond .eq 7) (off := 7) (t := 573) (pc' := 569) (r := [.long 1]) (by decide +kernel) rfl (by decide +kernel) rfl (by decide +kernel) ?_
              refine ab_fin.s1l (i := .lconst 1) (k := 1) (pc' := 570) (n := 1) (by decide +kernel) rfl (by decide +kernel) rfl ?_
              refine ab_fin.s3 (i := .goto 4) (k := 3) (t := 574) (st' := [.long 1, .long 1]) (by decide +kernel) (ab_goto (by decide +kernel)) ?_
              refine ab_fin.s1i (i := .lcmp) (k := 1) (pc' := 575) (n := 0) (by decide +kernel) rfl (by decide +kernel) rfl ?_
              refine ab_fin.brT (c := (0 : Int32) = 0) (i := .ifCond .eq 5) (off := 5) (t := 580) (r := []) (by decide +kernel) rfl (by decide +kernel) (by decide +kernel) ?_
              refine ab_fin.s3 (i := .goto 510) (k := 3) (t := 1090) (st' := []) (by decide +kernel) (ab_goto (by decide +kernel)) ?_
              refine ab_fin.inc (i := .iinc 4 6) (k := 3) (pc' := 1093) (j := 4) (n := 6) (lv' := [(6, .int 1), (5, .int 0), (3, .ref 3466), (2, .ref 101), (1, .ref 0), (0, .retAddr 9)]) (by decide +kernel) rfl (by decide +kernel) rfl ?_
              refine ab_fin.s3 (i := .goto (-1070)) (k := 3) (t := 23) (st' := []) (by decide +kernel) (ab_goto (by decide +kernel)) ?_
              refine ab_fin.s2 (i := .iload 4) (k := 2) (pc' := 25) (lv' := [(4, .int 6), (6, .int 1), (5, .int 0), (3, .ref 3466), (2, .ref 101), (1, .ref 0), (0, .retAddr 9)]) (st' := [.int 6]) (by decide +kernel) rfl rfl ?_
              refine ab_fin.s2 (i := .aload_n 0) (k := 1) (pc' := 26) (lv' := [(4, .int 6), (6, .int 1), (5, .int 0), (3, .ref 3466), (2, .ref 101), (1, .ref 0), (0, .retAddr 9)]) (st' := [.retAddr 9, .int 6]) (by decide +kernel) rfl rfl ?_
              refine ab_fin.s8 (i := .arraylength) (k := 1) (pc' := 27) (st' := [.int 6, .int 6]) (by decide +kernel) rfl rfl rfl rfl ?_
              refine ab_fin.s1i (i := .bipush 6) (k := 2) (pc' := 29) (n := 6) (by decide +kernel) rfl (by decide +kernel) rfl ?_
              refine ab_fin.s1i (i := .isub) (k := 1) (pc' := 30) (n := 0) (by decide +kernel) rfl (by decide +kernel) rfl ?_
              refine ab_fin.brT (c := (0 : Int32) < (6 : Int32)) (i := .if_icmp .gt 1066) (off := 1066) (t := 1096) (r := []) (by decide +kernel) rfl (by decide +kernel) (by decide +kernel) ?_
              refine ab_fin.s1i (i := .iconst 1) (k := 1) (pc' := 1097) (n := 1) (by decide +kernel) rfl (by decide +kernel) rfl ?_
              refine ab_fin.ret (i := .ireturn) (k := 1) (some (.int 1)) (by decide +kernel) rfl ?_
              refine ⟨rfl, ?_, ?_⟩
              · rw [ab_ov_len, hl]; decide
              · refine Nat.le_trans (ab_ov_z _ _) ?_
                simp only [List.map, List.sum_cons, List.sum_nil, ab_z1, ab_len, List.length_set, List.length_replicate, List.length_cons, List.length_nil, p1_n101]
                omega
            · rw [q16]
              try rw [show (((3 : Int32) >>> (2 &&& 31)) &&& (1 : Int32)) = (0 : Int32) by decide +kernel]
              refine ab_fin.brT (c := (0 : Int32) = 0) (i := .ifCond .eq 7) (off := 7) (t := 17) (r := []) (by decide +kernel) rfl (by decide +kernel) (by decide +kernel) ?_
              refine ab_fin.s1i (i := .iconst 0) (k := 1) (pc' := 18) (n := 0) (by decide +kernel) rfl (by decide +kernel) rfl ?_
              refine ab_fin.ret (i := .ireturn) (k := 1) (some (.int 0)) (by decide +kernel) rfl ?_
              refine ab_bk.back (pc' := 42) (st' := [.int 0]) rfl rfl ?_
              refine ab_fin.ret (i := .ireturn) (k := 1) (some (.int 0)) (by decide +kernel) rfl ?_
              refine ab_bk.back (pc' := 8) (st' := [.int 0, .int 0, .ref 3466]) rfl rfl ?_
              refine ab_fin.brT (c := (0 : Int32) = 0) (i := .ifCond .eq 7) (off := 7) (t := 15) (r := [.int 0, .ref 3466]) (by decide +kernel) rfl (by decide +kernel) (by decide +kernel) ?_
              refine ab_fin.s1l (i := .lconst 0) (k := 1) (pc' := 16) (n := 0) (by decide +kernel) rfl (by decide +kernel) rfl ?_
              refine ab_fin.last (h1 := ab_ov h [(3466, .inr (.inl (1, .inr (.inl ((List.replicate 1 0).set 0 (0))))))]) (pc' := 17) (by decide +kernel) (ab_ov_no f_3466 rfl) (ab_bd (n := 1) (by rw [List.length_replicate]) (by decide +kernel)) (ab_ov_set rfl) rfl ?_
              refine ab_fin.s3 (i := .goto 7) (k := 3) (t := 24) (st' := []) (by decide +kernel) (ab_goto (by decide +kernel)) ?_
              refine ab_fin.s1i (i := .iconst 0) (k := 1) (pc' := 25) (n := 0) (by decide +kernel) rfl (by decide +kernel) rfl ?_
              refine ab_fin.ret (i := .ireturn) (k := 1) (some (.int 0)) (by decide +kernel) rfl ?_
              refine ab_bk.back (pc' := 525) (st' := [.int 0]) rfl rfl ?_
              refine ab_fin.s2 (i := .istore 5) (k := 2) (pc' := 527) (lv' := [(5, .int 0), (4, .int 0), (3, .ref 3466), (2, .ref 101), (1, .ref 0), (0, .retAddr 9)]) (st' := []) (by decide +kernel) rfl rfl ?_
              refine ab_fin.s2 (i := .aload_n 2) (k := 1) (pc' := 528) (lv' := [(5, .int 0), (4, .int 0), (3, .ref 3466), (2, .ref 101), (1, .ref 0), (0, .retAddr 9)]) (st' := [.ref 101]) (by decide +kernel) rfl rfl ?_
              refine ab_fin.s2 (i := .aload_n 0) (k := 1) (pc' := 529) (lv' := [(5, .int 0), (4, .int 0), (3, .ref 3466), (2, .ref 101), (1, .ref 0), (0, .retAddr 9)]) (st' := [.retAddr 9, .ref 101]) (by decide +kernel) rfl rfl ?_
              refine ab_fin.s2 (i := .iload 4) (k := 2) (pc' := 531) (lv' := [(5, .int 0), (4, .int 0), (3, .ref 3466), (2, .ref 101), (1, .ref 0), (0, .retAddr 9)]) (st' := [.int 0, .retAddr 9, .ref 101]) (by decide +kernel) rfl rfl ?_
              refine ab_fin.s1i (i := .iconst 1) (k := 1) (pc' := 532) (n := 1) (by decide +kernel) rfl (by decide +kernel) rfl ?_
              refine ab_fin.s1i (i := .iadd) (k := 1) (pc' := 533) (n := 1) (by decide +kernel) rfl (by decide +kernel) rfl ?_
              refine ab_fin.s8 (i := .iaload) (k := 1) (pc' := 534) (st' := [.int ((xs 1)), .ref 101]) (by decide +kernel) (ab_x0 rfl (by decide +kernel) rfl) rfl rfl rfl ?_
              refine ab_fin.s2 (i := .aload_n 0) (k := 1) (pc' := 535) (lv' := [(5, .int 0), (4, .int 0), (3, .ref 3466), (2, .ref 101), (1, .ref 0), (0, .retAddr 9)]) (st' := [.retAddr 9, .int ((xs 1)), .ref 101]) (by decide +kernel) rfl rfl ?_
              refine ab_fin.s2 (i := .iload 4) (k := 2) (pc' := 537) (lv' := [(5, .int 0), (4, .int 0), (3, .ref 3466), (2, .ref 101), (1, .ref 0), (0, .retAddr 9)]) (st' := [.int 0, .retAddr 9, .int ((xs 1)), .ref 101]) (by decide +kernel) rfl rfl ?_
              refine ab_fin.s1i (i := .iconst 2) (k := 1) (pc' := 538) (n := 2) (by decide +kernel) rfl (by decide +kernel) rfl ?_
              refine ab_fin.s1i (i := .iadd) (k := 1) (pc' := 539) (n := 2) (by decide +kernel) rfl (by decide +kernel) rfl ?_
              refine ab_fin.s8 (i := .iaload) (k := 1) (pc' := 540) (st' := [.int ((xs 2)), .int ((xs 1)), .ref 101]) (by decide +kernel) (ab_x0 rfl (by decide +kernel) rfl) rfl rfl rfl ?_
              refine ab_fin.call (i := .invokevirtual 106) (k := 3) (y := 6002) (As := [.ref 101, .int ((xs 1)), .int ((xs 2))]) (rest := []) (M' := (mX23_below, [])) (by decide +kernel) (ab_cv rfl rfl (ab_ov_no f_101 rfl) ⟨(Nat.le_of_ble_eq_true rfl), (Nat.le_of_ble_eq_true rfl)⟩ rfl) rfl (Nat.le_of_ble_eq_true rfl) ?_
              show ab_fin _ _ _ _ 0 [(0, .ref 101), (1, .int ((xs 1))), (2, .int ((xs 2)))] [] _ _
              refine ab_fin.s2 (i := .aload_n 0) (k := 1) (pc' := 1) (lv' := [(0, .ref 101), (1, .int ((xs 1))), (2, .int ((xs 2)))]) (st' := [.ref 101]) (by decide +kernel) rfl rfl ?_
              refine ab_fin.s1i (i := .iconst 0) (k := 1) (pc' := 2) (n := 0) (by decide +kernel) rfl (by decide +kernel) rfl ?_
              refine ab_fin.putf (ix := 1000) (h1 := ab_ov h [(101, .inr (.inr (24, (p1_o101).set 110 (.int 0)))), (3466, .inr (.inl (1, .inr (.inl ((List.replicate 1 0).set 0 (0))))))]) (pc' := 5) (by decide +kernel) rfl (ab_ov_no f_101 rfl) (ab_klt (n := 115) (by rw [p1_n101]) (by decide)) rfl rfl (ab_ov_set rfl) rfl ?_
              refine ab_fin.s2 (i := .aload_n 0) (k := 1) (pc' := 6) (lv' := [(0, .ref 101), (1, .int ((xs 1))), (2, .int ((xs 2)))]) (st' := [.ref 101]) (by decide +kernel) rfl rfl ?_
              refine ab_fin.s2 (i := .iload_n 1) (k := 1) (pc' := 7) (lv' := [(0, .ref 101), (1, .int ((xs 1))), (2, .int ((xs 2)))]) (st' := [.int ((xs 1)), .ref 101]) (by decide +kernel) rfl rfl ?_
              refine ab_fin.call (i := .invokevirtual 1018) (k := 3) (y := 6001) (As := [.ref 101, .int ((xs 1))]) (rest := []) (M' := (mX23_isKind, [])) (by decide +kernel) (ab_cv rfl rfl (ab_ov_get (lt0 101 (by decide)) rfl) ⟨(Nat.le_of_ble_eq_true rfl), (Nat.le_of_ble_eq_true rfl)⟩ rfl) rfl (Nat.le_of_ble_eq_true rfl) ?_
              show ab_fin _ _ _ _ 0 [(0, .ref 101), (1, .int ((xs 1)))] [] _ _
              refine ab_fin.s2 (i := .iload_n 1) (k := 1) (pc' := 1) (lv' := [(0, .ref 101), (1, .int ((xs 1)))]) (st' := [.int ((xs 1))]) (by decide +kernel) rfl rfl ?_
              refine ab_fin.brF (c := (xs 1) < 0) (i := .ifCond .lt 15) (off := 15) (t := 16) (pc' := 4) (r := []) (by decide +kernel) rfl (by decide +kernel) rfl (by have l0 : (0 : Int32).toInt = 0 := rfl; have l1 : (1 : Int32).toInt = 1 := rfl; have l2 : (2 : Int32).toInt = 2 := rfl; have l3 : (3 : Int32).toInt = 3 := rfl; simp only [← Int32.toInt_inj, Int32.lt_iff_toInt_lt, Int32.le_iff_toInt_le, l0, l1, l2, l3] at q1 q2 q3 q4 q5 q16 ⊢; omega) ?_
              refine ab_fin.s2 (i := .iload_n 1) (k := 1) (pc' := 5) (lv' := [(0, .ref 101), (1, .int ((xs 1)))]) (st' := [.int ((xs 1))]) (by decide +kernel) rfl rfl ?_
              refine ab_fin.s2 (i := .aload_n 0) (k := 1) (pc' := 6) (lv' := [(0, .ref 101), (1, .int ((xs 1)))]) (st' := [.ref 101, .int ((xs 1))]) (by decide +kernel) rfl rfl ?_
              refine ab_fin.getf (ix := 13) (k := 4) (v := .int 3) (pc' := 9) (by decide +kernel) rfl (ab_ov_get (lt0 101 (by decide)) rfl) rfl rfl ?_
              refine ab_fin.brF (c := (3 : Int32) ≤ (xs 1)) (i := .if_icmp .ge 7) (off := 7) (t := 16) (pc' := 12) (r := []) (by decide +kernel) rfl (by decide +kernel) rfl (by have l0 : (0 : Int32).toInt = 0 := rfl; have l1 : (1 : Int32).toInt = 1 := rfl; have l2 : (2 : Int32).toInt = 2 := rfl; have l3 : (3 : Int32).toInt = 3 := rfl; simp only [← Int32.toInt_inj, Int32.lt_iff_toInt_lt, Int32.le_iff_toInt_le, l0, l1, l2, l3] at q1 q2 q3 q4 q5 q16 ⊢; omega) ?_
              refine ab_fin.s1i (i := .iconst 1) (k := 1) (pc' := 13) (n := 1) (by decide +kernel) rfl (by decide +kernel) rfl ?_
              refine ab_fin.s3 (i := .goto 4) (k := 3) (t := 17) (st' := [.int 1]) (by decide +kernel) (ab_goto (by decide +kernel)) ?_
              refine ab_fin.ret (i := .ireturn) (k := 1) (some (.int 1)) (by decide +kernel) rfl ?_
              refine ab_bk.back (pc' := 10) (st' := [.int 1]) rfl rfl ?_
              refine ab_fin.brF (c := (1 : Int32) = 0) (i := .ifCond .eq 11) (off := 11) (t := 21) (pc' := 13) (r := []) (by decide +kernel) rfl (by decide +kernel) rfl (by decide +kernel) ?_
              refine ab_fin.s2 (i := .aload_n 0) (k := 1) (pc' := 14) (lv' := [(0, .ref 101), (1, .int ((xs 1))), (2, .int ((xs 2)))]) (st' := [.ref 101]) (by decide +kernel) rfl rfl ?_
              refine ab_fin.s2 (i := .iload_n 2) (k := 1) (pc' := 15) (lv' := [(0, .ref 101), (1, .int ((xs 1))), (2, .int ((xs 2)))]) (st' := [.int ((xs 2)), .ref 101]) (by decide +kernel) rfl rfl ?_
              refine ab_fin.call (i := .invokevirtual 1018) (k := 3) (y := 6001) (As := [.ref 101, .int ((xs 2))]) (rest := []) (M' := (mX23_isKind, [])) (by decide +kernel) (ab_cv rfl rfl (ab_ov_get (lt0 101 (by decide)) rfl) ⟨(Nat.le_of_ble_eq_true rfl), (Nat.le_of_ble_eq_true rfl)⟩ rfl) rfl (Nat.le_of_ble_eq_true rfl) ?_
              show ab_fin _ _ _ _ 0 [(0, .ref 101), (1, .int ((xs 2)))] [] _ _
              refine ab_fin.s2 (i := .iload_n 1) (k := 1) (pc' := 1) (lv' := [(0, .ref 101), (1, .int ((xs 2)))]) (st' := [.int ((xs 2))]) (by decide +kernel) rfl rfl ?_
              refine ab_fin.brF (c := (xs 2) < 0) (i := .ifCond .lt 15) (off := 15) (t := 16) (pc' := 4) (r := []) (by decide +kernel) rfl (by decide +kernel) rfl (by have l0 : (0 : Int32).toInt = 0 := rfl; have l1 : (1 : Int32).toInt = 1 := rfl; have l2 : (2 : Int32).toInt = 2 := rfl; have l3 : (3 : Int32).toInt = 3 := rfl; simp only [← Int32.toInt_inj, Int32.lt_iff_toInt_lt, Int32.le_iff_toInt_le, l0, l1, l2, l3] at q1 q2 q3 q4 q5 q16 ⊢; omega) ?_
              refine ab_fin.s2 (i := .iload_n 1) (k := 1) (pc' := 5) (lv' := [(0, .ref 101), (1, .int ((xs 2)))]) (st' := [.int ((xs 2))]) (by decide +kernel) rfl rfl ?_
              refine ab_fin.s2 (i := .aload_n 0) (k := 1) (pc' := 6) (lv' := [(0, .ref 101), (1, .int ((xs 2)))]) (st' := [.ref 101, .int ((xs 2))]) (by decide +kernel) rfl rfl ?_
              refine ab_fin.getf (ix := 13) (k := 4) (v := .int 3) (pc' := 9) (by decide +kernel) rfl (ab_ov_get (lt0 101 (by decide)) rfl) rfl rfl ?_
              refine ab_fin.brF (c := (3 : Int32) ≤ (xs 2)) (i := .if_icmp .ge 7) (off := 7) (t := 16) (pc' := 12) (r := []) (by decide +kernel) rfl (by decide +kernel) rfl (by have l0 : (0 : Int32).toInt = 0 := rfl; have l1 : (1 : Int32).toInt = 1 := rfl; have l2 : (2 : Int32).toInt = 2 := rfl; have l3 : (3 : Int32).toInt = 3 := rfl; simp only [← Int32.toInt_inj, Int32.lt_iff_toInt_lt, Int32.le_iff_toInt_le, l0, l1, l2, l3] at q1 q2 q3 q4 q5 q16 ⊢; omega) ?_
              refine ab_fin.s1i (i := .iconst 1) (k := 1) (pc' := 13) (n := 1) (by decide +kernel) rfl (by decide +kernel) rfl ?_
              refine ab_fin.s3 (i := .goto 4) (k := 3) (t := 17) (st' := [.int 1]) (by decide +kernel) (ab_goto (by decide +kernel)) ?_
              refine ab_fin.ret (i := .ireturn) (k := 1) (some (.int 1)) (by decide +kernel) rfl ?_
              refine ab_bk.back (pc' := 18) (st' := [.int 1]) rfl rfl ?_
              refine ab_fin.brT (c := ¬ (1 : Int32) = 0) (i := .ifCond .ne 17) (off := 17) (t := 35) (r := []) (by decide +kernel) rfl (by decide +kernel) (by decide +kernel) ?_
              refine ab_fin.s2 (i := .aload_n 0) (k := 1) (pc' := 36) (lv' := [(0, .ref 101), (1, .int ((xs 1))), (2, .int ((xs 2)))]) (st' := [.ref 101]) (by decide +kernel) rfl rfl ?_
              refine ab_fin.getf (ix := 490) (k := 36) (v := .ref 1981) (pc' := 39) (by decide +kernel) rfl (ab_ov_get (lt0 101 (by decide)) rfl) rfl rfl ?_
              refine ab_fin.s2 (i := .iload_n 1) (k := 1) (pc' := 40) (lv' := [(0, .ref 101), (1, .int ((xs 1))), (2, .int ((xs 2)))]) (st' := [.int ((xs 1)), .ref 1981]) (by decide +kernel) rfl rfl ?_
              have q24 : (xs 1) = 1 := (by have l0 : (0 : Int32).toInt = 0 := rfl; have l1 : (1 : Int32).toInt = 1 := rfl; have l2 : (2 : Int32).toInt = 2 := rfl; have l3 : (3 : Int32).toInt = 3 := rfl; simp only [← Int32.toInt_inj, Int32.lt_iff_toInt_lt, Int32.le_iff_toInt_le, l0, l1, l2, l3] at q1 q2 q3 q4 q5 q16 ⊢; omega)
              rw [q24]
              refine ab_fin.aald (v := .ref 1983) (pc' := 41) (by decide +kernel) (ab_ov_no f_1981 rfl) (by decide) rfl (ab_bd (n := 24) (by rw [p1_n1981]) (by decide +kernel)) rfl rfl ?_
              refine ab_fin.s2 (i := .iload_n 2) (k := 1) (pc' := 42) (lv' := [(0, .ref 101), (1, .int 1), (2, .int ((xs 2)))]) (st' := [.int ((xs 2)), .ref 1983]) (by decide +kernel) rfl rfl ?_
              have q25 : (xs 2) = 2 := (by have l0 : (0 : Int32).toInt = 0 := rfl; have l1 : (1 : Int32).toInt = 1 := rfl; have l2 : (2 : Int32).toInt = 2 := rfl; have l3 : (3 : Int32).toInt = 3 := rfl; simp only [← Int32.toInt_inj, Int32.lt_iff_toInt_lt, Int32.le_iff_toInt_le, l0, l1, l2, l3] at q1 q2 q3 q4 q5 q16 q24 ⊢; omega)
              rw [q25]
              refine ab_fin.bald (t := 3) (v := 0) (pc' := 43) (by decide +kernel) (by decide) (ab_ov_no f_1983 rfl) (ab_bd (n := 24) (by rw [p1_n1983]) (by decide +kernel)) rfl rfl ?_
              refine ab_fin.ret (i := .ireturn) (k := 1) (some (.int 0)) (by decide +kernel) rfl ?_
              refine ab_bk.back (pc' := 543) (st' := [.int 0]) rfl rfl ?_
              refine ab_fin.s2 (i := .istore 6) (k := 2) (pc' := 545) (lv' := [(6, .int 0), (5, .int 0), (4, .int 0), (3, .ref 3466), (2, .ref 101), (1, .ref 0), (0, .retAddr 9)]) (st' := []) (by decide +kernel) rfl rfl ?_
              refine ab_fin.s2 (i := .aload_n 2) (k := 1) (pc' := 546) (lv' := [(6, .int 0), (5, .int 0), (4, .int 0), (3, .ref 3466), (2, .ref 101), (1, .ref 0), (0, .retAddr 9)]) (st' := [.ref 101]) (by decide +kernel) rfl rfl ?_
              refine ab_fin.call (i := .invokevirtual 75) (k := 3) (y := 5992) (As := [.ref 101]) (rest := []) (M' := (mX23_thrown, [])) (by decide +kernel) (ab_cv rfl rfl (ab_ov_get (lt0 101 (by decide)) rfl) ⟨(Nat.le_of_ble_eq_true rfl), (Nat.le_of_ble_eq_true rfl)⟩ rfl) rfl (Nat.le_of_ble_eq_true rfl) ?_
              show ab_fin _ _ _ _ 0 [(0, .ref 101)] [] _ _
              refine ab_fin.s2 (i := .aload_n 0) (k := 1) (pc' := 1) (lv' := [(0, .ref 101)]) (st' := [.ref 101]) (by decide +kernel) rfl rfl ?_
              refine ab_fin.getf (ix := 1000) (k := 110) (v := .int 0) (pc' := 4) (by decide +kernel) rfl (ab_ov_get (lt0 101 (by decide)) rfl) rfl rfl ?_
              refine ab_fin.ret (i := .ireturn) (k := 1) (some (.int 0)) (by decide +kernel) rfl ?_
              refine ab_bk.back (pc' := 549) (st' := [.int 0]) rfl rfl ?_
              refine ab_fin.s2 (i := .iload 5) (k := 2) (pc' := 551) (lv' := [(6, .int 0), (5, .int 0), (4, .int 0), (3, .ref 3466), (2, .ref 101), (1, .ref 0), (0, .retAddr 9)]) (st' := [.int 0, .int 0]) (by decide +kernel) rfl rfl ?_
              refine ab_fin.brT (c := (0 : Int32) = (0 : Int32)) (i := .if_icmp .eq 5) (off := 5) (t := 556) (r := []) (by decide +kernel) rfl (by decide +kernel) (by decide +kernel) ?_
              refine ab_fin.s2 (i := .iload 5) (k := 2) (pc' := 558) (lv' := [(6, .int 0), (5, .int 0), (4, .int 0), (3, .ref 3466), (2, .ref 101), (1, .ref 0), (0, .retAddr 9)]) (st' := [.int 0]) (by decide +kernel) rfl rfl ?_
              refine ab_fin.brF (c := ¬ (0 : Int32) = 0) (i := .ifCond .ne 22) (off := 22) (t := 580) (pc' := 561) (r := []) (by decide +kernel) rfl (by decide +kernel) rfl (by decide +kernel) ?_
              refine ab_fin.s2 (i := .aload_n 3) (k := 1) (pc' := 562) (lv' := [(6, .int 0), (5, .int 0), (4, .int 0), (3, .ref 3466), (2, .ref 101), (1, .ref 0), (0, .retAddr 9)]) (st' := [.ref 3466]) (by decide +kernel) rfl rfl ?_
              refine ab_fin.s1i (i := .iconst 0) (k := 1) (pc' := 563) (n := 0) (by decide +kernel) rfl (by decide +kernel) rfl ?_
              refine ab_fin.lald (v := 0) (pc' := 564) (by decide +kernel) (ab_ov_get (lt0 3466 (by decide)) rfl) (ab_bd (n := 1) (by rw [List.length_set, List.length_replicate]) (by decide +kernel)) rfl rfl ?_
              refine ab_fin.s2 (i := .iload 6) (k := 2) (pc' := 566) (lv' := [(6, .int 0), (5, .int 0), (4, .int 0), (3, .ref 3466), (2, .ref 101), (1, .ref 0), (0, .retAddr 9)]) (st' := [.int 0, .long 0]) (by decide +kernel) rfl rfl ?_
              refine ab_fin.brT (c := (0 : Int32) = 0) (i := .ifCond .eq 7) (off := 7) (t := 573) (r := [.long 0]) (by decide +kernel) rfl (by decide +kernel) (by decide +kernel) ?_
              refine ab_fin.s1l (i := .lconst 0) (k := 1) (pc' := 574) (n := 0) (by decide +kernel) rfl (by decide +kernel) rfl ?_
              refine ab_fin.s1i (i := .lcmp) (k := 1) (pc' := 575) (n := 0) (by decide +kernel) rfl (by decide +kernel) rfl ?_
              refine ab_fin.brT (c := (0 : Int32) = 0) (i := .ifCond .eq 5) (off := 5) (t := 580) (r := []) (by decide +kernel) rfl (by decide +kernel) (by decide +kernel) ?_
              refine ab_fin.s3 (i := .goto 510) (k := 3) (t := 1090) (st' := []) (by decide +kernel) (ab_goto (by decide +kernel)) ?_
              refine ab_fin.inc (i := .iinc 4 6) (k := 3) (pc' := 1093) (j := 4) (n := 6) (lv' := [(6, .int 0), (5, .int 0), (3, .ref 3466), (2, .ref 101), (1, .ref 0), (0, .retAddr 9)]) (by decide +kernel) rfl (by decide +kernel) rfl ?_
              refine ab_fin.s3 (i := .goto (-1070)) (k := 3) (t := 23) (st' := []) (by decide +kernel) (ab_goto (by decide +kernel)) ?_
              refine ab_fin.s2 (i := .iload 4) (k := 2) (pc' := 25) (lv' := [(4, .int 6), (6, .int 0), (5, .int 0), (3, .ref 3466), (2, .ref 101), (1, .ref 0), (0, .retAddr 9)]) (st' := [.int 6]) (by decide +kernel) rfl rfl ?_
              refine ab_fin.s2 (i := .aload_n 0) (k := 1) (pc' := 26) (lv' := [(4, .int 6), (6, .int 0), (5, .int 0), (3, .ref 3466), (2, .ref 101), (1, .ref 0), (0, .retAddr 9)]) (st' := [.retAddr 9, .int 6]) (by decide +kernel) rfl rfl ?_
              refine ab_fin.s8 (i := .arraylength) (k := 1) (pc' := 27) (st' := [.int 6, .int 6]) (by decide +kernel) rfl rfl rfl rfl ?_
              refine ab_fin.s1i (i := .bipush 6) (k := 2) (pc' := 29) (n := 6) (by decide +kernel) rfl (by decide +kernel) rfl ?_
              refine ab_fin.s1i (i := .isub) (k := 1) (pc' := 30) (n := 0) (by decide +kernel) rfl (by decide +kernel) rfl ?_
              refine ab_fin.brT (c := (0 : Int32) < (6 : Int32)) (i := .if_icmp .gt 1066) (off := 1066) (t := 1096) (r := []) (by decide +kernel) rfl (by decide +kernel) (by decide +kernel) ?_
              refine ab_fin.s1i (i := .iconst 1) (k := 1) (pc' := 1097) (n := 1) (by decide +kernel) rfl (by decide +kernel) rfl ?_
              refine ab_fin.ret (i := .ireturn) (k := 1) (some (.int 1)) (by decide +kernel) rfl ?_
              refine ⟨rfl, ?_, ?_⟩
              · rw [ab_ov_len, hl]; decide
              · refine Nat.le_trans (ab_ov_z _ _) ?_
                simp only [List.map, List.sum_cons, List.sum_nil, ab_z1, ab_len, List.length_set, List.length_replicate, List.length_cons, List.length_nil, p1_n101]
                omega
          · rw [q5]
            refine ab_fin.iald (v := 5) (pc' := 6) (by decide +kernel) (ab_ov_no f_4 rfl) (ab_bd (n := 24) (by rw [p1_n4]) (by decide +kernel)) rfl rfl ?_
            refine ab_fin.s2 (i := .iload_n 2) (k := 1) (pc' := 7) (lv' := [(0, .ref 2), (1, .int 2), (2, .int ((xs 2)))]) (st' := [.int ((xs 2)), .int 5]) (by decide +kernel) rfl rfl ?_
            refine ab_fin.s1 (i := .ishr) (k := 1) (pc' := 8) (st' := [.int (((5 : Int32) >>> ((xs 2) &&& 31)))]) (by decide +kernel) rfl rfl ?_
            refine ab_fin.s1i (i := .iconst 1) (k := 1) (pc' := 9) (n := 1) (by decide +kernel) rfl (by decide +kernel) rfl ?_
            refine ab_fin.s1 (i := .iand) (k := 1) (pc' := 10) (st' := [.int ((((5 : Int32) >>> ((xs 2) &&& 31)) &&& (1 : Int32)))]) (by decide +kernel) rfl rfl ?_
            have q26 : (xs 2) = 0 ∨ (xs 2) = 1 ∨ (xs 2) = 2 := (by have l0 : (0 : Int32).toInt = 0 := rfl; have l1 : (1 : Int32).toInt = 1 := rfl; have l2 : (2 : Int32).toInt = 2 := rfl; have l3 : (3 : Int32).toInt = 3 := rfl; simp only [← Int32.toInt_inj, Int32.lt_iff_toInt_lt, Int32.le_iff_toInt_le, l0, l1, l2, l3] at q1 q2 q3 q4 q5 ⊢; omega)
            rcases q26 with q26 | q26 | q26
            · rw [q26]
              try rw [show (((5 : Int32) >>> (0 &&& 31)) &&& (1 : Int32)) = (1 : Int32) by decide +kernel]
              refine ab_fin.brF (c := (1 : Int32) = 0) (i := .ifCond .eq 7) (off := 7) (t := 17) (pc' := 13) (r := []) (by decide +kernel) rfl (by decide +kernel) rfl (by decide +kernel) ?_
              refine ab_fin.s1i (i := .iconst 1) (k := 1) (pc' := 14) (n := 1) (by decide +kernel) rfl (by decide +kernel) rfl ?_
              refine ab_fin.s3 (i := .goto 4) (k := 3) (t := 18) (st' := [.int 1]) (by decide +kernel) (ab_goto (by decide +kernel)) ?_
              refine ab_fin.ret (i := .ireturn) (k := 1) (some (.int 1)) (by decide +kernel) rfl ?_
              refine ab_bk.back (pc' := 42) (st' := [.int 1]) rfl rfl ?_
              refine ab_fin.ret (i := .ireturn) (k := 1) (some (.int 1)) (by decide +kernel) rfl ?_
              refine ab_bk.back (pc' := 8) (st' := [.int 1, .int 0, .ref 3466]) rfl rfl ?_
              refine ab_fin.brF (c := (1 : Int32) = 0) (i := .ifCond .eq 7) (off := 7) (t := 15) (pc' := 11) (r := [.int 0, .ref 3466]) (by decide +kernel) rfl (by decide +kernel) rfl (by decide +kernel) ?_
              refine ab_fin.s1l (i := .lconst 1) (k := 1) (pc' := 12) (n := 1) (by decide +kernel) rfl (by decide +kernel) rfl ?_
              refine ab_fin.s3 (i := .goto 4) (k := 3) (t := 16) (st' := [.long 1, .int 0, .ref 3466]) (by decide +kernel) (ab_goto (by decide +kernel)) ?_
              refine ab_fin.last (h1 := ab_ov h [(3466, .inr (.inl (1, .inr (.inl ((List.replicate 1 0).set 0 (1))))))]) (pc' := 17) (by decide +kernel) (ab_ov_no f_3466 rfl) (ab_bd (n := 1) (by rw [List.length_replicate]) (by decide +kernel)) (ab_ov_set rfl) rfl ?_
              refine ab_fin.s3 (i := .goto 7) (k := 3) (t := 24) (st' := []) (by decide +kernel) (ab_goto (by decide +kernel)) ?_
              refine ab_fin.s1i (i := .iconst 0) (k := 1) (pc' := 25) (n := 0) (by decide +kernel) rfl (by decide +kernel) rfl ?_
              refine ab_fin.ret (i := .ireturn) (k := 1) (some (.int 0)) (by decide +kernel) rfl ?_
              refine ab_bk.back (pc' := 525) (st' := [.int 0]) rfl rfl ?_
              refine ab_fin.s2 (i := .istore 5) (k := 2) (pc' := 527) (lv' := [(5, .int 0), (4, .int 0), (3, .ref 3466), (2, .ref 101), (1, .ref 0), (0, .retAddr 9)]) (st' := []) (by decide +kernel) rfl rfl ?_
              refine ab_fin.s2 (i := .aload_n 2) (k := 1) (pc' := 528) (lv' := [(5, .int 0), (4, .int 0), (3, .ref 3466), (2, .ref 101), (1, .ref 0), (0, .retAddr 9)]) (st' := [.ref 101]) (by decide +kernel) rfl rfl ?_
              refine ab_fin.s2 (i := .aload_n 0) (k := 1) (pc' := 529) (lv' := [(5, .int 0), (4, .int 0), (3, .ref 3466), (2, .ref 101), (1, .ref 0), (0, .retAddr 9)]) (st' := [.retAddr 9, .ref 101]) (by decide +kernel) rfl rfl ?_
              refine ab_fin.s2 (i := .iload 4) (k := 2) (pc' := 531) (lv' := [(5, .int 0), (4, .int 0), (3, .ref 3466), (2, .ref 101), (1, .ref 0), (0, .retAddr 9)]) (st' := [.int 0, .retAddr 9, .ref 101]) (by decide +kernel) rfl rfl ?_
              refine ab_fin.s1i (i := .iconst 1) (k := 1) (pc' := 532) (n := 1) (by decide +kernel) rfl (by decide +kernel) rfl ?_
              refine ab_fin.s1i (i := .iadd) (k := 1) (pc' := 533) (n := 1) (by decide +kernel) rfl (by decide +kernel) rfl ?_
              refine ab_fin.s8 (i := .iaload) (k := 1) (pc' := 534) (st' := [.int ((xs 1)), .ref 101]) (by decide +kernel) (ab_x0 rfl (by decide +kernel) rfl) rfl rfl rfl ?_
              refine ab_fin.s2 (i := .aload_n 0) (k := 1) (pc' := 535) (lv' := [(5, .int 0), (4, .int 0), (3, .ref 3466), (2, .ref 101), (1, .ref 0), (0, .retAddr 9)]) (st' := [.retAddr 9, .int ((xs 1)), .ref 101]) (by decide +kernel) rfl rfl ?_
              refine ab_fin.s2 (i := .iload 4) (k := 2) (pc' := 537) (lv' := [(5, .int 0), (4, .int 0), (3, .ref 3466), (2, .ref 101), (1, .ref 0), (0, .retAddr 9)]) (st' := [.int 0, .retAddr 9, .int ((xs 1)), .ref 101]) (by decide +kernel) rfl rfl ?_
              refine ab_fin.s1i (i := .iconst 2) (k := 1) (pc' := 538) (n := 2) (by decide +kernel) rfl (by decide +kernel) rfl ?_
              refine ab_fin.s1i (i := .iadd) (k := 1) (pc' := 539) (n := 2) (by decide +kernel) rfl (by decide +kernel) rfl ?_
              refine ab_fin.s8 (i := .iaload) (k := 1) (pc' := 540) (st' := [.int ((xs 2)), .int ((xs 1)), .ref 101]) (by decide +kernel) (ab_x0 rfl (by decide +kernel) rfl) rfl rfl rfl ?_
              refine ab_fin.call (i := .invokevirtual 106) (k := 3) (y := 6002) (As := [.ref 101, .int ((xs 1)), .int ((xs 2))]) (rest := []) (M' := (mX23_below, [])) (by decide +kernel) (ab_cv rfl rfl (ab_ov_no f_101 rfl) ⟨(Nat.le_of_ble_eq_true rfl), (Nat.le_of_ble_eq_true rfl)⟩ rfl) rfl (Nat.le_of_ble_eq_true rfl) ?_
              show ab_fin _ _ _ _ 0 [(0, .ref 101), (1, .int ((xs 1))), (2, .int ((xs 2)))] [] _ _
              refine ab_fin.s2 (i := .aload_n 0) (k := 1) (pc' := 1) (lv' := [(0, .ref 101), (1, .int ((xs 1))), (2, .int ((xs 2)))]) (st' := [.ref 101]) (by decide +kernel) rfl rfl ?_
              refine ab_fin.s1i (i := .iconst 0) (k := 1) (pc' := 2) (n := 0) (by decide +kernel) rfl (by decide +kernel) rfl ?_
              refine ab_fin.putf (ix := 1000) (h1 := ab_ov h [(101, .inr (.inr (24, (p1_o101).set 110 (.int 0)))), (3466, .inr (.inl (1, .inr (.inl ((List.replicate 1 0).set 0 (1))))))]) (pc' := 5) (by decide +kernel) rfl (ab_ov_no f_101 rfl) (ab_klt (n := 115) (by rw [p1_n101]) (by decide)) rfl rfl (ab_ov_set rfl) rfl ?_
              refine ab_fin.s2 (i := .aload_n 0) (k := 1) (pc' := 6) (lv' := [(0, .ref 101), (1, .int ((xs 1))), (2, .int ((xs 2)))]) (st' := [.ref 101]) (by decide +kernel) rfl rfl ?_
              refine ab_fin.s2 (i := .iload_n 1) (k := 1) (pc' := 7) (lv' := [(0, .ref 101), (1, .int ((xs 1))), (2, .int ((xs 2)))]) (st' := [.int ((xs 1)), .ref 101]) (by decide +kernel) rfl rfl ?_
              refine ab_fin.call (i := .invokevirtual 1018) (k := 3) (y := 6001) (As := [.ref 101, .int ((xs 1))]) (rest := []) (M' := (mX23_isKind, [])) (by decide +kernel) (ab_cv rfl rfl (ab_ov_get (lt0 101 (by decide)) rfl) ⟨(Nat.le_of_ble_eq_true rfl), (Nat.le_of_ble_eq_true rfl)⟩ rfl) rfl (Nat.le_of_ble_eq_true rfl) ?_
              show ab_fin _ _ _ _ 0 [(0, .ref 101), (1, .int ((xs 1)))] [] _ _
              refine ab_fin.s2 (i := .iload_n 1) (k := 1) (pc' := 1) (lv' := [(0, .ref 101), (1, .int ((xs 1)))]) (st' := [.int ((xs 1))]) (by decide +kernel) rfl rfl ?_
              refine ab_fin.brF (c := (xs 1) < 0) (i := .ifCond .lt 15) (off := 15) (t := 16) (pc' := 4) (r := []) (by decide +kernel) rfl (by decide +kernel) rfl (by have l0 : (0 : Int32).toInt = 0 := rfl; have l2 : (2 : Int32).toInt = 2 := rfl; have l3 : (3 : Int32).toInt = 3 := rfl; simp only [← Int32.toInt_inj, Int32.lt_iff_toInt_lt, Int32.le_iff_toInt_le, l0, l2, l3] at q1 q2 q3 q4 q5 q26 ⊢; omega) ?_
              refine ab_fin.s2 (i := .iload_n 1) (k := 1) (pc' := 5) (lv' := [(0, .ref 101), (1, .int ((xs 1)))]) (st' := [.int ((xs 1))]) (by decide +kernel) rfl rfl ?_
              refine ab_fin.s2 (i := .aload_n 0) (k := 1) (pc' := 6) (lv' := [(0, .ref 101), (1, .int ((xs 1)))]) (st' := [.ref 101, .int ((xs 1))]) (by decide +kernel) rfl rfl ?_
              refine ab_fin.getf (ix := 13) (k := 4) (v := .int 3) (pc' := 9) (by decide +kernel) rfl (ab_ov_get (lt0 101 (by decide)) rfl) rfl rfl ?_
              refine ab_fin.brF (c := (3 : Int32) ≤ (xs 1)) (i := .if_icmp .ge 7) (off := 7) (t := 16) (pc' := 12) (r := []) (by decide +kernel) rfl (by decide +kernel) rfl (by have l0 : (0 : Int32).toInt = 0 := rfl; have l2 : (2 : Int32).toInt = 2 := rfl; have l3 : (3 : Int32).toInt = 3 := rfl; simp only [← Int32.toInt_inj, Int32.lt_iff_toInt_lt, Int32.le_iff_toInt_le, l0, l2, l3] at q1 q2 q3 q4 q5 q26 ⊢; omega) ?_
              refine ab_fin.s1i (i := .iconst 1) (k := 1) (pc' := 13) (n := 1) (by decide +kernel) rfl (by decide +kernel) rfl ?_
              refine ab_fin.s3 (i := .goto 4) (k := 3) (t := 17) (st' := [.int 1]) (by decide +kernel) (ab_goto (by decide +kernel)) ?_
              refine ab_fin.ret (i := .ireturn) (k := 1) (some (.int 1)) (by decide +kernel) rfl ?_
              refine ab_bk.back (pc' := 10) (st' := [.int 1]) rfl rfl ?_
              refine ab_fin.brF (c := (1 : Int32) = 0) (i := .ifCond .eq 11) (off := 11) (t := 21) (pc' := 13) (r := []) (by decide +kernel) rfl (by decide +kernel) rfl (by decide +kernel) ?_
              refine ab_fin.s2 (i := .aload_n 0) (k := 1) (pc' := 14) (lv' := [(0, .ref 101), (1, .int ((xs 1))), (2, .int ((xs 2)))]) (st' := [.ref 101]) (by decide +kernel) rfl rfl ?_
              refine ab_fin.s2 (i := .iload_n 2) (k := 1) (pc' := 15) (lv' := [(0, .ref 101), (1, .int ((xs 1))), (2, .int ((xs 2)))]) (st' := [.int ((xs 2)), .ref 101]) (by decide +kernel) rfl rfl ?_
              refine ab_fin.call (i := .invokevirtual 1018) (k := 3) (y := 6001) (As := [.ref 101, .int ((xs 2))]) (rest := []) (M' := (mX23_isKind, [])) (by decide +kernel) (ab_cv rfl rfl (ab_ov_get (lt0 101 (by decide)) rfl) ⟨(Nat.le_of_ble_eq_true rfl), (Nat.le_of_ble_eq_true rfl)⟩ rfl) rfl (Nat.le_of_ble_eq_true rfl) ?_
              show ab_fin _ _ _ _ 0 [(0, .ref 101), (1, .int ((xs 2)))] [] _ _
              refine ab_fin.s2 (i := .iload_n 1) (k := 1) (pc' := 1) (lv' := [(0, .ref 101), (1, .int ((xs 2)))]) (st' := [.int ((xs 2))]) (by decide +kernel) rfl rfl ?_
              refine ab_fin.brF (c := (xs 2) < 0) (i := .ifCond .lt 15) (off := 15) (t := 16) (pc' := 4) (r := []) (by decide +kernel) rfl (by decide +kernel) rfl (by have l0 : (0 : Int32).toInt = 0 := rfl; have l2 : (2 : Int32).toInt = 2 := rfl; have l3 : (3 : Int32).toInt = 3 := rfl; simp only [← Int32.toInt_inj, Int32.lt_iff_toInt_lt, Int32.le_iff_toInt_le, l0, l2, l3] at q1 q2 q3 q4 q5 q26 ⊢; omega) ?_
              refine ab_fin.s2 (i := .iload_n 1) (k := 1) (pc' := 5) (lv' := [(0, .ref 101), (1, .int ((xs 2)))]) (st' := [.int ((xs 2))]) (by decide +kernel) rfl rfl ?_
              refine ab_fin.s2 (i := .aload_n 0) (k := 1) (pc' := 6) (lv' := [(0, .ref 101), (1, .int ((xs 2)))]) (st' := [.ref 101, .int ((xs 2))]) (by decide +kernel) rfl rfl ?_
              refine ab_fin.getf (ix := 13) (k := 4) (v := .int 3) (pc' := 9) (by decide +kernel) rfl (ab_ov_get (lt0 101 (by decide)) rfl) rfl rfl ?_
              refine ab_fin.brF (c := (3 : Int32) ≤ (xs 2)) (i := .if_icmp .ge 7) (off := 7) (t := 16) (pc' := 12) (r := []) (by decide +kernel) rfl (by decide +kernel) rfl (by have l0 : (0 : Int32).toInt = 0 := rfl; have l2 : (2 : Int32).toInt = 2 := rfl; have l3 : (3 : Int32).toInt = 3 := rfl; simp only [← Int32.toInt_inj, Int32.lt_iff_toInt_lt, Int32.le_iff_toInt_le, l0, l2, l3] at q1 q2 q3 q4 q5 q26 ⊢; omega) ?_
              refine ab_fin.s1i (i := .iconst 1) (k := 1) (pc' := 13) (n := 1) (by decide +kernel) rfl (by decide +kernel) rfl ?_
              refine ab_fin.s3 (i := .goto 4) (k := 3) (t := 17) (st' := [.int 1]) (by decide +kernel) (ab_goto (by decide +kernel)) ?_
              refine ab_fin.ret (i := .ireturn) (k := 1) (some (.int 1)) (by decide +kernel) rfl ?_
              refine ab_bk.back (pc' := 18) (st' := [.int 1]) rfl rfl ?_
              refine ab_fin.brT (c := ¬ (1 : Int32) = 0) (i := .ifCond .ne 17) (off := 17) (t := 35) (r := []) (by decide +kernel) rfl (by decide +kernel) (by decide +kernel) ?_
              refine ab_fin.s2 (i := .aload_n 0) (k := 1) (pc' := 36) (lv' := [(0, .ref 101), (1, .int ((xs 1))), (2, .int ((xs 2)))]) (st' := [.ref 101]) (by decide +kernel) rfl rfl ?_
              refine ab_fin.getf (ix := 490) (k := 36) (v := .ref 1981) (pc' := 39) (by decide +kernel) rfl (ab_ov_get (lt0 101 (by decide)) rfl) rfl rfl ?_
              refine ab_fin.s2 (i := .iload_n 1) (k := 1) (pc' := 40) (lv' := [(0, .ref 101), (1, .int ((xs 1))), (2, .int ((xs 2)))]) (st' := [.int ((xs 1)), .ref 1981]) (by decide +kernel) rfl rfl ?_
              have q28 : (xs 1) = 2 := (by have l0 : (0 : Int32).toInt = 0 := rfl; have l2 : (2 : Int32).toInt = 2 := rfl; have l3 : (3 : Int32).toInt = 3 := rfl; simp only [← Int32.toInt_inj, Int32.lt_iff_toInt_lt, Int32.le_iff_toInt_le, l0, l2, l3] at q1 q2 q3 q4 q5 q26 ⊢; omega)
              rw [q28]
              refine ab_fin.aald (v := .ref 1984) (pc' := 41) (by decide +kernel) (ab_ov_no f_1981 rfl) (by decide) rfl (ab_bd (n := 24) (by rw [p1_n1981]) (by decide +kernel)) rfl rfl ?_
              refine ab_fin.s2 (i := .iload_n 2) (k := 1) (pc' := 42) (lv' := [(0, .ref 101), (1, .int 2), (2, .int ((xs 2)))]) (st' := [.int ((xs 2)), .ref 1984]) (by decide +kernel) rfl rfl ?_
              have q29 : (xs 2) = 0 := (by have l0 : (0 : Int32).toInt = 0 := rfl; have l2 : (2 : Int32).toInt = 2 := rfl; have l3 : (3 : Int32).toInt = 3 := rfl; simp only [← Int32.toInt_inj, Int32.lt_iff_toInt_lt, Int32.le_iff_toInt_le, l0, l2, l3] at q1 q2 q3 q4 q5 q26 q28 ⊢; omega)
              rw [q29]
              refine ab_fin.bald (t := 3) (v := 1) (pc' := 43) (by decide +kernel) (by decide) (ab_ov_no f_1984 rfl) (ab_bd (n := 24) (by rw [p1_n1984]) (by decide +kernel)) rfl rfl ?_
              refine ab_fin.ret (i := .ireturn) (k := 1) (some (.int 1)) (by decide +kernel) rfl ?_
              refine ab_bk.back (pc' := 543) (st' := [.int 1]) rfl rfl ?_
              refine ab_fin.s2 (i := .istore 6) (k := 2) (pc' := 545) (lv' := [(6, .int 1), (5, .int 0), (4, .int 0), (3, .ref 3466), (2, .ref 101), (1, .ref 0), (0, .retAddr 9)]) (st' := []) (by decide +kernel) rfl rfl ?_
              refine ab_fin.s2 (i := .aload_n 2) (k := 1) (pc' := 546) (lv' := [(6, .int 1), (5, .int 0), (4, .int 0), (3, .ref 3466), (2, .ref 101), (1, .ref 0), (0, .retAddr 9)]) (st' := [.ref 101]) (by decide +kernel) rfl rfl ?_
              refine ab_fin.call (i := .invokevirtual 75) (k := 3) (y := 5992) (As := [.ref 101]) (rest := []) (M' := (mX23_thrown, [])) (by decide +kernel) (ab_cv rfl rfl (ab_ov_get (lt0 101 (by decide)) rfl) ⟨(Nat.le_of_ble_eq_true rfl), (Nat.le_of_ble_eq_true rfl)⟩ rfl) rfl (Nat.le_of_ble_eq_true rfl) ?_
              show ab_fin _ _ _ _ 0 [(0, .ref 101)] [] _ _
              refine ab_fin.s2 (i := .aload_n 0) (k := 1) (pc' := 1) (lv' := [(0, .ref 101)]) (st' := [.ref 101]) (by decide +kernel) rfl rfl ?_
              refine ab_fin.getf (ix := 1000) (k := 110) (v := .int 0) (pc' := 4) (by decide +kernel) rfl (ab_ov_get (lt0 101 (by decide)) rfl) rfl rfl ?_
              refine ab_fin.ret (i := .ireturn) (k := 1) (some (.int 0)) (by decide +kernel) rfl ?_
              refine ab_bk.back (pc' := 549) (st' := [.int 0]) rfl rfl ?_
              refine ab_fin.s2 (i := .iload 5) (k := 2) (pc' := 551) (lv' := [(6, .int 1), (5, .int 0), (4, .int 0), (3, .ref 3466), (2, .ref 101), (1, .ref 0), (0, .retAddr 9)]) (st' := [.int 0, .int 0]) (by decide +kernel) rfl rfl ?_
              refine ab_fin.brT (c := (0 : Int32) = (0 : Int32)) (i := .if_icmp .eq 5) (off := 5) (t := 556) (r := []) (by decide +kernel) rfl (by decide +kernel) (by decide +kernel) ?_
              refine ab_fin.s2 (i := .iload 5) (k := 2) (pc' := 558) (lv' := [(6, .int 1), (5, .int 0), (4, .int 0), (3, .ref 3466), (2, .ref 101), (1, .ref 0), (0, .retAddr 9)]) (st' := [.int 0]) (by decide +kernel) rfl rfl ?_
              refine ab_fin.brF (c := ¬ (0 : Int32) = 0) (i := .ifCond .ne 22) (off := 22) (t := 580) (pc' := 561) (r := []) (by decide +kernel) rfl (by decide +kernel) rfl (by decide +kernel) ?_
              refine ab_fin.s2 (i := .aload_n 3) (k := 1) (pc' := 562) (lv' := [(6, .int 1), (5, .int 0), (4, .int 0), (3, .ref 3466), (2, .ref 101), (1, .ref 0), (0, .retAddr 9)]) (st' := [.ref 3466]) (by decide +kernel) rfl rfl ?_
              refine ab_fin.s1i (i := .iconst 0) (k := 1) (pc' := 563) (n := 0) (by decide +kernel) rfl (by decide +kernel) rfl ?_
              refine ab_fin.lald (v := 1) (pc' := 564) (by decide +kernel) (ab_ov_get (lt0 3466 (by decide)) rfl) (ab_bd (n := 1) (by rw [List.length_set, List.length_replicate]) (by decide +kernel)) rfl rfl ?_
              refine ab_fin.s2 (i := .iload 6) (k := 2) (pc' := 566) (lv' := [(6, .int 1), (5, .int 0), (4, .int 0), (3, .ref 3466), (2, .ref 101), (1, .ref 0), (0, .retAddr 9)]) (st' := [.int 1, .long 1]) (by decide +kernel) rfl rfl ?_
              refine ab_fin.brF (c := (1 : Int32) = 0) (i := .ifCond .eq 7) (off := 7) (t := 573) (pc' := 569) (r := [.long 1]) (by decide +kernel) rfl (by decide +kernel) rfl (by decide +kernel) ?_
              refine ab_fin.s1l (i := .lconst 1) (k := 1) (pc' := 570) (n := 1) (by decide +kernel) rfl (by decide +kernel) rfl ?_
              refine ab_fin.s3 (i := .goto 4) (k := 3) (t := 574) (st' := [.long 1, .long 1]) (by decide +kernel) (ab_goto (by decide +kernel)) ?_
              refine ab_fin.s1i (i := .lcmp) (k := 1) (pc' := 575) (n := 0) (by decide +kernel) rfl (by decide +kernel) rfl ?_
              refine ab_fin.brT (c := (0 : Int32) = 0) (i := .ifCond .eq 5) (off := 5) (t := 580) (r := []) (by decide +kernel) rfl (by decide +kernel) (by decide +kernel) ?_
              refine ab_fin.s3 (i := .goto 510) (k := 3) (t := 1090) (st' := []) (by decide +kernel) (ab_goto (by decide +kernel)) ?_
              refine ab_fin.inc (i := .iinc 4 6) (k := 3) (pc' := 1093) (j := 4) (n := 6) (lv' := [(6, .int 1), (5, .int 0), (3, .ref 3466), (2, .ref 101), (1, .ref 0), (0, .retAddr 9)]) (by decide +kernel) rfl (by decide +kernel) rfl ?_
              refine ab_fin.s3 (i := .goto (-1070)) (k := 3) (t := 23) (st' := []) (by decide +kernel) (ab_goto (by decide +kernel)) ?_
              refine ab_fin.s2 (i := .iload 4) (k := 2) (pc' := 25) (lv' := [(4, .int 6), (6, .int 1), (5, .int 0), (3, .ref 3466), (2, .ref 101), (1, .ref 0), (0, .retAddr 9)]) (st' := [.int 6]) (by decide +kernel) rfl rfl ?_
              refine ab_fin.s2 (i := .aload_n 0) (k := 1) (pc' := 26) (lv' := [(4, .int 6), (6, .int 1), (5, .int 0), (3, .ref 3466), (2, .ref 101), (1, .ref 0), (0, .retAddr 9)]) (st' := [.retAddr 9, .int 6]) (by decide +kernel) rfl rfl ?_
              refine ab_fin.s8 (i := .arraylength) (k := 1) (pc' := 27) (st' := [.int 6, .int 6]) (by decide +kernel) rfl rfl rfl rfl ?_
              refine ab_fin.s1i (i := .bipush 6) (k := 2) (pc' := 29) (n := 6) (by decide +kernel) rfl (by decide +kernel) rfl ?_
              refine ab_fin.s1i (i := .isub) (k := 1) (pc' := 30) (n := 0) (by decide +kernel) rfl (by decide +kernel) rfl ?_
              refine ab_fin.brT (c := (0 : Int32) < (6 : Int32)) (i := .if_icmp .gt 1066) (off := 1066) (t := 1096) (r := []) (by decide +kernel) rfl (by decide +kernel) (by decide +kernel) ?_
              refine ab_fin.s1i (i := .iconst 1) (k := 1) (pc' := 1097) (n := 1) (by decide +kernel) rfl (by decide +kernel) rfl ?_
              refine ab_fin.ret (i := .ireturn) (k := 1) (some (.int 1)) (by decide +kernel) rfl ?_
              refine ⟨rfl, ?_, ?_⟩
              · rw [ab_ov_len, hl]; decide
              · refine Nat.le_trans (ab_ov_z _ _) ?_
                simp only [List.map, List.sum_cons, List.sum_nil, ab_z1, ab_len, List.length_set, List.length_replicate, List.length_cons, List.length_nil, p1_n101]
                omega
            · rw [q26]
              try rw [show (((5 : Int32) >>> (1 &&& 31)) &&& (1 : Int32)) = (0 : Int32) by decide +kernel]
              refine ab_fin.brT (c := (0 : Int32) = 0) (i := .ifCond .eq 7) (off := 7) (t := 17) (r := []) (by decide +kernel) rfl (by decide +kernel) (by decide +kernel) ?_
              refine ab_fin.s1i (i := .iconst 0) (k := 1) (pc' := 18) (n := 0) (by decide +kernel) rfl (by decide +kernel) rfl ?_
              refine ab_fin.ret (i := .ireturn) (k := 1) (some (.int 0)) (by decide +kernel) rfl ?_
              refine ab_bk.back (pc' := 42) (st' := [.int 0]) rfl rfl ?_
              refine ab_fin.ret (i := .ireturn) (k := 1) (some (.int 0)) (by decide +kernel) rfl ?_
              refine ab_bk.back (pc' := 8) (st' := [.int 0, .int 0, .ref 3466]) rfl rfl ?_
              refine ab_fin.brT (c := (0 : Int32) = 0) (i := .ifCond .eq 7) (off := 7) (t := 15) (r := [.int 0, .ref 3466]) (by decide +kernel) rfl (by decide +kernel) (by decide +kernel) ?_
              refine ab_fin.s1l (i := .lconst 0) (k := 1) (pc' := 16) (n := 0) (by decide +kernel) rfl (by decide +kernel) rfl ?_
              refine ab_fin.last (h1 := ab_ov h [(3466, .inr (.inl (1, .inr (.inl ((List.replicate 1 0).set 0 (0))))))]) (pc' := 17) (by decide +kernel) (ab_ov_no f_3466 rfl) (ab_bd (n := 1) (by rw [List.length_replicate]) (by decide +kernel)) (ab_ov_set rfl) rfl ?_
              refine ab_fin.s3 (i := .goto 7) (k := 3) (t := 24) (st' := []) (by decide +kernel) (ab_goto (by decide +kernel)) ?_
              refine ab_fin.s1i (i := .iconst 0) (k := 1) (pc' := 25) (n := 0) (by decide +kernel) rfl (by decide +kernel) rfl ?_
              refine ab_fin.ret (i := .ireturn) (k := 1) (some (.int 0)) (by decide +kernel) rfl ?_
              refine ab_bk.back (pc' := 525) (st' := [.int 0]) rfl rfl ?_
              refine ab_fin.s2 (i := .istore 5) (k := 2) (pc' := 527) (lv' := [(5, .int 0), (4, .int 0), (3, .ref 3466), (2, .ref 101), (1, .ref 0), (0, .retAddr 9)]) (st' := []) (by decide +kernel) rfl rfl ?_
              refine ab_fin.s2 (i := .aload_n 2) (k := 1) (pc' := 528) (lv' := [(5, .int 0), (4, .int 0), (3, .ref 3466), (2, .ref 101), (1, .ref 0), (0, .retAddr 9)]) (st' := [.ref 101]) (by decide +kernel) rfl rfl ?_
              refine ab_fin.s2 (i := .aload_n 0) (k := 1) (pc' := 529) (lv' := [(5, .int 0), (4, .int 0), (3, .ref 3466), (2, .ref 101), (1, .ref 0), (0, .retAddr 9)]) (st' := [.retAddr 9, .ref 101]) (by decide +kernel) rfl rfl ?_
              refine ab_fin.s2 (i := .iload 4) (k := 2) (pc' := 531) (lv' := [(5, .int 0), (4, .int 0), (3, .ref 3466), (2, .ref 101), (1, .ref 0), (0, .retAddr 9)]) (st' := [.int 0, .retAddr 9, .ref 101]) (by decide +kernel) rfl rfl ?_
              refine ab_fin.s1i (i := .iconst 1) (k := 1) (pc' := 532) (n := 1) (by decide +kernel) rfl (by decide +kernel) rfl ?_
              refine ab_fin.s1i (i := .iadd) (k := 1) (pc' := 533) (n := 1) (by decide +kernel) rfl (by decide +kernel) rfl ?_
              refine ab_fin.s8 (i := .iaload) (k := 1) (pc' := 534) (st' := [.int ((xs 1)), .ref 101]) (by decide +kernel) (ab_x0 rfl (by decide +kernel) rfl) rfl rfl rfl ?_
              refine ab_fin.s2 (i := .aload_n 0) (k := 1) (pc' := 535) (lv' := [(5, .int 0), (4, .int 0), (3, .ref 3466), (2, .ref 101), (1, .ref 0), (0, .retAddr 9)]) (st' := [.retAddr 9, .int ((xs 1)), .ref 101]) (by decide +kernel) rfl rfl ?_
              refine ab_fin.s2 (i := .iload 4) (k := 2) (pc' := 537) (lv' := [(5, .int 0), (4, .int 0), (3, .ref 3466), (2, .ref 101), (1, .ref 0), (0, .retAddr 9)]) (st' := [.int 0, .retAddr 9, .int ((xs 1)), .ref 101]) (by decide +kernel) rfl rfl ?_
              refine ab_fin.s1i (i := .iconst 2) (k := 1) (pc' := 538) (n := 2) (by decide +kernel) rfl (by decide +kernel) rfl ?_
              refine ab_fin.s1i (i := .iadd) (k := 1) (pc' := 539) (n := 2) (by decide +kernel) rfl (by decide +kernel) rfl ?_
              refine ab_fin.s8 (i := .iaload) (k := 1) (pc' := 540) (st' := [.int ((xs 2)), .int ((xs 1)), .ref 101]) (by decide +kernel) (ab_x0 rfl (by decide +kernel) rfl) rfl rfl rfl ?_
              refine ab_fin.call (i := .invokevirtual 106) (k := 3) (y := 6002) (As := [.ref 101, .int ((xs 1)), .int ((xs 2))]) (rest := []) (M' := (mX23_below, [])) (by decide +kernel) (ab_cv rfl rfl (ab_ov_no f_101 rfl) ⟨(Nat.le_of_ble_eq_true rfl), (Nat.le_of_ble_eq_true rfl)⟩ rfl) rfl (Nat.le_of_ble_eq_true rfl) ?_
              show ab_fin _ _ _ _ 0 [(0, .ref 101), (1, .int ((xs 1))), (2, .int ((xs 2)))] [] _ _
              refine ab_fin.s2 (i := .aload_n 0) (k := 1) (pc' := 1) (lv' := [(0, .ref 101), (1, .int ((xs 1))), (2, .int ((xs 2)))]) (st' := [.ref 101]) (by decide +kernel) rfl rfl ?_
              refine ab_fin.s1i (i := .iconst 0) (k := 1) (pc' := 2) (n := 0) (by decide +kernel) rfl (by decide +kernel) rfl ?_
              refine ab_fin.putf (ix := 1000) (h1 := ab_ov h [(101, .inr (.inr (24, (p1_o101).set 110 (.int 0)))), (3466, .inr (.inl (1, .inr (.inl ((List.replicate 1 0).set 0 (0))))))]) (pc' := 5) (by decide +kernel) rfl (ab_ov_no f_101 rfl) (ab_klt (n := 115) (by rw [p1_n101]) (by decide)) rfl rfl (ab_ov_set rfl) rfl ?_
              refine ab_fin.s2 (i := .aload_n 0) (k := 1) (pc' := 6) (lv' := [(0, .ref 101), (1, .int ((xs 1))), (2, .int ((xs 2)))]) (st' := [.ref 101]) (by decide +kernel) rfl rfl ?_
              refine ab_fin.s2 (i := .iload_n 1) (k := 1) (pc' := 7) (lv' := [(0, .ref 101), (1, .int ((xs 1))), (2, .int ((xs 2)))]) (st' := [.int ((xs 1)), .ref 101]) (by decide +kernel) rfl rfl ?_
              refine ab_fin.call (i := .invokevirtual 1018) (k := 3) (y := 6001) (As := [.ref 101, .int ((xs 1))]) (rest := []) (M' := (mX23_isKind, [])) (by decide +kernel) (ab_cv rfl rfl (ab_ov_get (lt0 101 (by decide)) rfl) ⟨(Nat.le_of_ble_eq_true rfl), (Nat.le_of_ble_eq_true rfl)⟩ rfl) rfl (Nat.le_of_ble_eq_true rfl) ?_
              show ab_fin _ _ _ _ 0 [(0, .ref 101), (1, .int ((xs 1)))] [] _ _
              refine ab_fin.s2 (i := .iload_n 1) (k := 1) (pc' := 1) (lv' := [(0, .ref 101), (1, .int ((xs 1)))]) (st' := [.int ((xs 1))]) (by decide +kernel) rfl rfl ?_
              refine ab_fin.brF (c := (xs 1) < 0) (i := .ifCond .lt 15) (off := 15) (t := 16) (pc' := 4) (r := []) (by decide +kernel) rfl (by decide +kernel) rfl (by have l0 : (0 : Int32).toInt = 0 := rfl; have l1 : (1 : Int32).toInt = 1 := rfl; have l2 : (2 : Int32).toInt = 2 := rfl; have l3 : (3 : Int32).toInt = 3 := rfl; simp only [← Int32.toInt_inj, Int32.lt_iff_toInt_lt, Int32.le_iff_toInt_le, l0, l1, l2, l3] at q1 q2 q3 q4 q5 q26 ⊢; omega) ?_
              refine ab_fin.s2 (i := .iload_n 1) (k := 1) (pc' := 5) (lv' := [(0, .ref 101), (1, .int ((xs 1)))]) (st' := [.int ((xs 1))]) (by decide +kernel) rfl rfl ?_
              refine ab_fin.s2 (i := .aload_n 0) (k := 1) (pc' := 6) (lv' := [(0, .ref 101), (1, .int ((xs 1)))]) (st' := [.ref 101, .int ((xs 1))]) (by decide +kernel) rfl rfl ?_
              refine ab_fin.getf (ix := 13) (k := 4) (v := .int 3) (pc' := 9) (by decide +kernel) rfl (ab_ov_get (lt0 101 (by decide)) rfl) rfl rfl ?_
              refine ab_fin.brF (c := (3 : Int32) ≤ (xs 1)) (i := .if_icmp .ge 7) (off := 7) (t := 16) (pc' := 12) (r := []) (by decide +kernel) rfl (by decide +kernel) rfl (by have l0 : (0 : Int32).toInt = 0 := rfl; have l1 : (1 : Int32).toInt = 1 := rfl; have l2 : (2 : Int32).toInt = 2 := rfl; have l3 : (3 : Int32).toInt = 3 := rfl; simp only [← Int32.toInt_inj, Int32.lt_iff_toInt_lt, Int32.le_iff_toInt_le, l0, l1, l2, l3] at q1 q2 q3 q4 q5 q26 ⊢; omega) ?_
              refine ab_fin.s1i (i := .iconst 1) (k := 1) (pc' := 13) (n := 1) (by decide +kernel) rfl (by decide +kernel) rfl ?_
              refine ab_fin.s3 (i := .goto 4) (k := 3) (t := 17) (st' := [.int 1]) (by decide +kernel) (ab_goto (by decide +kernel)) ?_
              refine ab_fin.ret (i := .ireturn) (k := 1) (some (.int 1)) (by decide +kernel) rfl ?_
              refine ab_bk.back (pc' := 10) (st' := [.int 1]) rfl rfl ?_
              refine ab_fin.brF (c := (1 : Int32) = 0) (i := .ifCond .eq 11) (off := 11) (t := 21) (pc' := 13) (r := []) (by decide +kernel) rfl (by decide +kernel) rfl (by decide +kernel) ?_
              refine ab_fin.s2 (i := .aload_n 0) (k := 1) (pc' := 14) (lv' := [(0, .ref 101), (1, .int ((xs 1))), (2, .int ((xs 2)))]) (st' := [.ref 101]) (by decide +kernel) rfl rfl ?_
              refine ab_fin.s2 (i := .iload_n 2) (k := 1) (pc' := 15) (lv' := [(0, .ref 101), (1, .int ((xs 1))), (2, .int ((xs 2)))]) (st' := [.int ((xs 2)), .ref 101]) (by decide +kernel) rfl rfl ?_
              refine ab_fin.call (i := .invokevirtual 1018) (k := 3) (y := 6001) (As := [.ref 101, .int ((xs 2))]) (rest := []) (M' := (mX23_isKind, [])) (by decide +kernel) (ab_cv rfl rfl (ab_ov_get (lt0 101 (by decide)) rfl) ⟨(Nat.le_of_ble_eq_true rfl), (Nat.le_of_ble_eq_true rfl)⟩ rfl) rfl (Nat.le_of_ble_eq_true rfl) ?_
              show ab_fin _ _ _ _ 0 [(0, .ref 101), (1, .int ((xs 2)))] [] _ _
              refine ab_fin.s2 (i := .iload_n 1) (k := 1) (pc' := 1) (lv' := [(0, .ref 101), (1, .int ((xs 2)))]) (st' := [.int ((xs 2))]) (by decide +kernel) rfl rfl ?_
              refine ab_fin.brF (c := (xs 2) < 0) (i := .ifCond .lt 15) (off := 15) (t := 16) (pc' := 4) (r := []) (by decide +kernel) rfl (by decide +kernel) rfl (by have l0 : (0 : Int32).toInt = 0 := rfl; have l1 : (1 : Int32).toInt = 1 := rfl; have l2 : (2 : Int32).toInt = 2 := rfl; have l3 : (3 : Int32).toInt = 3 := rfl; simp only [← Int32.toInt_inj, Int32.lt_iff_toInt_lt, Int32.le_iff_toInt_le, l0, l1, l2, l3] at q1 q2 q3 q4 q5 q26 ⊢; omega) ?_
              refine ab_fin.s2 (i := .iload_n 1) (k := 1) (pc' := 5) (lv' := [(0, .ref 101), (1, .int ((xs 2)))]) (st' := [.int ((xs 2))]) (by decide +kernel) rfl rfl ?_
              refine ab_fin.s2 (i := .aload_n 0) (k := 1) (pc' := 6) (lv' := [(0, .ref 101), (1, .int ((xs 2)))]) (st' := [.ref 101, .int ((xs 2))]) (by decide +kernel) rfl rfl ?_
              refine ab_fin.getf (ix := 13) (k := 4) (v := .int 3) (pc' := 9) (by decide +kernel) rfl (ab_ov_get (lt0 101 (by decide)) rfl) rfl rfl ?_
              refine ab_fin.brF (c := (3 : Int32) ≤ (xs 2)) (i := .if_icmp .ge 7) (off := 7) (t := 16) (pc' := 12) (r := []) (by decide +kernel) rfl (by decide +kernel) rfl (by have l0 : (0 : Int32).toInt = 0 := rfl; have l1 : (1 : Int32).toInt = 1 := rfl; have l2 : (2 : Int32).toInt = 2 := rfl; have l3 : (3 : Int32).toInt = 3 := rfl; simp only [← Int32.toInt_inj, Int32.lt_iff_toInt_lt, Int32.le_iff_toInt_le, l0, l1, l2, l3] at q1 q2 q3 q4 q5 q26 ⊢; omega) ?_
              refine ab_fin.s1i (i := .iconst 1) (k := 1) (pc' := 13) (n := 1) (by decide +kernel) rfl (by decide +kernel) rfl ?_
              refine ab_fin.s3 (i := .goto 4) (k := 3) (t := 17) (st' := [.int 1]) (by decide +kernel) (ab_goto (by decide +kernel)) ?_
              refine ab_fin.ret (i := .ireturn) (k := 1) (some (.int 1)) (by decide +kernel) rfl ?_
              refine ab_bk.back (pc' := 18) (st' := [.int 1]) rfl rfl ?_
              refine ab_fin.brT (c := ¬ (1 : Int32) = 0) (i := .ifCond .ne 17) (off := 17) (t := 35) (r := []) (by decide +kernel) rfl (by decide +kernel) (by decide +kernel) ?_
              refine ab_fin.s2 (i := .aload_n 0) (k := 1) (pc' := 36) (lv' := [(0, .ref 101), (1, .int ((xs 1))), (2, .int ((xs 2)))]) (st' := [.ref 101]) (by decide +kernel) rfl rfl ?_
              refine ab_fin.getf (ix := 490) (k := 36) (v := .ref 1981) (pc' := 39) (by decide +kernel) rfl (ab_ov_get (lt0 101 (by decide)) rfl) rfl rfl ?_
              refine ab_fin.s2 (i := .iload_n 1) (k := 1) (pc' := 40) (lv' := [(0, .ref 101), (1, .int ((xs 1))), (2, .int ((xs 2)))]) (st' := [.int ((xs 1)), .ref 1981]) (by decide +kernel) rfl rfl ?_
              have q31 : (xs 1) = 2 := (by have l0 : (0 : Int32).toInt = 0 := rfl; have l1 : (1 : Int32).toInt = 1 := rfl; have l2 : (2 : Int32).toInt = 2 := rfl; have l3 : (3 : Int32).toInt = 3 := rfl; simp only [← Int32.toInt_inj, Int32.lt_iff_toInt_lt, Int32.le_iff_toInt_le, l0, l1, l2, l3] at q1 q2 q3 q4 q5 q26 ⊢; omega)
              rw [q31]
              refine ab_fin.aald (v := .ref 1984) (pc' := 41) (by decide +kernel) (ab_ov_no f_1981 rfl) (by decide) rfl (ab_bd (n := 24) (by rw [p1_n1981]) (by decide +kernel)) rfl rfl ?_
              refine ab_fin.s2 (i := .iload_n 2) (k := 1) (pc' := 42) (lv' := [(0, .ref 101), (1, .int 2), (2, .int ((xs 2)))]) (st' := [.int ((xs 2)), .ref 1984]) (by decide +kernel) rfl rfl ?_
              have q32 : (xs 2) = 1 := (by have l0 : (0 : Int32).toInt = 0 := rfl; have l1 : (1 : Int32).toInt = 1 := rfl; have l2 : (2 : Int32).toInt = 2 := rfl; have l3 : (3 : Int32).toInt = 3 := rfl; simp only [← Int32.toInt_inj, Int32.lt_iff_toInt_lt, Int32.le_iff_toInt_le, l0, l1, l2, l3] at q1 q2 q3 q4 q5 q26 q31 ⊢; omega)
              rw [q32]
              refine ab_fin.bald (t := 3) (v := 0) (pc' := 43) (by decide +kernel) (by decide) (ab_ov_no f_1984 rfl) (ab_bd (n := 24) (by rw [p1_n1984]) (by decide +kernel)) rfl rfl ?_
              refine ab_fin.ret (i := .ireturn) (k := 1) (some (.int 0)) (by decide +kernel) rfl ?_
              refine ab_bk.back (pc' := 543) (st' := [.int 0]) rfl rfl ?_
              refine ab_fin.s2 (i := .istore 6) (k := 2) (pc' := 545) (lv' := [(6, .int 0), (5, .int 0), (4, .int 0), (3, .ref 3466), (2, .ref 101), (1, .ref 0), (0, .retAddr 9)]) (st' := []) (by decide +kernel) rfl rfl ?_
              refine ab_fin.s2 (i := .aload_n 2) (k := 1) (pc' := 546) (lv' := [(6, .int 0), (5, .int 0), (4, .int 0), (3, .ref 3466), (2, .ref 101), (1, .ref 0), (0, .retAddr 9)]) (st' := [.ref 101]) (by decide +kernel) rfl rfl ?_
              refine ab_fin.call (i := .invokevirtual 75) (k := 3) (y := 5992) (As := [.ref 101]) (rest := []) (M' := (mX23_thrown, [])) (by decide +kernel) (ab_cv rfl rfl (ab_ov_get (lt0 101 (by decide)) rfl) ⟨(Nat.le_of_ble_eq_true rfl), (Nat.le_of_ble_eq_true rfl)⟩ rfl) rfl (Nat.le_of_ble_eq_true rfl) ?_
              show ab_fin _ _ _ _ 0 [(0, .ref 101)] [] _ _
              refine ab_fin.s2 (i := .aload_n 0) (k := 1) (pc' := 1) (lv' := [(0, .ref 101)]) (st' := [.ref 101]) (by decide +kernel) rfl rfl ?_
              refine ab_fin.getf (ix := 1000) (k := 110) (v := .int 0) (pc' := 4) (by decide +kernel) rfl (ab_ov_get (lt0 101 (by decide)) rfl) rfl rfl ?_
              refine ab_fin.ret (i := .ireturn) (k := 1) (some (.int 0)) (by decide +kernel) rfl ?_
              refine ab_bk.back (pc' := 549) (st' := [.int 0]) rfl rfl ?_
              refine ab_fin.s2 (i := .iload 5) (k := 2) (pc' := 551) (lv' := [(6, .int 0), (5, .int 0), (4, .int 0), (3, .ref 3466), (2, .ref 101), (1, .ref 0), (0, .retAddr 9)]) (st' := [.int 0, .int 0]) (by decide +kernel) rfl rfl ?_
              refine ab_fin.brT (c := (0 : Int32) = (0 : Int32)) (i := .if_icmp .eq 5) (off := 5) (t := 556) (r := []) (by decide +kernel) rfl (by decide +kernel) (by decide +kernel) ?_
              refine ab_fin.s2 (i := .iload 5) (k := 2) (pc' := 558) (lv' := [(6, .int 0), (5, .int 0), (4, .int 0), (3, .ref 3466), (2, .ref 101), (1, .ref 0), (0, .retAddr 9)]) (st' := [.int 0]) (by decide +kernel) rfl rfl ?_
              refine ab_fin.brF (c := ¬ (0 : Int32) = 0) (i := .ifCond .ne 22) (off := 22) (t := 580) (pc' := 561) (r := []) (by decide +kernel) rfl (by decide +kernel) rfl (by decide +kernel) ?_
              refine ab_fin.s2 (i := .aload_n 3) (k := 1) (pc' := 562) (lv' := [(6, .int 0), (5, .int 0), (4, .int 0), (3, .ref 3466), (2, .ref 101), (1, .ref 0), (0, .retAddr 9)]) (st' := [.ref 3466]) (by decide +kernel) rfl rfl ?_
              refine ab_fin.s1i (i := .iconst 0) (k := 1) (pc' := 563) (n := 0) (by decide +kernel) rfl (by decide +kernel) rfl ?_
              refine ab_fin.lald (v := 0) (pc' := 564) (by decide +kernel) (ab_ov_get (lt0 3466 (by decide)) rfl) (ab_bd (n := 1) (by rw [List.length_set, List.length_replicate]) (by decide +kernel)) rfl rfl ?_
              refine ab_fin.s2 (i := .iload 6) (k := 2) (pc' := 566) (lv' := [(6, .int 0), (5, .int 0), (4, .int 0), (3, .ref 3466), (2, .ref 101), (1, .ref 0), (0, .retAddr 9)]) (st' := [.int 0, .long 0]) (by decide +kernel) rfl rfl ?_
              refine ab_fin.brT (c := (0 : Int32) = 0) (i := .ifCond .eq 7) (off := 7) (t := 573) (r := [.long 0]) (by decide +kernel) rfl (by decide +kernel) (by decide +kernel) ?_
              refine ab_fin.s1l (i := .lconst 0) (k := 1) (pc' := 574) (n := 0) (by decide +kernel) rfl (by decide +kernel) rfl ?_
              refine ab_fin.s1i (i := .lcmp) (k := 1) (pc' := 575) (n := 0) (by decide +kernel) rfl (by decide +kernel) rfl ?_
              refine ab_fin.brT (c := (0 : Int32) = 0) (i := .ifCond .eq 5) (off := 5) (t := 580) (r := []) (by decide +kernel) rfl (by decide +kernel) (by decide +kernel) ?_
              refine ab_fin.s3 (i := .goto 510) (k := 3) (t := 1090) (st' := []) (by decide +kernel) (ab_goto (by decide +kernel)) ?_
              refine ab_fin.inc (i := .iinc 4 6) (k := 3) (pc' := 1093) (j := 4) (n := 6) (lv' := [(6, .int 0), (5, .int 0), (3, .ref 3466), (2, .ref 101), (1, .ref 0), (0, .retAddr 9)]) (by decide +kernel) rfl (by decide +kernel) rfl ?_
              refine ab_fin.s3 (i := .goto (-1070)) (k := 3) (t := 23) (st' := []) (by decide +kernel) (ab_goto (by decide +kernel)) ?_
              refine ab_fin.s2 (i := .iload 4) (k := 2) (pc' := 25) (lv' := [(4, .int 6), (6, .int 0), (5, .int 0), (3, .ref 3466), (2, .ref 101), (1, .ref 0), (0, .retAddr 9)]) (st' := [.int 6]) (by decide +kernel) rfl rfl ?_
              refine ab_fin.s2 (i := .aload_n 0) (k := 1) (pc' := 26) (lv' := [(4, .int 6), (6, .int 0), (5, .int 0), (3, .ref 3466), (2, .ref 101), (1, .ref 0), (0, .retAddr 9)]) (st' := [.retAddr 9, .int 6]) (by decide +kernel) rfl rfl ?_
              refine ab_fin.s8 (i := .arraylength) (k := 1) (pc' := 27) (st' := [.int 6, .int 6]) (by decide +kernel) rfl rfl rfl rfl ?_
              refine ab_fin.s1i (i := .bipush 6) (k := 2) (pc' := 29) (n := 6) (by decide +kernel) rfl (by decide +kernel) rfl ?_
              refine ab_fin.s1i (i := .isub) (k := 1) (pc' := 30) (n := 0) (by decide +kernel) rfl (by decide +kernel) rfl ?_
              refine ab_fin.brT (c := (0 : Int32) < (6 : Int32)) (i := .if_icmp .gt 1066) (off := 1066) (t := 1096) (r := []) (by decide +kernel) rfl (by decide +kernel) (by decide +kernel) ?_
              refine ab_fin.s1i (i := .iconst 1) (k := 1) (pc' := 1097) (n := 1) (by decide +kernel) rfl (by decide +kernel) rfl ?_
              refine ab_fin.ret (i := .ireturn) (k := 1) (some (.int 1)) (by decide +kernel) rfl ?_
              refine ⟨rfl, ?_, ?_⟩
              · rw [ab_ov_len, hl]; decide
              · refine Nat.le_trans (ab_ov_z _ _) ?_
                simp only [List.map, List.sum_cons, List.sum_nil, ab_z1, ab_len, List.length_set, List.length_replicate, List.length_cons, List.length_nil, p1_n101]
                omega
            · rw [q26]
              try rw [show (((5 : Int32) >>> (2 &&& 31)) &&& (1 : Int32)) = (1 : Int32) by decide +kernel]
              refine ab_fin.brF (c := (1 : Int32) = 0) (i := .ifCond .eq 7) (off := 7) (t := 17) (pc' := 13) (r := []) (by decide +kernel) rfl (by decide +kernel) rfl (by decide +kernel) ?_
              refine ab_fin.s1i (i := .iconst 1) (k := 1) (pc' := 14) (n := 1) (by decide +kernel) rfl (by decide +kernel) rfl ?_
              refine ab_fin.s3 (i := .goto 4) (k := 3) (t := 18) (st' := [.int 1]) (by decide +kernel) (ab_goto (by decide +kernel)) ?_
              refine ab_fin.ret (i := .ireturn) (k := 1) (some (.int 1)) (by decide +kernel) rfl ?_
              refine ab_bk.back (pc' := 42) (st' := [.int 1]) rfl rfl ?_
              refine ab_fin.ret (i := .ireturn) (k := 1) (some (.int 1)) (by decide +kernel) rfl ?_
              refine ab_bk.back (pc' := 8) (st' := [.int 1, .int 0, .ref 3466]) rfl rfl ?_
              refine ab_fin.brF (c := (1 : Int32) = 0) (i := .ifCond .eq 7) (off := 7) (t := 15) (pc' := 11) (r := [.int 0, .ref 3466]) (by decide +kernel) rfl (by decide +kernel) rfl (by decide +kernel) ?_
              refine ab_fin.s1l (i := .lconst 1) (k := 1) (pc' := 12) (n := 1) (by decide +kernel) rfl (by decide +kernel) rfl ?_
              refine ab_fin.s3 (i := .goto 4) (k := 3) (t := 16) (st' := [.long 1, .int 0, .ref 3466]) (by decide +kernel) (ab_goto (by decide +kernel)) ?_
              refine ab_fin.last (h1 := ab_ov h [(3466, .inr (.inl (1, .inr (.inl ((List.replicate 1 0).set 0 (1))))))]) (pc' := 17) (by decide +kernel) (ab_ov_no f_3466 rfl) (ab_bd (n := 1) (by rw [List.length_replicate]) (by decide +kernel)) (ab_ov_set rfl) rfl ?_
              refine ab_fin.s3 (i := .goto 7) (k := 3) (t := 24) (st' := []) (by decide +kernel) (ab_goto (by decide +kernel)) ?_
              refine ab_fin.s1i (i := .iconst 0) (k := 1) (pc' := 25) (n := 0) (by decide +kernel) rfl (by decide +kernel) rfl ?_
              refine ab_fin.ret (i := .ireturn) (k := 1) (some (.int 0)) (by decide +kernel) rfl ?_
              refine ab_bk.back (pc' := 525) (st' := [.int 0]) rfl rfl ?_
              refine ab_fin.s2 (i := .istore 5) (k := 2) (pc' := 527) (lv' := [(5, .int 0), (4, .int 0), (3, .ref 3466), (2, .ref 101), (1, .ref 0), (0, .retAddr 9)]) (st' := []) (by decide +kernel) rfl rfl ?_
              refine ab_fin.s2 (i := .aload_n 2) (k := 1) (pc' := 528) (lv' := [(5, .int 0), (4, .int 0), (3, .ref 3466), (2, .ref 101), (1, .ref 0), (0, .retAddr 9)]) (st' := [.ref 101]) (by decide +kernel) rfl rfl ?_
              refine ab_fin.s2 (i := .aload_n 0) (k := 1) (pc' := 529) (lv' := [(5, .int 0), (4, .int 0), (3, .ref 3466), (2, .ref 101), (1, .ref 0), (0, .retAddr 9)]) (st' := [.retAddr 9, .ref 101]) (by decide +kernel) rfl rfl ?_
              refine ab_fin.s2 (i := .iload 4) (k := 2) (pc' := 531) (lv' := [(5, .int 0), (4, .int 0), (3, .ref 3466), (2, .ref 101), (1, .ref 0), (0, .retAddr 9)]) (st' := [.int 0, .retAddr 9, .ref 101]) (by decide +kernel) rfl rfl ?_
              refine ab_fin.s1i (i := .iconst 1) (k := 1) (pc' := 532) (n := 1) (by decide +kernel) rfl (by decide +kernel) rfl ?_
              refine ab_fin.s1i (i := .iadd) (k := 1) (pc' := 533) (n := 1) (by decide +kernel) rfl (by decide +kernel) rfl ?_
              refine ab_fin.s8 (i := .iaload) (k := 1) (pc' := 534) (st' := [.int ((xs 1)), .ref 101]) (by decide +kernel) (ab_x0 rfl (by decide +kernel) rfl) rfl rfl rfl ?_
              refine ab_fin.s2 (i := .aload_n 0) (k := 1) (pc' := 535) (lv' := [(5, .int 0), (4, .int 0), (3, .ref 3466), (2, .ref 101), (1, .ref 0), (0, .retAddr 9)]) (st' := [.retAddr 9, .int ((xs 1)), .ref 101]) (by decide +kernel) rfl rfl ?_
              refine ab_fin.s2 (i := .iload 4) (k := 2) (pc' := 537) (lv' := [(5, .int 0), (4, .int 0), (3, .ref 3466), (2, .ref 101), (1, .ref 0), (0, .retAddr 9)]) (st' := [.int 0, .retAddr 9, .int ((xs 1)), .ref 101]) (by decide +kernel) rfl rfl ?_
              refine ab_fin.s1i (i := .iconst 2) (k := 1) (pc' := 538) (n := 2) (by decide +kernel) rfl (by decide +kernel) rfl ?_
              refine ab_fin.s1i (i := .iadd) (k := 1) (pc' := 539) (n := 2) (by decide +kernel) rfl (by decide +kernel) rfl ?_
              refine ab_fin.s8 (i := .iaload) (k := 1) (pc' := 540) (st' := [.int ((xs 2)), .int ((xs 1)), .ref 101]) (by decide +kernel) (ab_x0 rfl (by decide +kernel) rfl) rfl rfl rfl ?_
              refine ab_fin.call (i := .invokevirtual 106) (k := 3) (y := 6002) (As := [.ref 101, .int ((xs 1)), .int ((xs 2))]) (rest := []) (M' := (mX23_below, [])) (by decide +kernel) (ab_cv rfl rfl (ab_ov_no f_101 rfl) ⟨(Nat.le_of_ble_eq_true rfl), (Nat.le_of_ble_eq_true rfl)⟩ rfl) rfl (Nat.le_of_ble_eq_true rfl) ?_
              show ab_fin _ _ _ _ 0 [(0, .ref 101), (1, .int ((xs 1))), (2, .int ((xs 2)))] [] _ _
              refine ab_fin.s2 (i := .aload_n 0) (k := 1) (pc' := 1) (lv' := [(0, .ref 101), (1, .int ((xs 1))), (2, .int ((xs 2)))]) (st' := [.ref 101]) (by decide +kernel) rfl rfl ?_
              refine ab_fin.s1i (i := .iconst 0) (k := 1) (pc' := 2) (n := 0) (by decide +kernel) rfl (by decide +kernel) rfl ?_
              refine ab_fin.putf (ix := 1000) (h1 := ab_ov h [(101, .inr (.inr (24, (p1_o101).set 110 (.int 0)))), (3466, .inr (.inl (1, .inr (.inl ((List.replicate 1 0).set 0 (1))))))]) (pc' := 5) (by decide +kernel) rfl (ab_ov_no f_101 rfl) (ab_klt (n := 115) (by rw [p1_n101]) (by decide)) rfl rfl (ab_ov_set rfl) rfl ?_
              refine ab_fin.s2 (i := .aload_n 0) (k := 1) (pc' := 6) (lv' := [(0, .ref 101), (1, .int ((xs 1))), (2, .int ((xs 2)))]) (st' := [.ref 101]) (by decide +kernel) rfl rfl ?_
              refine ab_fin.s2 (i := .iload_n 1) (k := 1) (pc' := 7) (lv' := [(0, .ref 101), (1, .int ((xs 1))), (2, .int ((xs 2)))]) (st' := [.int ((xs 1)), .ref 101]) (by decide +kernel) rfl rfl ?_
              refine ab_fin.call (i := .invokevirtual 1018) (k := 3) (y := 6001) (As := [.ref 101, .int ((xs 1))]) (rest := []) (M' := (mX23_isKind, [])) (by decide +kernel) (ab_cv rfl rfl (ab_ov_get (lt0 101 (by decide)) rfl) ⟨(Nat.le_of_ble_eq_true rfl), (Nat.le_of_ble_eq_true rfl)⟩ rfl) rfl (Nat.le_of_ble_eq_true rfl) ?_
              show ab_fin _ _ _ _ 0 [(0, .ref 101), (1, .int ((xs 1)))] [] _ _
              refine ab_fin.s2 (i := .iload_n 1) (k := 1) (pc' := 1) (lv' := [(0, .ref 101), (1, .int ((xs 1)))]) (st' := [.int ((xs 1))]) (by decide +kernel) rfl rfl ?_
              refine ab_fin.brF (c := (xs 1) < 0) (i := .ifCond .lt 15) (off := 15) (t := 16) (pc' := 4) (r := []) (by decide +kernel) rfl (by decide +kernel) rfl (by have l0 : (0 : Int32).toInt = 0 := rfl; have l2 : (2 : Int32).toInt = 2 := rfl; have l3 : (3 : Int32).toInt = 3 := rfl; simp only [← Int32.toInt_inj, Int32.lt_iff_toInt_lt, Int32.le_iff_toInt_le, l0, l2, l3] at q1 q2 q3 q4 q5 q26 ⊢; omega) ?_
              refine ab_fin.s2 (i := .iload_n 1) (k := 1) (pc' := 5) (lv' := [(0, .ref 101), (1, .int ((xs 1)))]) (st' := [.int ((xs 1))]) (by decide +kernel) rfl rfl ?_
              refine ab_fin.s2 (i := .aload_n 0) (k := 1) (pc' := 6) (lv' := [(0, .ref 101), (1, .int ((xs 1)))]) (st' := [.ref 101, .int ((xs 1))]) (by decide +kernel) rfl rfl ?_
              refine ab_fin.getf (ix := 13) (k := 4) (v := .int 3) (pc' := 9) (by decide +kernel) rfl (ab_ov_get (lt0 101 (by decide)) rfl) rfl rfl ?_
              refine ab_fin.brF (c := (3 : Int32) ≤ (xs 1)) (i := .if_icmp .ge 7) (off := 7) (t := 16) (pc' := 12) (r := []) (by decide +kernel) rfl (by decide +kernel) rfl (by have l0 : (0 : Int32).toInt = 0 := rfl; have l2 : (2 : Int32).toInt = 2 := rfl; have l3 : (3 : Int32).toInt = 3 := rfl; simp only [← Int32.toInt_inj, Int32.lt_iff_toInt_lt, Int32.le_iff_toInt_le, l0, l2, l3] at q1 q2 q3 q4 q5 q26 ⊢; omega) ?_
              refine ab_fin.s1i (i := .iconst 1) (k := 1) (pc' := 13) (n := 1) (by decide +kernel) rfl (by decide +kernel) rfl ?_
              refine ab_fin.s3 (i := .goto 4) (k := 3) (t := 17) (st' := [.int 1]) (by decide +kernel) (ab_goto (by decide +kernel)) ?_
              refine ab_fin.ret (i := .ireturn) (k := 1) (some (.int 1)) (by decide +kernel) rfl ?_
              refine ab_bk.back (pc' := 10) (st' := [.int 1]) rfl rfl ?_
              refine ab_fin.brF (c := (1 : Int32) = 0) (i := .ifCond .eq 11) (off := 11) (t := 21) (pc' := 13) (r := []) (by decide +kernel) rfl (by decide +kernel) rfl (by decide +kernel) ?_
              refine ab_fin.s2 (i := .aload_n 0) (k := 1) (pc' := 14) (lv' := [(0, .ref 101), (1, .int ((xs 1))), (2, .int ((xs 2)))]) (st' := [.ref 101]) (by decide +kernel) rfl rfl ?_
              refine ab_fin.s2 (i := .iload_n 2) (k := 1) (pc' := 15) (lv' := [(0, .ref 101), (1, .int ((xs 1))), (2, .int ((xs 2)))]) (st' := [.int ((xs 2)), .ref 101]) (by decide +kernel) rfl rfl ?_
              refine ab_fin.call (i := .invokevirtual 1018) (k := 3) (y := 6001) (As := [.ref 101, .int ((xs 2))]) (rest := []) (M' := (mX23_isKind, [])) (by decide +kernel) (ab_cv rfl rfl (ab_ov_get (lt0 101 (by decide)) rfl) ⟨(Nat.le_of_ble_eq_true rfl), (Nat.le_of_ble_eq_true rfl)⟩ rfl) rfl (Nat.le_of_ble_eq_true rfl) ?_
              show ab_fin _ _ _ _ 0 [(0, .ref 101), (1, .int ((xs 2)))] [] _ _
              refine ab_fin.s2 (i := .iload_n 1) (k := 1) (pc' := 1) (lv' := [(0, .ref 101), (1, .int ((xs 2)))]) (st' := [.int ((xs 2))]) (by decide +kernel) rfl rfl ?_
              refine ab_fin.brF (c := (xs 2) < 0) (i := .ifCond .lt 15) (off := 15) (t := 16) (pc' := 4) (r := []) (by decide +kernel) rfl (by decide +kernel) rfl (by have l0 : (0 : Int32).toInt = 0 := rfl; have l2 : (2 : Int32).toInt = 2 := rfl; have l3 : (3 : Int32).toInt = 3 := rfl; simp only [← Int32.toInt_inj, Int32.lt_iff_toInt_lt, Int32.le_iff_toInt_le, l0, l2, l3] at q1 q2 q3 q4 q5 q26 ⊢; omega) ?_
              refine ab_fin.s2 (i := .iload_n 1) (k := 1) (pc' := 5) (lv' := [(0, .ref 101), (1, .int ((xs 2)))]) (st' := [.int ((xs 2))]) (by decide +kernel) rfl rfl ?_
              refine ab_fin.s2 (i := .aload_n 0) (k := 1) (pc' := 6) (lv' := [(0, .ref 101), (1, .int ((xs 2)))]) (st' := [.ref 101, .int ((xs 2))]) (by decide +kernel) rfl rfl ?_
              refine ab_fin.getf (ix := 13) (k := 4) (v := .int 3) (pc' := 9) (by decide +kernel) rfl (ab_ov_get (lt0 101 (by decide)) rfl) rfl rfl ?_
              refine ab_fin.brF (c := (3 : Int32) ≤ (xs 2)) (i := .if_icmp .ge 7) (off := 7) (t := 16) (pc' := 12) (r := []) (by decide +kernel) rfl (by decide +kernel) rfl (by have l0 : (0 : Int32).toInt = 0 := rfl; have l2 : (2 : Int32).toInt = 2 := rfl; have l3 : (3 : Int32).toInt = 3 := rfl; simp only [← Int32.toInt_inj, Int32.lt_iff_toInt_lt, Int32.le_iff_toInt_le, l0, l2, l3] at q1 q2 q3 q4 q5 q26 ⊢; omega) ?_
              refine ab_fin.s1i (i := .iconst 1) (k := 1) (pc' := 13) (n := 1) (by decide +kernel) rfl (by decide +kernel) rfl ?_
              refine ab_fin.s3 (i := .goto 4) (k := 3) (t := 17) (st' := [.int 1]) (by decide +kernel) (ab_goto (by decide +kernel)) ?_
              refine ab_fin.ret (i := .ireturn) (k := 1) (some (.int 1)) (by decide +kernel) rfl ?_
              refine ab_bk.back (pc' := 18) (st' := [.int 1]) rfl rfl ?_
              refine ab_fin.brT (c := ¬ (1 : Int32) = 0) (i := .ifCond .ne 17) (off := 17) (t := 35) (r := []) (by decide +kernel) rfl (by decide +kernel) (by decide +kernel) ?_
              refine ab_fin.s2 (i := .aload_n 0) (k := 1) (pc' := 36) (lv' := [(0, .ref 101), (1, .int ((xs 1))), (2, .int ((xs 2)))]) (st' := [.ref 101]) (by decide +kernel) rfl rfl ?_
              refine ab_fin.getf (ix := 490) (k := 36) (v := .ref 1981) (pc' := 39) (by decide +kernel) rfl (ab_ov_get (lt0 101 (by decide)) rfl) rfl rfl ?_
              refine ab_fin.s2 (i := .iload_n 1) (k := 1) (pc' := 40) (lv' := [(0, .ref 101), (1, .int ((xs 1))), (2, .int ((xs 2)))]) (st' := [.int ((xs 1)), .ref 1981]) (by decide +kernel) rfl rfl ?_
              have q34 : (xs 1) = 2 := (by have l0 : (0 : Int32).toInt = 0 := rfl; have l2 : (2 : Int32).toInt = 2 := rfl; have l3 : (3 : Int32).toInt = 3 := rfl; simp only [← Int32.toInt_inj, Int32.lt_iff_toInt_lt, Int32.le_iff_toInt_le, l0, l2, l3] at q1 q2 q3 q4 q5 q26 ⊢; omega)
              rw [q34]
              refine ab_fin.aald (v := .ref 1984) (pc' := 41) (by decide +kernel) (ab_ov_no f_1981 rfl) (by decide) rfl (ab_bd (n := 24) (by rw [p1_n1981]) (by decide +kernel)) rfl rfl ?_
              refine ab_fin.s2 (i := .iload_n 2) (k := 1) (pc' := 42) (lv' := [(0, .ref 101), (1, .int 2), (2, .int ((xs 2)))]) (st' := [.int ((xs 2)), .ref 1984]) (by decide +kernel) rfl rfl ?_
              have q35 : (xs 2) = 2 := (by have l0 : (0 : Int32).toInt = 0 := rfl; have l2 : (2 : Int32).toInt = 2 := rfl; have l3 : (3 : Int32).toInt = 3 := rfl; simp only [← Int32.toInt_inj, Int32.lt_iff_toInt_lt, Int32.le_iff_toInt_le, l0, l2, l3] at q1 q2 q3 q4 q5 q26 q34 ⊢; omega)
              rw [q35]
              refine ab_fin.bald (t := 3) (v := 1) (pc' := 43) (by decide +kernel) (by decide) (ab_ov_no f_1984 rfl) (ab_bd (n := 24) (by rw [p1_n1984]) (by decide +kernel)) rfl rfl ?_
              refine ab_fin.ret (i := .ireturn) (k := 1) (some (.int 1)) (by decide +kernel) rfl ?_
              refine ab_bk.back (pc' := 543) (st' := [.int 1]) rfl rfl ?_
              refine ab_fin.s2 (i := .istore 6) (k := 2) (pc' := 545) (lv' := [(6, .int 1), (5, .int 0), (4, .int 0), (3, .ref 3466), (2, .ref 101), (1, .ref 0), (0, .retAddr 9)]) (st' := []) (by decide +kernel) rfl rfl ?_
              refine ab_fin.s2 (i := .aload_n 2) (k := 1) (pc' := 546) (lv' := [(6, .int 1), (5, .int 0), (4, .int 0), (3, .ref 3466), (2, .ref 101), (1, .ref 0), (0, .retAddr 9)]) (st' := [.ref 101]) (by decide +kernel) rfl rfl ?_
              refine ab_fin.call (i := .invokevirtual 75) (k := 3) (y := 5992) (As := [.ref 101]) (rest := []) (M' := (mX23_thrown, [])) (by decide +kernel) (ab_cv rfl rfl (ab_ov_get (lt0 101 (by decide)) rfl) ⟨(Nat.le_of_ble_eq_true rfl), (Nat.le_of_ble_eq_true rfl)⟩ rfl) rfl (Nat.le_of_ble_eq_true rfl) ?_
              show ab_fin _ _ _ _ 0 [(0, .ref 101)] [] _ _
              refine ab_fin.s2 (i := .aload_n 0) (k := 1) (pc' := 1) (lv' := [(0, .ref 101)]) (st' := [.ref 101]) (by decide +kernel) rfl rfl ?_
              refine ab_fin.getf (ix := 1000) (k := 110) (v := .int 0) (pc' := 4) (by decide +kernel) rfl (ab_ov_get (lt0 101 (by decide)) rfl) rfl rfl ?_
              refine ab_fin.ret (i := .ireturn) (k := 1) (some (.int 0)) (by decide +kernel) rfl ?_
              refine ab_bk.back (pc' := 549) (st' := [.int 0]) rfl rfl ?_
              refine ab_fin.s2 (i := .iload 5) (k := 2) (pc' := 551) (lv' := [(6, .int 1), (5, .int 0), (4, .int 0), (3, .ref 3466), (2, .ref 101), (1, .ref 0), (0, .retAddr 9)]) (st' := [.int 0, .int 0]) (by decide +kernel) rfl rfl ?_
              refine ab_fin.brT (c := (0 : Int32) = (0 : Int32)) (i := .if_icmp .eq 5) (off := 5) (t := 556) (r := []) (by decide +kernel) rfl (by decide +kernel) (by decide +kernel) ?_
              refine ab_fin.s2 (i := .iload 5) (k := 2) (pc' := 558) (lv' := [(6, .int 1), (5, .int 0), (4, .int 0), (3, .ref 3466), (2, .ref 101), (1, .ref 0), (0, .retAddr 9)]) (st' := [.int 0]) (by decide +kernel) rfl rfl ?_
              refine ab_fin.brF (c := ¬ (0 : Int32) = 0) (i := .ifCond .ne 22) (off := 22) (t := 580) (pc' := 561) (r := []) (by decide +kernel) rfl (by decide +kernel) rfl (by decide +kernel) ?_
              refine ab_fin.s2 (i := .aload_n 3) (k := 1) (pc' := 562) (lv' := [(6, .int 1), (5, .int 0), (4, .int 0), (3, .ref 3466), (2, .ref 101), (1, .ref 0), (0, .retAddr 9)]) (st' := [.ref 3466]) (by decide +kernel) rfl rfl ?_
              refine ab_fin.s1i (i := .iconst 0) (k := 1) (pc' := 563) (n := 0) (by decide +kernel) rfl (by decide +kernel) rfl ?_
              refine ab_fin.lald (v := 1) (pc' := 564) (by decide +kernel) (ab_ov_get (lt0 3466 (by decide)) rfl) (ab_bd (n := 1) (by rw [List.length_set, List.length_replicate]) (by decide +kernel)) rfl rfl ?_
              refine ab_fin.s2 (i := .iload 6) (k := 2) (pc' := 566) (lv' := [(6, .int 1), (5, .int 0), (4, .int 0), (3, .ref 3466), (2, .ref 101), (1, .ref 0), (0, .retAddr 9)]) (st' := [.int 1, .long 1]) (by decide +kernel) rfl rfl ?_
              refine ab_fin.brF (c := (1 : Int32) = 0) (i := .ifCond .eq 7) (off := 7) (t := 573) (pc' := 569) (r := [.long 1]) (by decide +kernel) rfl (by decide +kernel) rfl (by decide +kernel) ?_
              refine ab_fin.s1l (i := .lconst 1) (k := 1) (pc' := 570) (n := 1) (by decide +kernel) rfl (by decide +kernel) rfl ?_
              refine ab_fin.s3 (i := .goto 4) (k := 3) (t := 574) (st' := [.long 1, .long 1]) (by decide +kernel) (ab_goto (by decide +kernel)) ?_
              refine ab_fin.s1i (i := .lcmp) (k := 1) (pc' := 575) (n := 0) (by decide +kernel) rfl (by decide +kernel) rfl ?_
              refine ab_fin.brT (c := (0 : Int32) = 0) (i := .ifCond .eq 5) (off := 5) (t := 580) (r := []) (by decide +kernel) rfl (by decide +kernel) (by decide +kernel) ?_
              refine ab_fin.s3 (i := .goto 510) (k := 3) (t := 1090) (st' := []) (by decide +kernel) (ab_goto (by decide +kernel)) ?_
              refine ab_fin.inc (i := .iinc 4 6) (k := 3) (pc' := 1093) (j := 4) (n := 6) (lv' := [(6, .int 1), (5, .int 0), (3, .ref 3466), (2, .ref 101), (1, .ref 0), (0, .retAddr 9)]) (by decide +kernel) rfl (by decide +kernel) rfl ?_
              refine ab_fin.s3 (i := .goto (-1070)) (k := 3) (t := 23) (st' := []) (by decide +kernel) (ab_goto (by decide +kernel)) ?_
              refine ab_fin.s2 (i := .iload 4) (k := 2) (pc' := 25) (lv' := [(4, .int 6), (6, .int 1), (5, .int 0), (3, .ref 3466), (2, .ref 101), (1, .ref 0), (0, .retAddr 9)]) (st' := [.int 6]) (by decide +kernel) rfl rfl ?_
              refine ab_fin.s2 (i := .aload_n 0) (k := 1) (pc' := 26) (lv' := [(4, .int 6), (6, .int 1), (5, .int 0), (3, .ref 3466), (2, .ref 101), (1, .ref 0), (0, .retAddr 9)]) (st' := [.retAddr 9, .int 6]) (by decide +kernel) rfl rfl ?_
              refine ab_fin.s8 (i := .arraylength) (k := 1) (pc' := 27) (st' := [.int 6, .int 6]) (by decide +kernel) rfl rfl rfl rfl ?_
              refine ab_fin.s1i (i := .bipush 6) (k := 2) (pc' := 29) (n := 6) (by decide +kernel) rfl (by decide +kernel) rfl ?_
              refine ab_fin.s1i (i := .isub) (k := 1) (pc' := 30) (n := 0) (by decide +kernel) rfl (by decide +kernel) rfl ?_
              refine ab_fin.brT (c := (0 : Int32) < (6 : Int32)) (i := .if_icmp .gt 1066) (off := 1066) (t := 1096) (r := []) (by decide +kernel) rfl (by decide +kernel) (by decide +kernel) ?_
              refine ab_fin.s1i (i := .iconst 1) (k := 1) (pc' := 1097) (n := 1) (by decide +kernel) rfl (by decide +kernel) rfl ?_
              refine ab_fin.ret (i := .ireturn) (k := 1) (some (.int 1)) (by decide +kernel) rfl ?_
              refine ⟨rfl, ?_, ?_⟩
              · rw [ab_ov_len, hl]; decide
              · refine Nat.le_trans (ab_ov_z _ _) ?_
                simp only [List.map, List.sum_cons, List.sum_nil, ab_z1, ab_len, List.length_set, List.length_replicate, List.length_cons, List.length_nil, p1_n101]
                omega

set_option maxRecDepth 100000 in
set_option maxHeartbeats 0 in
theorem p1_row (z4 z5 z6 : Value) (n_z4 : z4 = .null ∨ z4 = .retAddr 4) (n_z5 : z5 = .null ∨ z5 = .retAddr 5) (n_z6 : z6 = .null ∨ z6 = .retAddr 6) (xs : Nat → Int32) (h : List ab_E) (hl : h.length = 3467) (hz : ab_z h ≤ 400000) (f_0 : h[0]? = some (.inr (.inr (13, p1_o0)))) (f_1 : h[1]? = some (.inr (.inr (12, p1_o1)))) (f_2 : h[2]? = some (.inr (.inr (3, p1_o2)))) (f_5 : h[5]? = some (.inr (.inl (0, .inl (p1_a5))))) (f_7 : h[7]? = some (.inr (.inl (0, .inl (p1_a7))))) (f_28 : h[28]? = some (.inr (.inl (0, .inl (p1_a28))))) (f_101 : h[101]? = some (.inr (.inr (24, p1_o101)))) (f_102 : h[102]? = some (.inr (.inl (4, .inr (.inr (p1_a102)))))) (f_2294 : h[2294]? = some (.inr (.inr (18, p1_o2294)))) (f_2298 : h[2298]? = some (.inr (.inl (8, .inr (.inr (p1_a2298)))))) (f_2299 : h[2299]? = some (.inr (.inl (0, .inl (List.replicate 24 0))))) (f_2300 : h[2300]? = some (.inr (.inl (0, .inl (List.replicate 24 0))))) (f_2301 : h[2301]? = some (.inr (.inl (0, .inl (List.replicate 24 0))))) (f_2302 : h[2302]? = some (.inr (.inl (0, .inl (List.replicate 3 (1)))))) (f_2303 : h[2303]? = some (.inr (.inr (18, p1_o2303)))) (f_2307 : h[2307]? = some (.inr (.inl (8, .inr (.inr (p1_a2307)))))) (f_2308 : h[2308]? = some (.inr (.inl (0, .inl (p1_a2308))))) (f_2309 : h[2309]? = some (.inr (.inl (0, .inl (p1_a2309))))) (f_2310 : h[2310]? = some (.inr (.inl (0, .inl (p1_a2310))))) (f_2311 : h[2311]? = some (.inr (.inl (0, .inl (List.replicate 3 (2)))))) (f_2312 : h[2312]? = some (.inr (.inr (18, p1_o2312)))) (f_2316 : h[2316]? = some (.inr (.inl (8, .inr (.inr (p1_a2316)))))) (f_2317 : h[2317]? = some (.inr (.inl (0, .inl (p1_a2317))))) (f_2318 : h[2318]? = some (.inr (.inl (0, .inl (p1_a2318))))) (f_2319 : h[2319]? = some (.inr (.inl (0, .inl (p1_a2319))))) (f_2320 : h[2320]? = some (.inr (.inl (0, .inl (List.replicate 3 (2)))))) (f_3466 : h[3466]? = some (.inr (.inl (1, .inr (.inl (List.replicate 1 0)))))) : ab_fin (hb_Gz (some z4, some z5, some z6) (some (0, 6, fun i => .int (xs i)))) hb_GT 2046 (mL_law, []) 583 [(4, .int 0), (3, .ref 3466), (2, .ref 101), (1, .ref 0), (0, .retAddr 9)] [] h p1_Q := by
  have lt0 : ∀ a, a < 3467 → a < h.length := fun a q => by rw [hl]; exact q
  show ab_fin _ _ _ _ _ _ _ (ab_ov h []) _
  refine ab_fin.s2 (i := .aload_n 1) (k := 1) (pc' := 584) (lv' := [(4, .int 0), (3, .ref 3466), (2, .ref 101), (1, .ref 0), (0, .retAddr 9)]) (st' := [.ref 0]) (by decide +kernel) rfl rfl ?_
  refine ab_fin.s2 (i := .aload_n 0) (k := 1) (pc' := 585) (lv' := [(4, .int 0), (3, .ref 3466), (2, .ref 101), (1, .ref 0), (0, .retAddr 9)]) (st' := [.retAddr 9, .ref 0]) (by decide +kernel) rfl rfl ?_
  refine ab_fin.s2 (i := .iload 4) (k := 2) (pc' := 587) (lv' := [(4, .int 0), (3, .ref 3466), (2, .ref 101), (1, .ref 0), (0, .retAddr 9)]) (st' := [.int 0, .retAddr 9, .ref 0]) (by decide +kernel) rfl rfl ?_
  refine ab_fin.s1i (i := .iconst 1) (k := 1) (pc' := 588) (n := 1) (by decide +kernel) rfl (by decide +kernel) rfl ?_
  refine ab_fin.s1i (i := .iadd) (k := 1) (pc' := 589) (n := 1) (by decide +kernel) rfl (by decide +kernel) rfl ?_
  refine ab_fin.s8 (i := .iaload) (k := 1) (pc' := 590) (st' := [.int ((xs 1)), .ref 0]) (by decide +kernel) (ab_x0 rfl (by decide +kernel) rfl) rfl rfl rfl ?_
  refine ab_fin.s2 (i := .aload_n 0) (k := 1) (pc' := 591) (lv' := [(4, .int 0), (3, .ref 3466), (2, .ref 101), (1, .ref 0), (0, .retAddr 9)]) (st' := [.retAddr 9, .int ((xs 1)), .ref 0]) (by decide +kernel) rfl rfl ?_
  refine ab_fin.s2 (i := .iload 4) (k := 2) (pc' := 593) (lv' := [(4, .int 0), (3, .ref 3466), (2, .ref 101), (1, .ref 0), (0, .retAddr 9)]) (st' := [.int 0, .retAddr 9, .int ((xs 1)), .ref 0]) (by decide +kernel) rfl rfl ?_
  refine ab_fin.s1i (i := .iconst 2) (k := 1) (pc' := 594) (n := 2) (by decide +kernel) rfl (by decide +kernel) rfl ?_
  refine ab_fin.s1i (i := .iadd) (k := 1) (pc' := 595) (n := 2) (by decide +kernel) rfl (by decide +kernel) rfl ?_
  refine ab_fin.s8 (i := .iaload) (k := 1) (pc' := 596) (st' := [.int ((xs 2)), .int ((xs 1)), .ref 0]) (by decide +kernel) (ab_x0 rfl (by decide +kernel) rfl) rfl rfl rfl ?_
  refine ab_fin.s2 (i := .aload_n 0) (k := 1) (pc' := 597) (lv' := [(4, .int 0), (3, .ref 3466), (2, .ref 101), (1, .ref 0), (0, .retAddr 9)]) (st' := [.retAddr 9, .int ((xs 2)), .int ((xs 1)), .ref 0]) (by decide +kernel) rfl rfl ?_
  refine ab_fin.s2 (i := .iload 4) (k := 2) (pc' := 599) (lv' := [(4, .int 0), (3, .ref 3466), (2, .ref 101), (1, .ref 0), (0, .retAddr 9)]) (st' := [.int 0, .retAddr 9, .int ((xs 2)), .int ((xs 1)), .ref 0]) (by decide +kernel) rfl rfl ?_
  refine ab_fin.s1i (i := .iconst 3) (k := 1) (pc' := 600) (n := 3) (by decide +kernel) rfl (by decide +kernel) rfl ?_
  refine ab_fin.s1i (i := .iadd) (k := 1) (pc' := 601) (n := 3) (by decide +kernel) rfl (by decide +kernel) rfl ?_
  refine ab_fin.s8 (i := .iaload) (k := 1) (pc' := 602) (st' := [.int ((xs 3)), .int ((xs 2)), .int ((xs 1)), .ref 0]) (by decide +kernel) (ab_x0 rfl (by decide +kernel) rfl) rfl rfl rfl ?_
  refine ab_fin.s2 (i := .aload_n 3) (k := 1) (pc' := 603) (lv' := [(4, .int 0), (3, .ref 3466), (2, .ref 101), (1, .ref 0), (0, .retAddr 9)]) (st' := [.ref 3466, .int ((xs 3)), .int ((xs 2)), .int ((xs 1)), .ref 0]) (by decide +kernel) rfl rfl ?_
  refine ab_fin.call (i := .invokestatic 107) (k := 3) (y := 13518) (As := [.ref 0, .int ((xs 1)), .int ((xs 2)), .int ((xs 3)), .ref 3466]) (rest := []) (M' := (mL_row, [(0, 12, 15, 13), (0, 12, 19, 19)])) (by decide +kernel) (ab_cs rfl rfl ⟨(Nat.le_of_ble_eq_true rfl), (Nat.le_of_ble_eq_true rfl)⟩ rfl) rfl (Nat.le_of_ble_eq_true rfl) ?_
  show ab_fin _ _ _ _ 0 [(0, .ref 0), (1, .int ((xs 1))), (2, .int ((xs 2))), (3, .int ((xs 3))), (4, .ref 3466)] [] _ _
  refine ab_fin.s2 (i := .aload 4) (k := 2) (pc' := 2) (lv' := [(0, .ref 0), (1, .int ((xs 1))), (2, .int ((xs 2))), (3, .int ((xs 3))), (4, .ref 3466)]) (st' := [.ref 3466]) (by decide +kernel) rfl rfl ?_
  refine ab_fin.s1i (i := .iconst 0) (k := 1) (pc' := 3) (n := 0) (by decide +kernel) rfl (by decide +kernel) rfl ?_
  refine ab_fin.s2 (i := .aload_n 0) (k := 1) (pc' := 4) (lv' := [(0, .ref 0), (1, .int ((xs 1))), (2, .int ((xs 2))), (3, .int ((xs 3))), (4, .ref 3466)]) (st' := [.ref 0, .int 0, .ref 3466]) (by decide +kernel) rfl rfl ?_
  refine ab_fin.s2 (i := .iload_n 1) (k := 1) (pc' := 5) (lv' := [(0, .ref 0), (1, .int ((xs 1))), (2, .int ((xs 2))), (3, .int ((xs 3))), (4, .ref 3466)]) (st' := [.int ((xs 1)), .ref 0, .int 0, .ref 3466]) (by decide +kernel) rfl rfl ?_
  refine ab_fin.s2 (i := .iload_n 2) (k := 1) (pc' := 6) (lv' := [(0, .ref 0), (1, .int ((xs 1))), (2, .int ((xs 2))), (3, .int ((xs 3))), (4, .ref 3466)]) (st' := [.int ((xs 2)), .int ((xs 1)), .ref 0, .int 0, .ref 3466]) (by decide +kernel) rfl rfl ?_
  refine ab_fin.s2 (i := .iload_n 3) (k := 1) (pc' := 7) (lv' := [(0, .ref 0), (1, .int ((xs 1))), (2, .int ((xs 2))), (3, .int ((xs 3))), (4, .ref 3466)]) (st' := [.int ((xs 3)), .int ((xs 2)), .int ((xs 1)), .ref 0, .int 0, .ref 3466]) (by decide +kernel) rfl rfl ?_
  refine ab_fin.call (i := .invokevirtual 36) (k := 3) (y := 3083) (As := [.ref 0, .int ((xs 1)), .int ((xs 2)), .int ((xs 3))]) (rest := [.int 0, .ref 3466]) (M' := (mX12_row, [])) (by decide +kernel) (ab_cv rfl rfl (ab_ov_no f_0 rfl) ⟨(Nat.le_of_ble_eq_true rfl), (Nat.le_of_ble_eq_true rfl)⟩ rfl) rfl (Nat.le_of_ble_eq_true rfl) ?_
  show ab_fin _ _ _ _ 0 [(0, .ref 0), (1, .int ((xs 1))), (2, .int ((xs 2))), (3, .int ((xs 3)))] [] _ _
  refine ab_fin.s2 (i := .aload_n 0) (k := 1) (pc' := 1) (lv' := [(0, .ref 0), (1, .int ((xs 1))), (2, .int ((xs 2))), (3, .int ((xs 3)))]) (st' := [.ref 0]) (by decide +kernel) rfl rfl ?_
  refine ab_fin.getf (ix := 10) (k := 0) (v := .ref 1) (pc' := 4) (by decide +kernel) rfl (ab_ov_no f_0 rfl) rfl rfl ?_
  refine ab_fin.s2 (i := .iload_n 1) (k := 1) (pc' := 5) (lv' := [(0, .ref 0), (1, .int ((xs 1))), (2, .int ((xs 2))), (3, .int ((xs 3)))]) (st' := [.int ((xs 1)), .ref 1]) (by decide +kernel) rfl rfl ?_
  refine ab_fin.call (i := .invokevirtual 157) (k := 3) (y := 2817) (As := [.ref 1, .int ((xs 1))]) (rest := []) (M' := (mX11_isKind, [])) (by decide +kernel) (ab_cv rfl rfl (ab_ov_no f_1 rfl) ⟨(Nat.le_of_ble_eq_true rfl), (Nat.le_of_ble_eq_true rfl)⟩ rfl) rfl (Nat.le_of_ble_eq_true rfl) ?_
  show ab_fin _ _ _ _ 0 [(0, .ref 1), (1, .int ((xs 1)))] [] _ _
  refine ab_fin.s2 (i := .iload_n 1) (k := 1) (pc' := 1) (lv' := [(0, .ref 1), (1, .int ((xs 1)))]) (st' := [.int ((xs 1))]) (by decide +kernel) rfl rfl ?_
  refine ab_fin.br (c := (xs 1) < 0) (i := .ifCond .lt 17) (off := 17) (t := 18) (pc' := 4) (r := []) (by decide +kernel) rfl (by decide +kernel) rfl (fun q1 => ?_) (fun q1 => ?_)
  · refine ab_fin.s1i (i := .iconst 0) (k := 1) (pc' := 19) (n := 0) (by decide +kernel) rfl (by decide +kernel) rfl ?_
    refine ab_fin.ret (i := .ireturn) (k := 1) (some (.int 0)) (by decide +kernel) rfl ?_
    refine ab_bk.back (pc' := 8) (st' := [.int 0]) rfl rfl ?_
    refine ab_fin.brT (c := (0 : Int32) = 0) (i := .ifCond .eq 7) (off := 7) (t := 15) (r := []) (by decide +kernel) rfl (by decide +kernel) (by decide +kernel) ?_
    refine ab_fin.thrN (i := .new 80) (k := 3) (cls := "java/lang/IndexOutOfBoundsException") (n := 3467) (by decide +kernel) (by decide +kernel) (fun ix q => by cases q; rfl) (by decide) (Nat.le_of_ble_eq_true rfl) ((ab_ov_len _ _).trans hl) (ab_ov_app (by rw [hl]; decide +kernel)) ?_
    obtain ⟨h1, e1⟩ : ∃ h2 : List ab_E, h2 = h ++ [.inl 6] := ⟨_, rfl⟩
    have hl1 : h1.length = 3468 := by rw [e1, List.length_append, hl]; rfl
    have lt1 : ∀ a, a < 3468 → a < h1.length := fun a q => by rw [hl1]; exact q
    have hz1 : ab_z h1 = ab_z h + 6 := by rw [e1, ab_z_app]; rfl
    have f1_0 := (show h1[0]? = h[0]? by rw [e1, List.getElem?_append_left (by rw [hl]; decide)]).trans f_0
    have f1_1 := (show h1[1]? = h[1]? by rw [e1, List.getElem?_append_left (by rw [hl]; decide)]).trans f_1
    have f1_2 := (show h1[2]? = h[2]? by rw [e1, List.getElem?_append_left (by rw [hl]; decide)]).trans f_2
    have f1_5 := (show h1[5]? = h[5]? by rw [e1, List.getElem?_append_left (by rw [hl]; decide)]).trans f_5
    have f1_7 := (show h1[7]? = h[7]? by rw [e1, List.getElem?_append_left (by rw [hl]; decide)]).trans f_7
    have f1_28 := (show h1[28]? = h[28]? by rw [e1, List.getElem?_append_left (by rw [hl]; decide)]).trans f_28
    have f1_101 := (show h1[101]? = h[101]? by rw [e1, List.getElem?_append_left (by rw [hl]; decide)]).trans f_101
    have f1_102 := (show h1[102]? = h[102]? by rw [e1, List.getElem?_append_left (by rw [hl]; decide)]).trans f_102
    have f1_2294 := (show h1[2294]? = h[2294]? by rw [e1, List.getElem?_append_left (by rw [hl]; decide)]).trans f_2294
    have f1_2298 := (show h1[2298]? = h[2298]? by rw [e1, List.getElem?_append_left (by rw [hl]; decide)]).trans f_2298
    have f1_2299 := (show h1[2299]? = h[2299]? by rw [e1, List.getElem?_append_left (by rw [hl]; decide)]).trans f_2299
    have f1_2300 := (show h1[2300]? = h[2300]? by rw [e1, List.getElem?_append_left (by rw [hl]; decide)]).trans f_2300
    have f1_2301 := (show h1[2301]? = h[2301]? by rw [e1, List.getElem?_append_left (by rw [hl]; decide)]).trans f_2301
    have f1_2302 := (show h1[2302]? = h[2302]? by rw [e1, List.getElem?_append_left (by rw [hl]; decide)]).trans f_2302
    have f1_2303 := (show h1[2303]? = h[2303]? by rw [e1, List.getElem?_append_left (by rw [hl]; decide)]).trans f_2303
    have f1_2307 := (show h1[2307]? = h[2307]? by rw [e1, List.getElem?_append_left (by rw [hl]; decide)]).trans f_2307
    have f1_2308 := (show h1[2308]? = h[2308]? by rw [e1, List.getElem?_append_left (by rw [hl]; decide)]).trans f_2308
    have f1_2309 := (show h1[2309]? = h[2309]? by rw [e1, List.getElem?_append_left (by rw [hl]; decide)]).trans f_2309
    have f1_2310 := (show h1[2310]? = h[2310]? by rw [e1, List.getElem?_append_left (by rw [hl]; decide)]).trans f_2310
    have f1_2311 := (show h1[2311]? = h[2311]? by rw [e1, List.getElem?_append_left (by rw [hl]; decide)]).trans f_2311
    have f1_2312 := (show h1[2312]? = h[2312]? by rw [e1, List.getElem?_append_left (by rw [hl]; decide)]).trans f_2312
    have f1_2316 := (show h1[2316]? = h[2316]? by rw [e1, List.getElem?_append_left (by rw [hl]; decide)]).trans f_2316
    have f1_2317 := (show h1[2317]? = h[2317]? by rw [e1, List.getElem?_append_left (by rw [hl]; decide)]).trans f_2317
    have f1_2318 := (show h1[2318]? = h[2318]? by rw [e1, List.getElem?_append_left (by rw [hl]; decide)]).trans f_2318
    have f1_2319 := (show h1[2319]? = h[2319]? by rw [e1, List.getElem?_append_left (by rw [hl]; decide)]).trans f_2319
    have f1_2320 := (show h1[2320]? = h[2320]? by rw [e1, List.getElem?_append_left (by rw [hl]; decide)]).trans f_2320
    have f1_3466 := (show h1[3466]? = h[3466]? by rw [e1, List.getElem?_append_left (by rw [hl]; decide)]).trans f_3466
    rw [← e1]
    refine ab_bk.catch (hp := 15) (by decide +kernel) rfl ?_
    refine ab_fin.s2 (i := .astore 5) (k := 2) (pc' := 17) (lv' := [(5, .ref 3467), (0, .ref 0), (1, .int ((xs 1))), (2, .int ((xs 2))), (3, .int ((xs 3))), (4, .ref 3466)]) (st' := []) (by decide +kernel) rfl rfl ?_
    refine ab_fin.s1i (i := .iconst 1) (k := 1) (pc' := 18) (n := 1) (by decide +kernel) rfl (by decide +kernel) rfl ?_
    refine ab_fin.ret (i := .ireturn) (k := 1) (some (.int 1)) (by decide +kernel) rfl ?_
    refine ab_bk.back (pc' := 606) (st' := [.int 1]) rfl rfl ?_
    refine ab_fin.s2 (i := .istore 5) (k := 2) (pc' := 608) (lv' := [(5, .int 1), (4, .int 0), (3, .ref 3466), (2, .ref 101), (1, .ref 0), (0, .retAddr 9)]) (st' := []) (by decide +kernel) rfl rfl ?_
    refine ab_fin.s2 (i := .aload_n 2) (k := 1) (pc' := 609) (lv' := [(5, .int 1), (4, .int 0), (3, .ref 3466), (2, .ref 101), (1, .ref 0), (0, .retAddr 9)]) (st' := [.ref 101]) (by decide +kernel) rfl rfl ?_
    refine ab_fin.s2 (i := .aload_n 0) (k := 1) (pc' := 610) (lv' := [(5, .int 1), (4, .int 0), (3, .ref 3466), (2, .ref 101), (1, .ref 0), (0, .retAddr 9)]) (st' := [.retAddr 9, .ref 101]) (by decide +kernel) rfl rfl ?_
    refine ab_fin.s2 (i := .iload 4) (k := 2) (pc' := 612) (lv' := [(5, .int 1), (4, .int 0), (3, .ref 3466), (2, .ref 101), (1, .ref 0), (0, .retAddr 9)]) (st' := [.int 0, .retAddr 9, .ref 101]) (by decide +kernel) rfl rfl ?_
    refine ab_fin.s1i (i := .iconst 1) (k := 1) (pc' := 613) (n := 1) (by decide +kernel) rfl (by decide +kernel) rfl ?_
    refine ab_fin.s1i (i := .iadd) (k := 1) (pc' := 614) (n := 1) (by decide +kernel) rfl (by decide +kernel) rfl ?_
    refine ab_fin.s8 (i := .iaload) (k := 1) (pc' := 615) (st' := [.int ((xs 1)), .ref 101]) (by decide +kernel) (ab_x0 rfl (by decide +kernel) rfl) rfl rfl rfl ?_
    refine ab_fin.s2 (i := .aload_n 0) (k := 1) (pc' := 616) (lv' := [(5, .int 1), (4, .int 0), (3, .ref 3466), (2, .ref 101), (1, .ref 0), (0, .retAddr 9)]) (st' := [.retAddr 9, .int ((xs 1)), .ref 101]) (by decide +kernel) rfl rfl ?_
    refine ab_fin.s2 (i := .iload 4) (k := 2) (pc' := 618) (lv' := [(5, .int 1), (4, .int 0), (3, .ref 3466), (2, .ref 101), (1, .ref 0), (0, .retAddr 9)]) (st' := [.int 0, .retAddr 9, .int ((xs 1)), .ref 101]) (by decide +kernel) rfl rfl ?_
    refine ab_fin.s1i (i := .iconst 2) (k := 1) (pc' := 619) (n := 2) (by decide +kernel) rfl (by decide +kernel) rfl ?_
    refine ab_fin.s1i (i := .iadd) (k := 1) (pc' := 620) (n := 2) (by decide +kernel) rfl (by decide +kernel) rfl ?_
    refine ab_fin.s8 (i := .iaload) (k := 1) (pc' := 621) (st' := [.int ((xs 2)), .int ((xs 1)), .ref 101]) (by decide +kernel) (ab_x0 rfl (by decide +kernel) rfl) rfl rfl rfl ?_
    refine ab_fin.s2 (i := .aload_n 0) (k := 1) (pc' := 622) (lv' := [(5, .int 1), (4, .int 0), (3, .ref 3466), (2, .ref 101), (1, .ref 0), (0, .retAddr 9)]) (st' := [.retAddr 9, .int ((xs 2)), .int ((xs 1)), .ref 101]) (by decide +kernel) rfl rfl ?_
    refine ab_fin.s2 (i := .iload 4) (k := 2) (pc' := 624) (lv' := [(5, .int 1), (4, .int 0), (3, .ref 3466), (2, .ref 101), (1, .ref 0), (0, .retAddr 9)]) (st' := [.int 0, .retAddr 9, .int ((xs 2)), .int ((xs 1)), .ref 101]) (by decide +kernel) rfl rfl ?_
    refine ab_fin.s1i (i := .iconst 3) (k := 1) (pc' := 625) (n := 3) (by decide +kernel) rfl (by decide +kernel) rfl ?_
    refine ab_fin.s1i (i := .iadd) (k := 1) (pc' := 626) (n := 3) (by decide +kernel) rfl (by decide +kernel) rfl ?_
    refine ab_fin.s8 (i := .iaload) (k := 1) (pc' := 627) (st' := [.int ((xs 3)), .int ((xs 2)), .int ((xs 1)), .ref 101]) (by decide +kernel) (ab_x0 rfl (by decide +kernel) rfl) rfl rfl rfl ?_
    refine ab_fin.call (i := .invokevirtual 110) (k := 3) (y := 6003) (As := [.ref 101, .int ((xs 1)), .int ((xs 2)), .int ((xs 3))]) (rest := []) (M' := (mX23_row, [])) (by decide +kernel) (ab_cv rfl rfl (ab_ov_no f1_101 rfl) ⟨(Nat.le_of_ble_eq_true rfl), (Nat.le_of_ble_eq_true rfl)⟩ rfl) rfl (Nat.le_of_ble_eq_true rfl) ?_
    show ab_fin _ _ _ _ 0 [(0, .ref 101), (1, .int ((xs 1))), (2, .int ((xs 2))), (3, .int ((xs 3)))] [] _ _
    refine ab_fin.s2 (i := .aload_n 0) (k := 1) (pc' := 1) (lv' := [(0, .ref 101), (1, .int ((xs 1))), (2, .int ((xs 2))), (3, .int ((xs 3)))]) (st' := [.ref 101]) (by decide +kernel) rfl rfl ?_
    refine ab_fin.s1i (i := .iconst 0) (k := 1) (pc' := 2) (n := 0) (by decide +kernel) rfl (by decide +kernel) rfl ?_
    refine ab_fin.putf (ix := 1000) (h1 := ab_ov h1 [(101, .inr (.inr (24, (p1_o101).set 110 (.int 0))))]) (pc' := 5) (by decide +kernel) rfl (ab_ov_no f1_101 rfl) (ab_klt (n := 115) (by rw [p1_n101]) (by decide)) rfl rfl (ab_ov_set rfl) rfl ?_
    refine ab_fin.s2 (i := .aload_n 0) (k := 1) (pc' := 6) (lv' := [(0, .ref 101), (1, .int ((xs 1))), (2, .int ((xs 2))), (3, .int ((xs 3)))]) (st' := [.ref 101]) (by decide +kernel) rfl rfl ?_
    refine ab_fin.s2 (i := .iload_n 1) (k := 1) (pc' := 7) (lv' := [(0, .ref 101), (1, .int ((xs 1))), (2, .int ((xs 2))), (3, .int ((xs 3)))]) (st' := [.int ((xs 1)), .ref 101]) (by decide +kernel) rfl rfl ?_
    refine ab_fin.call (i := .invokevirtual 1018) (k := 3) (y := 6001) (As := [.ref 101, .int ((xs 1))]) (rest := []) (M' := (mX23_isKind, [])) (by decide +kernel) (ab_cv rfl rfl (ab_ov_get (lt1 101 (by decide)) rfl) ⟨(Nat.le_of_ble_eq_true rfl), (Nat.le_of_ble_eq_true rfl)⟩ rfl) rfl (Nat.le_of_ble_eq_true rfl) ?_
    show ab_fin _ _ _ _ 0 [(0, .ref 101), (1, .int ((xs 1)))] [] _ _
    refine ab_fin.s2 (i := .iload_n 1) (k := 1) (pc' := 1) (lv' := [(0, .ref 101), (1, .int ((xs 1)))]) (st' := [.int ((xs 1))]) (by decide +kernel) rfl rfl ?_
    refine ab_fin.brT (c := (xs 1) < 0) (i := .ifCond .lt 15) (off := 15) (t := 16) (r := []) (by decide +kernel) rfl (by decide +kernel) (by have l0 : (0 : Int32).toInt = 0 := rfl; simp only [← Int32.toInt_inj, Int32.lt_iff_toInt_lt, Int32.le_iff_toInt_le, l0] at q1 ⊢; omega) ?_
    refine ab_fin.s1i (i := .iconst 0) (k := 1) (pc' := 17) (n := 0) (by decide +kernel) rfl (by decide +kernel) rfl ?_
    refine ab_fin.ret (i := .ireturn) (k := 1) (some (.int 0)) (by decide +kernel) rfl ?_
    refine ab_bk.back (pc' := 10) (st' := [.int 0]) rfl rfl ?_
    refine ab_fin.brT (c := (0 : Int32) = 0) (i := .ifCond .eq 7) (off := 7) (t := 17) (r := []) (by decide +kernel) rfl (by decide +kernel) (by decide +kernel) ?_
    refine ab_fin.s2 (i := .aload_n 0) (k := 1) (pc' := 18) (lv' := [(0, .ref 101), (1, .int ((xs 1))), (2, .int ((xs 2))), (3, .int ((xs 3)))]) (st' := [.ref 101]) (by decide +kernel) rfl rfl ?_
    refine ab_fin.s1i (i := .iconst 1) (k := 1) (pc' := 19) (n := 1) (by decide +kernel) rfl (by decide +kernel) rfl ?_
    refine ab_fin.call (i := .invokevirtual 1003) (k := 3) (y := 5993) (As := [.ref 101, .int 1]) (rest := []) (M' := (mX23_no_, [])) (by decide +kernel) (ab_cv rfl rfl (ab_ov_get (lt1 101 (by decide)) rfl) ⟨(Nat.le_of_ble_eq_true rfl), (Nat.le_of_ble_eq_true rfl)⟩ rfl) rfl (Nat.le_of_ble_eq_true rfl) ?_
    show ab_fin _ _ _ _ 0 [(0, .ref 101), (1, .int 1)] [] _ _
    refine ab_fin.s2 (i := .aload_n 0) (k := 1) (pc' := 1) (lv' := [(0, .ref 101), (1, .int 1)]) (st' := [.ref 101]) (by decide +kernel) rfl rfl ?_
    refine ab_fin.s2 (i := .iload_n 1) (k := 1) (pc' := 2) (lv' := [(0, .ref 101), (1, .int 1)]) (st' := [.int 1, .ref 101]) (by decide +kernel) rfl rfl ?_
    refine ab_fin.putf (ix := 1000) (h1 := ab_ov h1 [(101, .inr (.inr (24, (p1_o101).set 110 (.int 1))))]) (pc' := 5) (by decide +kernel) rfl (ab_ov_get (lt1 101 (by decide)) rfl) (ab_klt (n := 115) (by rw [List.length_set, p1_n101]) (by decide)) rfl rfl (ab_ov_set rfl) rfl ?_
    refine ab_fin.s1i (i := .iconst 0) (k := 1) (pc' := 6) (n := 0) (by decide +kernel) rfl (by decide +kernel) rfl ?_
    refine ab_fin.ret (i := .ireturn) (k := 1) (some (.int 0)) (by decide +kernel) rfl ?_
    refine ab_bk.back (pc' := 22) (st' := [.int 0]) rfl rfl ?_
    refine ab_fin.ret (i := .ireturn) (k := 1) (some (.int 0)) (by decide +kernel) rfl ?_
    refine ab_bk.back (pc' := 630) (st' := [.int 0]) rfl rfl ?_
    refine ab_fin.s2 (i := .istore 6) (k := 2) (pc' := 632) (lv' := [(6, .int 0), (5, .int 1), (4, .int 0), (3, .ref 3466), (2, .ref 101), (1, .ref 0), (0, .retAddr 9)]) (st' := []) (by decide +kernel) rfl rfl ?_
    refine ab_fin.s2 (i := .aload_n 2) (k := 1) (pc' := 633) (lv' := [(6, .int 0), (5, .int 1), (4, .int 0), (3, .ref 3466), (2, .ref 101), (1, .ref 0), (0, .retAddr 9)]) (st' := [.ref 101]) (by decide +kernel) rfl rfl ?_
    refine ab_fin.call (i := .invokevirtual 75) (k := 3) (y := 5992) (As := [.ref 101]) (rest := []) (M' := (mX23_thrown, [])) (by decide +kernel) (ab_cv rfl rfl (ab_ov_get (lt1 101 (by decide)) rfl) ⟨(Nat.le_of_ble_eq_true rfl), (Nat.le_of_ble_eq_true rfl)⟩ rfl) rfl (Nat.le_of_ble_eq_true rfl) ?_
    show ab_fin _ _ _ _ 0 [(0, .ref 101)] [] _ _
    refine ab_fin.s2 (i := .aload_n 0) (k := 1) (pc' := 1) (lv' := [(0, .ref 101)]) (st' := [.ref 101]) (by decide +kernel) rfl rfl ?_
    refine ab_fin.getf (ix := 1000) (k := 110) (v := .int 1) (pc' := 4) (by decide +kernel) rfl (ab_ov_get (lt1 101 (by decide)) rfl) rfl rfl ?_
    refine ab_fin.ret (i := .ireturn) (k := 1) (some (.int 1)) (by decide +kernel) rfl ?_
    refine ab_bk.back (pc' := 636) (st' := [.int 1]) rfl rfl ?_
    refine ab_fin.s2 (i := .iload 5) (k := 2) (pc' := 638) (lv' := [(6, .int 0), (5, .int 1), (4, .int 0), (3, .ref 3466), (2, .ref 101), (1, .ref 0), (0, .retAddr 9)]) (st' := [.int 1, .int 1]) (by decide +kernel) rfl rfl ?_
    refine ab_fin.brT (c := (1 : Int32) = (1 : Int32)) (i := .if_icmp .eq 5) (off := 5) (t := 643) (r := []) (by decide +kernel) rfl (by decide +kernel) (by decide +kernel) ?_
    refine ab_fin.s2 (i := .iload 5) (k := 2) (pc' := 645) (lv' := [(6, .int 0), (5, .int 1), (4, .int 0), (3, .ref 3466), (2, .ref 101), (1, .ref 0), (0, .retAddr 9)]) (st' := [.int 1]) (by decide +kernel) rfl rfl ?_
    refine ab_fin.brT (c := ¬ (1 : Int32) = 0) (i := .ifCond .ne 15) (off := 15) (t := 660) (r := []) (by decide +kernel) rfl (by decide +kernel) (by decide +kernel) ?_
    refine ab_fin.s3 (i := .goto 430) (k := 3) (t := 1090) (st' := []) (by decide +kernel) (ab_goto (by decide +kernel)) ?_
    refine ab_fin.inc (i := .iinc 4 6) (k := 3) (pc' := 1093) (j := 4) (n := 6) (lv' := [(6, .int 0), (5, .int 1), (3, .ref 3466), (2, .ref 101), (1, .ref 0), (0, .retAddr 9)]) (by decide +kernel) rfl (by decide +kernel) rfl ?_
    refine ab_fin.s3 (i := .goto (-1070)) (k := 3) (t := 23) (st' := []) (by decide +kernel) (ab_goto (by decide +kernel)) ?_
    refine ab_fin.s2 (i := .iload 4) (k := 2) (pc' := 25) (lv' := [(4, .int 6), (6, .int 0), (5, .int 1), (3, .ref 3466), (2, .ref 101), (1, .ref 0), (0, .retAddr 9)]) (st' := [.int 6]) (by decide +kernel) rfl rfl ?_
    refine ab_fin.s2 (i := .aload_n 0) (k := 1) (pc' := 26) (lv' := [(4, .int 6), (6, .int 0), (5, .int 1), (3, .ref 3466), (2, .ref 101), (1, .ref 0), (0, .retAddr 9)]) (st' := [.retAddr 9, .int 6]) (by decide +kernel) rfl rfl ?_
    refine ab_fin.s8 (i := .arraylength) (k := 1) (pc' := 27) (st' := [.int 6, .int 6]) (by decide +kernel) rfl rfl rfl rfl ?_
    refine ab_fin.s1i (i := .bipush 6) (k := 2) (pc' := 29) (n := 6) (by decide +kernel) rfl (by decide +kernel) rfl ?_
    refine ab_fin.s1i (i := .isub) (k := 1) (pc' := 30) (n := 0) (by decide +kernel) rfl (by decide +kernel) rfl ?_
    refine ab_fin.brT (c := (0 : Int32) < (6 : Int32)) (i := .if_icmp .gt 1066) (off := 1066) (t := 1096) (r := []) (by decide +kernel) rfl (by decide +kernel) (by decide +kernel) ?_
    refine ab_fin.s1i (i := .iconst 1) (k := 1) (pc' := 1097) (n := 1) (by decide +kernel) rfl (by decide +kernel) rfl ?_
    refine ab_fin.ret (i := .ireturn) (k := 1) (some (.int 1)) (by decide +kernel) rfl ?_
    refine ⟨rfl, ?_, ?_⟩
    · rw [ab_ov_len, hl1]; decide
    · refine Nat.le_trans (ab_ov_z _ _) ?_
      simp only [List.map, List.sum_cons, List.sum_nil, ab_z1, ab_len, List.length_set, List.length_replicate, List.length_cons, List.length_nil, p1_n101]
      have z1 : ab_z h1 = _ := hz1
      omega
  · refine ab_fin.s2 (i := .iload_n 1) (k := 1) (pc' := 5) (lv' := [(0, .ref 1), (1, .int ((xs 1)))]) (st' := [.int ((xs 1))]) (by decide +kernel) rfl rfl ?_
    refine ab_fin.s2 (i := .aload_n 0) (k := 1) (pc' := 6) (lv' := [(0, .ref 1), (1, .int ((xs 1)))]) (st' := [.ref 1, .int ((xs 1))]) (by decide +kernel) rfl rfl ?_
    refine ab_fin.getf (ix := 32) (k := 3) (v := .ref 28) (pc' := 9) (by decide +kernel) rfl (ab_ov_no f_1 rfl) rfl rfl ?_
    refine ab_fin.s1i (i := .iconst 0) (k := 1) (pc' := 10) (n := 0) (by decide +kernel) rfl (by decide +kernel) rfl ?_
    refine ab_fin.iald (v := 3) (pc' := 11) (by decide +kernel) (ab_ov_no f_28 rfl) (ab_bd (n := 4) (by rw [p1_n28]) (by decide +kernel)) rfl rfl ?_
    refine ab_fin.br (c := (3 : Int32) ≤ (xs 1)) (i := .if_icmp .ge 7) (off := 7) (t := 18) (pc' := 14) (r := []) (by decide +kernel) rfl (by decide +kernel) rfl (fun q2 => ?_) (fun q2 => ?_)
    · refine ab_fin.s1i (i := .iconst 0) (k := 1) (pc' := 19) (n := 0) (by decide +kernel) rfl (by decide +kernel) rfl ?_
      refine ab_fin.ret (i := .ireturn) (k := 1) (some (.int 0)) (by decide +kernel) rfl ?_
      refine ab_bk.back (pc' := 8) (st' := [.int 0]) rfl rfl ?_
      refine ab_fin.brT (c := (0 : Int32) = 0) (i := .ifCond .eq 7) (off := 7) (t := 15) (r := []) (by decide +kernel) rfl (by decide +kernel) (by decide +kernel) ?_
      refine ab_fin.thrN (i := .new 80) (k := 3) (cls := "java/lang/IndexOutOfBoundsException") (n := 3467) (by decide +kernel) (by decide +kernel) (fun ix q => by cases q; rfl) (by decide) (Nat.le_of_ble_eq_true rfl) ((ab_ov_len _ _).trans hl) (ab_ov_app (by rw [hl]; decide +kernel)) ?_
      obtain ⟨h1, e1⟩ : ∃ h2 : List ab_E, h2 = h ++ [.inl 6] := ⟨_, rfl⟩
      have hl1 : h1.length = 3468 := by rw [e1, List.length_append, hl]; rfl
      have lt1 : ∀ a, a < 3468 → a < h1.length := fun a q => by rw [hl1]; exact q
      have hz1 : ab_z h1 = ab_z h + 6 := by rw [e1, ab_z_app]; rfl
      have f1_0 := (show h1[0]? = h[0]? by rw [e1, List.getElem?_append_left (by rw [hl]; decide)]).trans f_0
      have f1_1 := (show h1[1]? = h[1]? by rw [e1, List.getElem?_append_left (by rw [hl]; decide)]).trans f_1
      have f1_2 := (show h1[2]? = h[2]? by rw [e1, List.getElem?_append_left (by rw [hl]; decide)]).trans f_2
      have f1_5 := (show h1[5]? = h[5]? by rw [e1, List.getElem?_append_left (by rw [hl]; decide)]).trans f_5
      have f1_7 := (show h1[7]? = h[7]? by rw [e1, List.getElem?_append_left (by rw [hl]; decide)]).trans f_7
      have f1_28 := (show h1[28]? = h[28]? by rw [e1, List.getElem?_append_left (by rw [hl]; decide)]).trans f_28
      have f1_101 := (show h1[101]? = h[101]? by rw [e1, List.getElem?_append_left (by rw [hl]; decide)]).trans f_101
      have f1_102 := (show h1[102]? = h[102]? by rw [e1, List.getElem?_append_left (by rw [hl]; decide)]).trans f_102
      have f1_2294 := (show h1[2294]? = h[2294]? by rw [e1, List.getElem?_append_left (by rw [hl]; decide)]).trans f_2294
      have f1_2298 := (show h1[2298]? = h[2298]? by rw [e1, List.getElem?_append_left (by rw [hl]; decide)]).trans f_2298
      have f1_2299 := (show h1[2299]? = h[2299]? by rw [e1, List.getElem?_append_left (by rw [hl]; decide)]).trans f_2299
      have f1_2300 := (show h1[2300]? = h[2300]? by rw [e1, List.getElem?_append_left (by rw [hl]; decide)]).trans f_2300
      have f1_2301 := (show h1[2301]? = h[2301]? by rw [e1, List.getElem?_append_left (by rw [hl]; decide)]).trans f_2301
      have f1_2302 := (show h1[2302]? = h[2302]? by rw [e1, List.getElem?_append_left (by rw [hl]; decide)]).trans f_2302
      have f1_2303 := (show h1[2303]? = h[2303]? by rw [e1, List.getElem?_append_left (by rw [hl]; decide)]).trans f_2303
      have f1_2307 := (show h1[2307]? = h[2307]? by rw [e1, List.getElem?_append_left (by rw [hl]; decide)]).trans f_2307
      have f1_2308 := (show h1[2308]? = h[2308]? by rw [e1, List.getElem?_append_left (by rw [hl]; decide)]).trans f_2308
      have f1_2309 := (show h1[2309]? = h[2309]? by rw [e1, List.getElem?_append_left (by rw [hl]; decide)]).trans f_2309
      have f1_2310 := (show h1[2310]? = h[2310]? by rw [e1, List.getElem?_append_left (by rw [hl]; decide)]).trans f_2310
      have f1_2311 := (show h1[2311]? = h[2311]? by rw [e1, List.getElem?_append_left (by rw [hl]; decide)]).trans f_2311
      have f1_2312 := (show h1[2312]? = h[2312]? by rw [e1, List.getElem?_append_left (by rw [hl]; decide)]).trans f_2312
      have f1_2316 := (show h1[2316]? = h[2316]? by rw [e1, List.getElem?_append_left (by rw [hl]; decide)]).trans f_2316
      have f1_2317 := (show h1[2317]? = h[2317]? by rw [e1, List.getElem?_append_left (by rw [hl]; decide)]).trans f_2317
      have f1_2318 := (show h1[2318]? = h[2318]? by rw [e1, List.getElem?_append_left (by rw [hl]; decide)]).trans f_2318
      have f1_2319 := (show h1[2319]? = h[2319]? by rw [e1, List.getElem?_append_left (by rw [hl]; decide)]).trans f_2319
      have f1_2320 := (show h1[2320]? = h[2320]? by rw [e1, List.getElem?_append_left (by rw [hl]; decide)]).trans f_2320
      have f1_3466 := (show h1[3466]? = h[3466]? by rw [e1, List.getElem?_append_left (by rw [hl]; decide)]).trans f_3466
      rw [← e1]
      refine ab_bk.catch (hp := 15) (by decide +kernel) rfl ?_
      refine ab_fin.s2 (i := .astore 5) (k := 2) (pc' := 17) (lv' := [(5, .ref 3467), (0, .ref 0), (1, .int ((xs 1))), (2, .int ((xs 2))), (3, .int ((xs 3))), (4, .ref 3466)]) (st' := []) (by decide +kernel) rfl rfl ?_
      refine ab_fin.s1i (i := .iconst 1) (k := 1) (pc' := 18) (n := 1) (by decide +kernel) rfl (by decide +kernel) rfl ?_
      refine ab_fin.ret (i := .ireturn) (k := 1) (some (.int 1)) (by decide +kernel) rfl ?_
      refine ab_bk.back (pc' := 606) (st' := [.int 1]) rfl rfl ?_
      refine ab_fin.s2 (i := .istore 5) (k := 2) (pc' := 608) (lv' := [(5, .int 1), (4, .int 0), (3, .ref 3466), (2, .ref 101), (1, .ref 0), (0, .retAddr 9)]) (st' := []) (by decide +kernel) rfl rfl ?_
      refine ab_fin.s2 (i := .aload_n 2) (k := 1) (pc' := 609) (lv' := [(5, .int 1), (4, .int 0), (3, .ref 3466), (2, .ref 101), (1, .ref 0), (0, .retAddr 9)]) (st' := [.ref 101]) (by decide +kernel) rfl rfl ?_
      refine ab_fin.s2 (i := .aload_n 0) (k := 1) (pc' := 610) (lv' := [(5, .int 1), (4, .int 0), (3, .ref 3466), (2, .ref 101), (1, .ref 0), (0, .retAddr 9)]) (st' := [.retAddr 9, .ref 101]) (by decide +kernel) rfl rfl ?_
      refine ab_fin.s2 (i := .iload 4) (k := 2) (pc' := 612) (lv' := [(5, .int 1), (4, .int 0), (3, .ref 3466), (2, .ref 101), (1, .ref 0), (0, .retAddr 9)]) (st' := [.int 0, .retAddr 9, .ref 101]) (by decide +kernel) rfl rfl ?_
      refine ab_fin.s1i (i := .iconst 1) (k := 1) (pc' := 613) (n := 1) (by decide +kernel) rfl (by decide +kernel) rfl ?_
      refine ab_fin.s1i (i := .iadd) (k := 1) (pc' := 614) (n := 1) (by decide +kernel) rfl (by decide +kernel) rfl ?_
      refine ab_fin.s8 (i := .iaload) (k := 1) (pc' := 615) (st' := [.int ((xs 1)), .ref 101]) (by decide +kernel) (ab_x0 rfl (by decide +kernel) rfl) rfl rfl rfl ?_
      refine ab_fin.s2 (i := .aload_n 0) (k := 1) (pc' := 616) (lv' := [(5, .int 1), (4, .int 0), (3, .ref 3466), (2, .ref 101), (1, .ref 0), (0, .retAddr 9)]) (st' := [.retAddr 9, .int ((xs 1)), .ref 101]) (by decide +kernel) rfl rfl ?_
      refine ab_fin.s2 (i := .iload 4) (k := 2) (pc' := 618) (lv' := [(5, .int 1), (4, .int 0), (3, .ref 3466), (2, .ref 101), (1, .ref 0), (0, .retAddr 9)]) (st' := [.int 0, .retAddr 9, .int ((xs 1)), .ref 101]) (by decide +kernel) rfl rfl ?_
      refine ab_fin.s1i (i := .iconst 2) (k := 1) (pc' := 619) (n := 2) (by decide +kernel) rfl (by decide +kernel) rfl ?_
      refine ab_fin.s1i (i := .iadd) (k := 1) (pc' := 620) (n := 2) (by decide +kernel) rfl (by decide +kernel) rfl ?_
      refine ab_fin.s8 (i := .iaload) (k := 1) (pc' := 621) (st' := [.int ((xs 2)), .int ((xs 1)), .ref 101]) (by decide +kernel) (ab_x0 rfl (by decide +kernel) rfl) rfl rfl rfl ?_
      refine ab_fin.s2 (i := .aload_n 0) (k := 1) (pc' := 622) (lv' := [(5, .int 1), (4, .int 0), (3, .ref 3466), (2, .ref 101), (1, .ref 0), (0, .retAddr 9)]) (st' := [.retAddr 9, .int ((xs 2)), .int ((xs 1)), .ref 101]) (by decide +kernel) rfl rfl ?_
      refine ab_fin.s2 (i := .iload 4) (k := 2) (pc' := 624) (lv' := [(5, .int 1), (4, .int 0), (3, .ref 3466), (2, .ref 101), (1, .ref 0), (0, .retAddr 9)]) (st' := [.int 0, .retAddr 9, .int ((xs 2)), .int ((xs 1)), .ref 101]) (by decide +kernel) rfl rfl ?_
      refine ab_fin.s1i (i := .iconst 3) (k := 1) (pc' := 625) (n := 3) (by decide +kernel) rfl (by decide +kernel) rfl ?_
      refine ab_fin.s1i (i := .iadd) (k := 1) (pc' := 626) (n := 3) (by decide +kernel) rfl (by decide +kernel) rfl ?_
      refine ab_fin.s8 (i := .iaload) (k := 1) (pc' := 627) (st' := [.int ((xs 3)), .int ((xs 2)), .int ((xs 1)), .ref 101]) (by decide +kernel) (ab_x0 rfl (by decide +kernel) rfl) rfl rfl rfl ?_
      refine ab_fin.call (i := .invokevirtual 110) (k := 3) (y := 6003) (As := [.ref 101, .int ((xs 1)), .int ((xs 2)), .int ((xs 3))]) (rest := []) (M' := (mX23_row, [])) (by decide +kernel) (ab_cv rfl rfl (ab_ov_no f1_101 rfl) ⟨(Nat.le_of_ble_eq_true rfl), (Nat.le_of_ble_eq_true rfl)⟩ rfl) rfl (Nat.le_of_ble_eq_true rfl) ?_
      show ab_fin _ _ _ _ 0 [(0, .ref 101), (1, .int ((xs 1))), (2, .int ((xs 2))), (3, .int ((xs 3)))] [] _ _
      refine ab_fin.s2 (i := .aload_n 0) (k := 1) (pc' := 1) (lv' := [(0, .ref 101), (1, .int ((xs 1))), (2, .int ((xs 2))), (3, .int ((xs 3)))]) (st' := [.ref 101]) (by decide +kernel) rfl rfl ?_
      refine ab_fin.s1i (i := .iconst 0) (k := 1) (pc' := 2) (n := 0) (by decide +kernel) rfl (by decide +kernel) rfl ?_
      refine ab_fin.putf (ix := 1000) (h1 := ab_ov h1 [(101, .inr (.inr (24, (p1_o101).set 110 (.int 0))))]) (pc' := 5) (by decide +kernel) rfl (ab_ov_no f1_101 rfl) (ab_klt (n := 115) (by rw [p1_n101]) (by decide)) rfl rfl (ab_ov_set rfl) rfl ?_
      refine ab_fin.s2 (i := .aload_n 0) (k := 1) (pc' := 6) (lv' := [(0, .ref 101), (1, .int ((xs 1))), (2, .int ((xs 2))), (3, .int ((xs 3)))]) (st' := [.ref 101]) (by decide +kernel) rfl rfl ?_
      refine ab_fin.s2 (i := .iload_n 1) (k := 1) (pc' := 7) (lv' := [(0, .ref 101), (1, .int ((xs 1))), (2, .int ((xs 2))), (3, .int ((xs 3)))]) (st' := [.int ((xs 1)), .ref 101]) (by decide +kernel) rfl rfl ?_
      refine ab_fin.call (i := .invokevirtual 1018) (k := 3) (y := 6001) (As := [.ref 101, .int ((xs 1))]) (rest := []) (M' := (mX23_isKind, [])) (by decide +kernel) (ab_cv rfl rfl (ab_ov_get (lt1 101 (by decide)) rfl) ⟨(Nat.le_of_ble_eq_true rfl), (Nat.le_of_ble_eq_true rfl)⟩ rfl) rfl (Nat.le_of_ble_eq_true rfl) ?_
      show ab_fin _ _ _ _ 0 [(0, .ref 101), (1, .int ((xs 1)))] [] _ _
      refine ab_fin.s2 (i := .iload_n 1) (k := 1) (pc' := 1) (lv' := [(0, .ref 101), (1, .int ((xs 1)))]) (st' := [.int ((xs 1))]) (by decide +kernel) rfl rfl ?_
      refine ab_fin.brF (c := (xs 1) < 0) (i := .ifCond .lt 15) (off := 15) (t := 16) (pc' := 4) (r := []) (by decide +kernel) rfl (by decide +kernel) rfl (by have l0 : (0 : Int32).toInt = 0 := rfl; have l3 : (3 : Int32).toInt = 3 := rfl; simp only [← Int32.toInt_inj, Int32.lt_iff_toInt_lt, Int32.le_iff_toInt_le, l0, l3] at q1 q2 ⊢; omega) ?_
      refine ab_fin.s2 (i := .iload_n 1) (k := 1) (pc' := 5) (lv' := [(0, .ref 101), (1, .int ((xs 1)))]) (st' := [.int ((xs 1))]) (by decide +kernel) rfl rfl ?_
      refine ab_fin.s2 (i := .aload_n 0) (k := 1) (pc' := 6) (lv' := [(0, .ref 101), (1, .int ((xs 1)))]) (st' := [.ref 101, .int ((xs 1))]) (by decide +kernel) rfl rfl ?_
      refine ab_fin.getf (ix := 13) (k := 4) (v := .int 3) (pc' := 9) (by decide +kernel) rfl (ab_ov_get (lt1 101 (by decide)) rfl) rfl rfl ?_
      refine ab_fin.brT (c := (3 : Int32) ≤ (xs 1)) (i := .if_icmp .ge 7) (off := 7) (t := 16) (r := []) (by decide +kernel) rfl (by decide +kernel) (by have l0 : (0 : Int32).toInt = 0 := rfl; have l3 : (3 : Int32).toInt = 3 := rfl; simp only [← Int32.toInt_inj, Int32.lt_iff_toInt_lt, Int32.le_iff_toInt_le, l0, l3] at q1 q2 ⊢; omega) ?_
      refine ab_fin.s1i (i := .iconst 0) (k := 1) (pc' := 17) (n := 0) (by decide +kernel) rfl (by decide +kernel) rfl ?_
      refine ab_fin.ret (i := .ireturn) (k := 1) (some (.int 0)) (by decide +kernel) rfl ?_
      refine ab_bk.back (pc' := 10) (st' := [.int 0]) rfl rfl ?_
      refine ab_fin.brT (c := (0 : Int32) = 0) (i := .ifCond .eq 7) (off := 7) (t := 17) (r := []) (by decide +kernel) rfl (by decide +kernel) (by decide +kernel) ?_
      refine ab_fin.s2 (i := .aload_n 0) (k := 1) (pc' := 18) (lv' := [(0, .ref 101), (1, .int ((xs 1))), (2, .int ((xs 2))), (3, .int ((xs 3)))]) (st' := [.ref 101]) (by decide +kernel) rfl rfl ?_
      refine ab_fin.s1i (i := .iconst 1) (k := 1) (pc' := 19) (n := 1) (by decide +kernel) rfl (by decide +kernel) rfl ?_
      refine ab_fin.call (i := .invokevirtual 1003) (k := 3) (y := 5993) (As := [.ref 101, .int 1]) (rest := []) (M' := (mX23_no_, [])) (by decide +kernel) (ab_cv rfl rfl (ab_ov_get (lt1 101 (by decide)) rfl) ⟨(Nat.le_of_ble_eq_true rfl), (Nat.le_of_ble_eq_true rfl)⟩ rfl) rfl (Nat.le_of_ble_eq_true rfl) ?_
      show ab_fin _ _ _ _ 0 [(0, .ref 101), (1, .int 1)] [] _ _
      refine ab_fin.s2 (i := .aload_n 0) (k := 1) (pc' := 1) (lv' := [(0, .ref 101), (1, .int 1)]) (st' := [.ref 101]) (by decide +kernel) rfl rfl ?_
      refine ab_fin.s2 (i := .iload_n 1) (k := 1) (pc' := 2) (lv' := [(0, .ref 101), (1, .int 1)]) (st' := [.int 1, .ref 101]) (by decide +kernel) rfl rfl ?_
      refine ab_fin.putf (ix := 1000) (h1 := ab_ov h1 [(101, .inr (.inr (24, (p1_o101).set 110 (.int 1))))]) (pc' := 5) (by decide +kernel) rfl (ab_ov_get (lt1 101 (by decide)) rfl) (ab_klt (n := 115) (by rw [List.length_set, p1_n101]) (by decide)) rfl rfl (ab_ov_set rfl) rfl ?_
      refine ab_fin.s1i (i := .iconst 0) (k := 1) (pc' := 6) (n := 0) (by decide +kernel) rfl (by decide +kernel) rfl ?_
      refine ab_fin.ret (i := .ireturn) (k := 1) (some (.int 0)) (by decide +kernel) rfl ?_
      refine ab_bk.back (pc' := 22) (st' := [.int 0]) rfl rfl ?_
      refine ab_fin.ret (i := .ireturn) (k := 1) (some (.int 0)) (by decide +kernel) rfl ?_
      refine ab_bk.back (pc' := 630) (st' := [.int 0]) rfl rfl ?_
      refine ab_fin.s2 (i := .istore 6) (k := 2) (pc' := 632) (lv' := [(6, .int 0), (5, .int 1), (4, .int 0), (3, .ref 3466), (2, .ref 101), (1, .ref 0), (0, .retAddr 9)]) (st' := []) (by decide +kernel) rfl rfl ?_
      refine ab_fin.s2 (i := .aload_n 2) (k := 1) (pc' := 633) (lv' := [(6, .int 0), (5, .int 1), (4, .int 0), (3, .ref 3466), (2, .ref 101), (1, .ref 0), (0, .retAddr 9)]) (st' := [.ref 101]) (by decide +kernel) rfl rfl ?_
      refine ab_fin.call (i := .invokevirtual 75) (k := 3) (y := 5992) (As := [.ref 101]) (rest := []) (M' := (mX23_thrown, [])) (by decide +kernel) (ab_cv rfl rfl (ab_ov_get (lt1 101 (by decide)) rfl) ⟨(Nat.le_of_ble_eq_true rfl), (Nat.le_of_ble_eq_true rfl)⟩ rfl) rfl (Nat.le_of_ble_eq_true rfl) ?_
      show ab_fin _ _ _ _ 0 [(0, .ref 101)] [] _ _
      refine ab_fin.s2 (i := .aload_n 0) (k := 1) (pc' := 1) (lv' := [(0, .ref 101)]) (st' := [.ref 101]) (by decide +kernel) rfl rfl ?_
      refine ab_fin.getf (ix := 1000) (k := 110) (v := .int 1) (pc' := 4) (by decide +kernel) rfl (ab_ov_get (lt1 101 (by decide)) rfl) rfl rfl ?_
      refine ab_fin.ret (i := .ireturn) (k := 1) (some (.int 1)) (by decide +kernel) rfl ?_
      refine ab_bk.back (pc' := 636) (st' := [.int 1]) rfl rfl ?_
      refine ab_fin.s2 (i := .iload 5) (k := 2) (pc' := 638) (lv' := [(6, .int 0), (5, .int 1), (4, .int 0), (3, .ref 3466), (2, .ref 101), (1, .ref 0), (0, .retAddr 9)]) (st' := [.int 1, .int 1]) (by decide +kernel) rfl rfl ?_
      refine ab_fin.brT (c := (1 : Int32) = (1 : Int32)) (i := .if_icmp .eq 5) (off := 5) (t := 643) (r := []) (by decide +kernel) rfl (by decide +kernel) (by decide +kernel) ?_
      refine ab_fin.s2 (i := .iload 5) (k := 2) (pc' := 645) (lv' := [(6, .int 0), (5, .int 1), (4, .int 0), (3, .ref 3466), (2, .ref 101), (1, .ref 0), (0, .retAddr 9)]) (st' := [.int 1]) (by decide +kernel) rfl rfl ?_
      refine ab_fin.brT (c := ¬ (1 : Int32) = 0) (i := .ifCond .ne 15) (off := 15) (t := 660) (r := []) (by decide +kernel) rfl (by decide +kernel) (by decide +kernel) ?_
      refine ab_fin.s3 (i := .goto 430) (k := 3) (t := 1090) (st' := []) (by decide +kernel) (ab_goto (by decide +kernel)) ?_
      refine ab_fin.inc (i := .iinc 4 6) (k := 3) (pc' := 1093) (j := 4) (n := 6) (lv' := [(6, .int 0), (5, .int 1), (3, .ref 3466), (2, .ref 101), (1, .ref 0), (0, .retAddr 9)]) (by decide +kernel) rfl (by decide +kernel) rfl ?_
      refine ab_fin.s3 (i := .goto (-1070)) (k := 3) (t := 23) (st' := []) (by decide +kernel) (ab_goto (by decide +kernel)) ?_
      refine ab_fin.s2 (i := .iload 4) (k := 2) (pc' := 25) (lv' := [(4, .int 6), (6, .int 0), (5, .int 1), (3, .ref 3466), (2, .ref 101), (1, .ref 0), (0, .retAddr 9)]) (st' := [.int 6]) (by decide +kernel) rfl rfl ?_
      refine ab_fin.s2 (i := .aload_n 0) (k := 1) (pc' := 26) (lv' := [(4, .int 6), (6, .int 0), (5, .int 1), (3, .ref 3466), (2, .ref 101), (1, .ref 0), (0, .retAddr 9)]) (st' := [.retAddr 9, .int 6]) (by decide +kernel) rfl rfl ?_
      refine ab_fin.s8 (i := .arraylength) (k := 1) (pc' := 27) (st' := [.int 6, .int 6]) (by decide +kernel) rfl rfl rfl rfl ?_
      refine ab_fin.s1i (i := .bipush 6) (k := 2) (pc' := 29) (n := 6) (by decide +kernel) rfl (by decide +kernel) rfl ?_
      refine ab_fin.s1i (i := .isub) (k := 1) (pc' := 30) (n := 0) (by decide +kernel) rfl (by decide +kernel) rfl ?_
      refine ab_fin.brT (c := (0 : Int32) < (6 : Int32)) (i := .if_icmp .gt 1066) (off := 1066) (t := 1096) (r := []) (by decide +kernel) rfl (by decide +kernel) (by decide +kernel) ?_
      refine ab_fin.s1i (i := .iconst 1) (k := 1) (pc' := 1097) (n := 1) (by decide +kernel) rfl (by decide +kernel) rfl ?_
      refine ab_fin.ret (i := .ireturn) (k := 1) (some (.int 1)) (by decide +kernel) rfl ?_
      refine ⟨rfl, ?_, ?_⟩
      · rw [ab_ov_len, hl1]; decide
      · refine Nat.le_trans (ab_ov_z _ _) ?_
        simp only [List.map, List.sum_cons, List.sum_nil, ab_z1, ab_len, List.length_set, List.length_replicate, List.length_cons, List.length_nil, p1_n101]
        have z1 : ab_z h1 = _ := hz1
        omega
    · refine ab_fin.s1i (i := .iconst 1) (k := 1) (pc' := 15) (n := 1) (by decide +kernel) rfl (by decide +kernel) rfl ?_
      refine ab_fin.s3 (i := .goto 4) (k := 3) (t := 19) (st' := [.int 1]) (by decide +kernel) (ab_goto (by decide +kernel)) ?_
      refine ab_fin.ret (i := .ireturn) (k := 1) (some (.int 1)) (by decide +kernel) rfl ?_
      refine ab_bk.back (pc' := 8) (st' := [.int 1]) rfl rfl ?_
      refine ab_fin.brF (c := (1 : Int32) = 0) (i := .ifCond .eq 7) (off := 7) (t := 15) (pc' := 11) (r := []) (by decide +kernel) rfl (by decide +kernel) rfl (by decide +kernel) ?_
      refine ab_fin.s2 (i := .iload_n 3) (k := 1) (pc' := 12) (lv' := [(0, .ref 0), (1, .int ((xs 1))), (2, .int ((xs 2))), (3, .int ((xs 3)))]) (st' := [.int ((xs 3))]) (by decide +kernel) rfl rfl ?_
      refine ab_fin.br (c := 0 ≤ (xs 3)) (i := .ifCond .ge 11) (off := 11) (t := 23) (pc' := 15) (r := []) (by decide +kernel) rfl (by decide +kernel) rfl (fun q3 => ?_) (fun q3 => ?_)
      · refine ab_fin.s2 (i := .iload_n 2) (k := 1) (pc' := 24) (lv' := [(0, .ref 0), (1, .int ((xs 1))), (2, .int ((xs 2))), (3, .int ((xs 3)))]) (st' := [.int ((xs 2))]) (by decide +kernel) rfl rfl ?_
        refine ab_fin.br (c := (xs 2) < 0) (i := .ifCond .lt 8) (off := 8) (t := 32) (pc' := 27) (r := []) (by decide +kernel) rfl (by decide +kernel) rfl (fun q4 => ?_) (fun q4 => ?_)
        · refine ab_fin.thrN (i := .new 99) (k := 3) (cls := "java/lang/IllegalArgumentException") (n := 3467) (by decide +kernel) (by decide +kernel) (fun ix q => by cases q; rfl) (by decide) (Nat.le_of_ble_eq_true rfl) ((ab_ov_len _ _).trans hl) (ab_ov_app (by rw [hl]; decide +kernel)) ?_
          obtain ⟨h1, e1⟩ : ∃ h2 : List ab_E, h2 = h ++ [.inl 6] := ⟨_, rfl⟩
          have hl1 : h1.length = 3468 := by rw [e1, List.length_append, hl]; rfl
          have lt1 : ∀ a, a < 3468 → a < h1.length := fun a q => by rw [hl1]; exact q
          have hz1 : ab_z h1 = ab_z h + 6 := by rw [e1, ab_z_app]; rfl
          have f1_0 := (show h1[0]? = h[0]? by rw [e1, List.getElem?_append_left (by rw [hl]; decide)]).trans f_0
          have f1_1 := (show h1[1]? = h[1]? by rw [e1, List.getElem?_append_left (by rw [hl]; decide)]).trans f_1
          have f1_2 := (show h1[2]? = h[2]? by rw [e1, List.getElem?_append_left (by rw [hl]; decide)]).trans f_2
          have f1_5 := (show h1[5]? = h[5]? by rw [e1, List.getElem?_append_left (by rw [hl]; decide)]).trans f_5
          have f1_7 := (show h1[7]? = h[7]? by rw [e1, List.getElem?_append_left (by rw [hl]; decide)]).trans f_7
          have f1_28 := (show h1[28]? = h[28]? by rw [e1, List.getElem?_append_left (by rw [hl]; decide)]).trans f_28
          have f1_101 := (show h1[101]? = h[101]? by rw [e1, List.getElem?_append_left (by rw [hl]; decide)]).trans f_101
          have f1_102 := (show h1[102]? = h[102]? by rw [e1, List.getElem?_append_left (by rw [hl]; decide)]).trans f_102
          have f1_2294 := (show h1[2294]? = h[2294]? by rw [e1, List.getElem?_append_left (by rw [hl]; decide)]).trans f_2294
          have f1_2298 := (show h1[2298]? = h[2298]? by rw [e1, List.getElem?_append_left (by rw [hl]; decide)]).trans f_2298
          have f1_2299 := (show h1[2299]? = h[2299]? by rw [e1, List.getElem?_append_left (by rw [hl]; decide)]).trans f_2299
          have f1_2300 := (show h1[2300]? = h[2300]? by rw [e1, List.getElem?_append_left (by rw [hl]; decide)]).trans f_2300
          have f1_2301 := (show h1[2301]? = h[2301]? by rw [e1, List.getElem?_append_left (by rw [hl]; decide)]).trans f_2301
          have f1_2302 := (show h1[2302]? = h[2302]? by rw [e1, List.getElem?_append_left (by rw [hl]; decide)]).trans f_2302
          have f1_2303 := (show h1[2303]? = h[2303]? by rw [e1, List.getElem?_append_left (by rw [hl]; decide)]).trans f_2303
          have f1_2307 := (show h1[2307]? = h[2307]? by rw [e1, List.getElem?_append_left (by rw [hl]; decide)]).trans f_2307
          have f1_2308 := (show h1[2308]? = h[2308]? by rw [e1, List.getElem?_append_left (by rw [hl]; decide)]).trans f_2308
          have f1_2309 := (show h1[2309]? = h[2309]? by rw [e1, List.getElem?_append_left (by rw [hl]; decide)]).trans f_2309
          have f1_2310 := (show h1[2310]? = h[2310]? by rw [e1, List.getElem?_append_left (by rw [hl]; decide)]).trans f_2310
          have f1_2311 := (show h1[2311]? = h[2311]? by rw [e1, List.getElem?_append_left (by rw [hl]; decide)]).trans f_2311
          have f1_2312 := (show h1[2312]? = h[2312]? by rw [e1, List.getElem?_append_left (by rw [hl]; decide)]).trans f_2312
          have f1_2316 := (show h1[2316]? = h[2316]? by rw [e1, List.getElem?_append_left (by rw [hl]; decide)]).trans f_2316
          have f1_2317 := (show h1[2317]? = h[2317]? by rw [e1, List.getElem?_append_left (by rw [hl]; decide)]).trans f_2317
          have f1_2318 := (show h1[2318]? = h[2318]? by rw [e1, List.getElem?_append_left (by rw [hl]; decide)]).trans f_2318
          have f1_2319 := (show h1[2319]? = h[2319]? by rw [e1, List.getElem?_append_left (by rw [hl]; decide)]).trans f_2319
          have f1_2320 := (show h1[2320]? = h[2320]? by rw [e1, List.getElem?_append_left (by rw [hl]; decide)]).trans f_2320
          have f1_3466 := (show h1[3466]? = h[3466]? by rw [e1, List.getElem?_append_left (by rw [hl]; decide)]).trans f_3466
          rw [← e1]
          refine ab_bk.catch (hp := 19) (by decide +kernel) rfl ?_
          refine ab_fin.s2 (i := .astore 5) (k := 2) (pc' := 21) (lv' := [(5, .ref 3467), (0, .ref 0), (1, .int ((xs 1))), (2, .int ((xs 2))), (3, .int ((xs 3))), (4, .ref 3466)]) (st' := []) (by decide +kernel) rfl rfl ?_
          refine ab_fin.s1i (i := .iconst 2) (k := 1) (pc' := 22) (n := 2) (by decide +kernel) rfl (by decide +kernel) rfl ?_
          refine ab_fin.ret (i := .ireturn) (k := 1) (some (.int 2)) (by decide +kernel) rfl ?_
          refine ab_bk.back (pc' := 606) (st' := [.int 2]) rfl rfl ?_
          refine ab_fin.s2 (i := .istore 5) (k := 2) (pc' := 608) (lv' := [(5, .int 2), (4, .int 0), (3, .ref 3466), (2, .ref 101), (1, .ref 0), (0, .retAddr 9)]) (st' := []) (by decide +kernel) rfl rfl ?_
          refine ab_fin.s2 (i := .aload_n 2) (k := 1) (pc' := 609) (lv' := [(5, .int 2), (4, .int 0), (3, .ref 3466), (2, .ref 101), (1, .ref 0), (0, .retAddr 9)]) (st' := [.ref 101]) (by decide +kernel) rfl rfl ?_
          refine ab_fin.s2 (i := .aload_n 0) (k := 1) (pc' := 610) (lv' := [(5, .int 2), (4, .int 0), (3, .ref 3466), (2, .ref 101), (1, .ref 0), (0, .retAddr 9)]) (st' := [.retAddr 9, .ref 101]) (by decide +kernel) rfl rfl ?_
          refine ab_fin.s2 (i := .iload 4) (k := 2) (pc' := 612) (lv' := [(5, .int 2), (4, .int 0), (3, .ref 3466), (2, .ref 101), (1, .ref 0), (0, .retAddr 9)]) (st' := [.int 0, .retAddr 9, .ref 101]) (by decide +kernel) rfl rfl ?_
          refine ab_fin.s1i (i := .iconst 1) (k := 1) (pc' := 613) (n := 1) (by decide +kernel) rfl (by decide +kernel) rfl ?_
          refine ab_fin.s1i (i := .iadd) (k := 1) (pc' := 614) (n := 1) (by decide +kernel) rfl (by decide +kernel) rfl ?_
          refine ab_fin.s8 (i := .iaload) (k := 1) (pc' := 615) (st' := [.int ((xs 1)), .ref 101]) (by decide +kernel) (ab_x0 rfl (by decide +kernel) rfl) rfl rfl rfl ?_
          refine ab_fin.s2 (i := .aload_n 0) (k := 1) (pc' := 616) (lv' := [(5, .int 2), (4, .int 0), (3, .ref 3466), (2, .ref 101), (1, .ref 0), (0, .retAddr 9)]) (st' := [.retAddr 9, .int ((xs 1)), .ref 101]) (by decide +kernel) rfl rfl ?_
          refine ab_fin.s2 (i := .iload 4) (k := 2) (pc' := 618) (lv' := [(5, .int 2), (4, .int 0), (3, .ref 3466), (2, .ref 101), (1, .ref 0), (0, .retAddr 9)]) (st' := [.int 0, .retAddr 9, .int ((xs 1)), .ref 101]) (by decide +kernel) rfl rfl ?_
          refine ab_fin.s1i (i := .iconst 2) (k := 1) (pc' := 619) (n := 2) (by decide +kernel) rfl (by decide +kernel) rfl ?_
          refine ab_fin.s1i (i := .iadd) (k := 1) (pc' := 620) (n := 2) (by decide +kernel) rfl (by decide +kernel) rfl ?_
          refine ab_fin.s8 (i := .iaload) (k := 1) (pc' := 621) (st' := [.int ((xs 2)), .int ((xs 1)), .ref 101]) (by decide +kernel) (ab_x0 rfl (by decide +kernel) rfl) rfl rfl rfl ?_
          refine ab_fin.s2 (i := .aload_n 0) (k := 1) (pc' := 622) (lv' := [(5, .int 2), (4, .int 0), (3, .ref 3466), (2, .ref 101), (1, .ref 0), (0, .retAddr 9)]) (st' := [.retAddr 9, .int ((xs 2)), .int ((xs 1)), .ref 101]) (by decide +kernel) rfl rfl ?_
          refine ab_fin.s2 (i := .iload 4) (k := 2) (pc' := 624) (lv' := [(5, .int 2), (4, .int 0), (3, .ref 3466), (2, .ref 101), (1, .ref 0), (0, .retAddr 9)]) (st' := [.int 0, .retAddr 9, .int ((xs 2)), .int ((xs 1)), .ref 101]) (by decide +kernel) rfl rfl ?_
          refine ab_fin.s1i (i := .iconst 3) (k := 1) (pc' := 625) (n := 3) (by decide +kernel) rfl (by decide +kernel) rfl ?_
          refine ab_fin.s1i (i := .iadd) (k := 1) (pc' := 626) (n := 3) (by decide +kernel) rfl (by decide +kernel) rfl ?_
          refine ab_fin.s8 (i := .iaload) (k := 1) (pc' := 627) (st' := [.int ((xs 3)), .int ((xs 2)), .int ((xs 1)), .ref 101]) (by decide +kernel) (ab_x0 rfl (by decide +kernel) rfl) rfl rfl rfl ?_
          refine ab_fin.call (i := .invokevirtual 110) (k := 3) (y := 6003) (As := [.ref 101, .int ((xs 1)), .int ((xs 2)), .int ((xs 3))]) (rest := []) (M' := (mX23_row, [])) (by decide +kernel) (ab_cv rfl rfl (ab_ov_no f1_101 rfl) ⟨(Nat.le_of_ble_eq_true rfl), (Nat.le_of_ble_eq_true rfl)⟩ rfl) rfl (Nat.le_of_ble_eq_true rfl) ?_
          show ab_fin _ _ _ _ 0 [(0, .ref 101), (1, .int ((xs 1))), (2, .int ((xs 2))), (3, .int ((xs 3)))] [] _ _
          refine ab_fin.s2 (i := .aload_n 0) (k := 1) (pc' := 1) (lv' := [(0, .ref 101), (1, .int ((xs 1))), (2, .int ((xs 2))), (3, .int ((xs 3)))]) (st' := [.ref 101]) (by decide +kernel) rfl rfl ?_
          refine ab_fin.s1i (i := .iconst 0) (k := 1) (pc' := 2) (n := 0) (by decide +kernel) rfl (by decide +kernel) rfl ?_
          refine ab_fin.putf (ix := 1000) (h1 := ab_ov h1 [(101, .inr (.inr (24, (p1_o101).set 110 (.int 0))))]) (pc' := 5) (by decide +kernel) rfl (ab_ov_no f1_101 rfl) (ab_klt (n := 115) (by rw [p1_n101]) (by decide)) rfl rfl (ab_ov_set rfl) rfl ?_
          refine ab_fin.s2 (i := .aload_n 0) (k := 1) (pc' := 6) (lv' := [(0, .ref 101), (1, .int ((xs 1))), (2, .int ((xs 2))), (3, .int ((xs 3)))]) (st' := [.ref 101]) (by decide +kernel) rfl rfl ?_
          refine ab_fin.s2 (i := .iload_n 1) (k := 1) (pc' := 7) (lv' := [(0, .ref 101), (1, .int ((xs 1))), (2, .int ((xs 2))), (3, .int ((xs 3)))]) (st' := [.int ((xs 1)), .ref 101]) (by decide +kernel) rfl rfl ?_
          refine ab_fin.call (i := .invokevirtual 1018) (k := 3) (y := 6001) (As := [.ref 101, .int ((xs 1))]) (rest := []) (M' := (mX23_isKind, [])) (by decide +kernel) (ab_cv rfl rfl (ab_ov_get (lt1 101 (by decide)) rfl) ⟨(Nat.le_of_ble_eq_true rfl), (Nat.le_of_ble_eq_true rfl)⟩ rfl) rfl (Nat.le_of_ble_eq_true rfl) ?_
          show ab_fin _ _ _ _ 0 [(0, .ref 101), (1, .int ((xs 1)))] [] _ _
          refine ab_fin.s2 (i := .iload_n 1) (k := 1) (pc' := 1) (lv' := [(0, .ref 101), (1, .int ((xs 1)))]) (st' := [.int ((xs 1))]) (by decide +kernel) rfl rfl ?_
          refine ab_fin.brF (c := (xs 1) < 0) (i := .ifCond .lt 15) (off := 15) (t := 16) (pc' := 4) (r := []) (by decide +kernel) rfl (by decide +kernel) rfl (by have l0 : (0 : Int32).toInt = 0 := rfl; have l3 : (3 : Int32).toInt = 3 := rfl; simp only [← Int32.toInt_inj, Int32.lt_iff_toInt_lt, Int32.le_iff_toInt_le, l0, l3] at q1 q2 q3 q4 ⊢; omega) ?_
          refine ab_fin.s2 (i := .iload_n 1) (k := 1) (pc' := 5) (lv' := [(0, .ref 101), (1, .int ((xs 1)))]) (st' := [.int ((xs 1))]) (by decide +kernel) rfl rfl ?_
          refine ab_fin.s2 (i := .aload_n 0) (k := 1) (pc' := 6) (lv' := [(0, .ref 101), (1, .int ((xs 1)))]) (st' := [.ref 101, .int ((xs 1))]) (by decide +kernel) rfl rfl ?_
          refine ab_fin.getf (ix := 13) (k := 4) (v := .int 3) (pc' := 9) (by decide +kernel) rfl (ab_ov_get (lt1 101 (by decide)) rfl) rfl rfl ?_
          refine ab_fin.brF (c := (3 : Int32) ≤ (xs 1)) (i := .if_icmp .ge 7) (off := 7) (t := 16) (pc' := 12) (r := []) (by decide +kernel) rfl (by decide +kernel) rfl (by have l0 : (0 : Int32).toInt = 0 := rfl; have l3 : (3 : Int32).toInt = 3 := rfl; simp only [← Int32.toInt_inj, Int32.lt_iff_toInt_lt, Int32.le_iff_toInt_le, l0, l3] at q1 q2 q3 q4 ⊢; omega) ?_
          refine ab_fin.s1i (i := .iconst 1) (k := 1) (pc' := 13) (n := 1) (by decide +kernel) rfl (by decide +kernel) rfl ?_
          refine ab_fin.s3 (i := .goto 4) (k := 3) (t := 17) (st' := [.int 1]) (by decide +kernel) (ab_goto (by decide +kernel)) ?_
          refine ab_fin.ret (i := .ireturn) (k := 1) (some (.int 1)) (by decide +kernel) rfl ?_
          refine ab_bk.back (pc' := 10) (st' := [.int 1]) rfl rfl ?_
          refine ab_fin.brF (c := (1 : Int32) = 0) (i := .ifCond .eq 7) (off := 7) (t := 17) (pc' := 13) (r := []) (by decide +kernel) rfl (by decide +kernel) rfl (by decide +kernel) ?_
          refine ab_fin.s2 (i := .iload_n 3) (k := 1) (pc' := 14) (lv' := [(0, .ref 101), (1, .int ((xs 1))), (2, .int ((xs 2))), (3, .int ((xs 3)))]) (st' := [.int ((xs 3))]) (by decide +kernel) rfl rfl ?_
          refine ab_fin.brT (c := 0 ≤ (xs 3)) (i := .ifCond .ge 9) (off := 9) (t := 23) (r := []) (by decide +kernel) rfl (by decide +kernel) (by have l0 : (0 : Int32).toInt = 0 := rfl; have l3 : (3 : Int32).toInt = 3 := rfl; simp only [← Int32.toInt_inj, Int32.lt_iff_toInt_lt, Int32.le_iff_toInt_le, l0, l3] at q1 q2 q3 q4 ⊢; omega) ?_
          refine ab_fin.s2 (i := .iload_n 2) (k := 1) (pc' := 24) (lv' := [(0, .ref 101), (1, .int ((xs 1))), (2, .int ((xs 2))), (3, .int ((xs 3)))]) (st' := [.int ((xs 2))]) (by decide +kernel) rfl rfl ?_
          refine ab_fin.brT (c := (xs 2) < 0) (i := .ifCond .lt 8) (off := 8) (t := 32) (r := []) (by decide +kernel) rfl (by decide +kernel) (by have l0 : (0 : Int32).toInt = 0 := rfl; have l3 : (3 : Int32).toInt = 3 := rfl; simp only [← Int32.toInt_inj, Int32.lt_iff_toInt_lt, Int32.le_iff_toInt_le, l0, l3] at q1 q2 q3 q4 ⊢; omega) ?_
          refine ab_fin.s2 (i := .aload_n 0) (k := 1) (pc' := 33) (lv' := [(0, .ref 101), (1, .int ((xs 1))), (2, .int ((xs 2))), (3, .int ((xs 3)))]) (st' := [.ref 101]) (by decide +kernel) rfl rfl ?_
          refine ab_fin.s1i (i := .iconst 2) (k := 1) (pc' := 34) (n := 2) (by decide +kernel) rfl (by decide +kernel) rfl ?_
          refine ab_fin.call (i := .invokevirtual 1003) (k := 3) (y := 5993) (As := [.ref 101, .int 2]) (rest := []) (M' := (mX23_no_, [])) (by decide +kernel) (ab_cv rfl rfl (ab_ov_get (lt1 101 (by decide)) rfl) ⟨(Nat.le_of_ble_eq_true rfl), (Nat.le_of_ble_eq_true rfl)⟩ rfl) rfl (Nat.le_of_ble_eq_true rfl) ?_
          show ab_fin _ _ _ _ 0 [(0, .ref 101), (1, .int 2)] [] _ _
          refine ab_fin.s2 (i := .aload_n 0) (k := 1) (pc' := 1) (lv' := [(0, .ref 101), (1, .int 2)]) (st' := [.ref 101]) (by decide +kernel) rfl rfl ?_
          refine ab_fin.s2 (i := .iload_n 1) (k := 1) (pc' := 2) (lv' := [(0, .ref 101), (1, .int 2)]) (st' := [.int 2, .ref 101]) (by decide +kernel) rfl rfl ?_
          refine ab_fin.putf (ix := 1000) (h1 := ab_ov h1 [(101, .inr (.inr (24, (p1_o101).set 110 (.int 2))))]) (pc' := 5) (by decide +kernel) rfl (ab_ov_get (lt1 101 (by decide)) rfl) (ab_klt (n := 115) (by rw [List.length_set, p1_n101]) (by decide)) rfl rfl (ab_ov_set rfl) rfl ?_
          refine ab_fin.s1i (i := .iconst 0) (k := 1) (pc' := 6) (n := 0) (by decide +kernel) rfl (by decide +kernel) rfl ?_
          refine ab_fin.ret (i := .ireturn) (k := 1) (some (.int 0)) (by decide +kernel) rfl ?_
          refine ab_bk.back (pc' := 37) (st' := [.int 0]) rfl rfl ?_
          refine ab_fin.ret (i := .ireturn) (k := 1) (some (.int 0)) (by decide +kernel) rfl ?_
          refine ab_bk.back (pc' := 630) (st' := [.int 0]) rfl rfl ?_
          refine ab_fin.s2 (i := .istore 6) (k := 2) (pc' := 632) (lv' := [(6, .int 0), (5, .int 2), (4, .int 0), (3, .ref 3466), (2, .ref 101), (1, .ref 0), (0, .retAddr 9)]) (st' := []) (by decide +kernel) rfl rfl ?_
          refine ab_fin.s2 (i := .aload_n 2) (k := 1) (pc' := 633) (lv' := [(6, .int 0), (5, .int 2), (4, .int 0), (3, .ref 3466), (2, .ref 101), (1, .ref 0), (0, .retAddr 9)]) (st' := [.ref 101]) (by decide +kernel) rfl rfl ?_
          refine ab_fin.call (i := .invokevirtual 75) (k := 3) (y := 5992) (As := [.ref 101]) (rest := []) (M' := (mX23_thrown, [])) (by decide +kernel) (ab_cv rfl rfl (ab_ov_get (lt1 101 (by decide)) rfl) ⟨(Nat.le_of_ble_eq_true rfl), (Nat.le_of_ble_eq_true rfl)⟩ rfl) rfl (Nat.le_of_ble_eq_true rfl) ?_
          show ab_fin _ _ _ _ 0 [(0, .ref 101)] [] _ _
          refine ab_fin.s2 (i := .aload_n 0) (k := 1) (pc' := 1) (lv' := [(0, .ref 101)]) (st' := [.ref 101]) (by decide +kernel) rfl rfl ?_
          refine ab_fin.getf (ix := 1000) (k := 110) (v := .int 2) (pc' := 4) (by decide +kernel) rfl (ab_ov_get (lt1 101 (by decide)) rfl) rfl rfl ?_
          refine ab_fin.ret (i := .ireturn) (k := 1) (some (.int 2)) (by decide +kernel) rfl ?_
          refine ab_bk.back (pc' := 636) (st' := [.int 2]) rfl rfl ?_
          refine ab_fin.s2 (i := .iload 5) (k := 2) (pc' := 638) (lv' := [(6, .int 0), (5, .int 2), (4, .int 0), (3, .ref 3466), (2, .ref 101), (1, .ref 0), (0, .retAddr 9)]) (st' := [.int 2, .int 2]) (by decide +kernel) rfl rfl ?_
          refine ab_fin.brT (c := (2 : Int32) = (2 : Int32)) (i := .if_icmp .eq 5) (off := 5) (t := 643) (r := []) (by decide +kernel) rfl (by decide +kernel) (by decide +kernel) ?_
          refine ab_fin.s2 (i := .iload 5) (k := 2) (pc' := 645) (lv' := [(6, .int 0), (5, .int 2), (4, .int 0), (3, .ref 3466), (2, .ref 101), (1, .ref 0), (0, .retAddr 9)]) (st' := [.int 2]) (by decide +kernel) rfl rfl ?_
          refine ab_fin.brT (c := ¬ (2 : Int32) = 0) (i := .ifCond .ne 15) (off := 15) (t := 660) (r := []) (by decide +kernel) rfl (by decide +kernel) (by decide +kernel) ?_
          refine ab_fin.s3 (i := .goto 430) (k := 3) (t := 1090) (st' := []) (by decide +kernel) (ab_goto (by decide +kernel)) ?_
          refine ab_fin.inc (i := .iinc 4 6) (k := 3) (pc' := 1093) (j := 4) (n := 6) (lv' := [(6, .int 0), (5, .int 2), (3, .ref 3466), (2, .ref 101), (1, .ref 0), (0, .retAddr 9)]) (by decide +kernel) rfl (by decide +kernel) rfl ?_
          refine ab_fin.s3 (i := .goto (-1070)) (k := 3) (t := 23) (st' := []) (by decide +kernel) (ab_goto (by decide +kernel)) ?_
          refine ab_fin.s2 (i := .iload 4) (k := 2) (pc' := 25) (lv' := [(4, .int 6), (6, .int 0), (5, .int 2), (3, .ref 3466), (2, .ref 101), (1, .ref 0), (0, .retAddr 9)]) (st' := [.int 6]) (by decide +kernel) rfl rfl ?_
          refine ab_fin.s2 (i := .aload_n 0) (k := 1) (pc' := 26) (lv' := [(4, .int 6), (6, .int 0), (5, .int 2), (3, .ref 3466), (2, .ref 101), (1, .ref 0), (0, .retAddr 9)]) (st' := [.retAddr 9, .int 6]) (by decide +kernel) rfl rfl ?_
          refine ab_fin.s8 (i := .arraylength) (k := 1) (pc' := 27) (st' := [.int 6, .int 6]) (by decide +kernel) rfl rfl rfl rfl ?_
          refine ab_fin.s1i (i := .bipush 6) (k := 2) (pc' := 29) (n := 6) (by decide +kernel) rfl (by decide +kernel) rfl ?_
          refine ab_fin.s1i (i := .isub) (k := 1) (pc' := 30) (n := 0) (by decide +kernel) rfl (by decide +kernel) rfl ?_
          refine ab_fin.brT (c := (0 : Int32) < (6 : Int32)) (i := .if_icmp .gt 1066) (off := 1066) (t := 1096) (r := []) (by decide +kernel) rfl (by decide +kernel) (by decide +kernel) ?_
          refine ab_fin.s1i (i := .iconst 1) (k := 1) (pc' := 1097) (n := 1) (by decide +kernel) rfl (by decide +kernel) rfl ?_
          refine ab_fin.ret (i := .ireturn) (k := 1) (some (.int 1)) (by decide +kernel) rfl ?_
          refine ⟨rfl, ?_, ?_⟩
          · rw [ab_ov_len, hl1]; decide
          · refine Nat.le_trans (ab_ov_z _ _) ?_
            simp only [List.map, List.sum_cons, List.sum_nil, ab_z1, ab_len, List.length_set, List.length_replicate, List.length_cons, List.length_nil, p1_n101]
            have z1 : ab_z h1 = _ := hz1
            omega
        · refine ab_fin.s2 (i := .iload_n 2) (k := 1) (pc' := 28) (lv' := [(0, .ref 0), (1, .int ((xs 1))), (2, .int ((xs 2))), (3, .int ((xs 3)))]) (st' := [.int ((xs 2))]) (by decide +kernel) rfl rfl ?_
          refine ab_fin.s1i (i := .iconst 3) (k := 1) (pc' := 29) (n := 3) (by decide +kernel) rfl (by decide +kernel) rfl ?_
          refine ab_fin.br (c := (xs 2) < (3 : Int32)) (i := .if_icmp .lt 11) (off := 11) (t := 40) (pc' := 32) (r := []) (by decide +kernel) rfl (by decide +kernel) rfl (fun q5 => ?_) (fun q5 => ?_)
          · refine ab_fin.s2 (i := .iload_n 3) (k := 1) (pc' := 41) (lv' := [(0, .ref 0), (1, .int ((xs 1))), (2, .int ((xs 2))), (3, .int ((xs 3)))]) (st' := [.int ((xs 3))]) (by decide +kernel) rfl rfl ?_
            refine ab_fin.s2 (i := .aload_n 0) (k := 1) (pc' := 42) (lv' := [(0, .ref 0), (1, .int ((xs 1))), (2, .int ((xs 2))), (3, .int ((xs 3)))]) (st' := [.ref 0, .int ((xs 3))]) (by decide +kernel) rfl rfl ?_
            refine ab_fin.getf (ix := 10) (k := 0) (v := .ref 1) (pc' := 45) (by decide +kernel) rfl (ab_ov_no f_0 rfl) rfl rfl ?_
            refine ab_fin.getf (ix := 160) (k := 0) (v := .ref 2) (pc' := 48) (by decide +kernel) rfl (ab_ov_no f_1 rfl) rfl rfl ?_
            refine ab_fin.getf (ix := 170) (k := 2) (v := .ref 5) (pc' := 51) (by decide +kernel) rfl (ab_ov_no f_2 rfl) rfl rfl ?_
            refine ab_fin.s2 (i := .iload_n 1) (k := 1) (pc' := 52) (lv' := [(0, .ref 0), (1, .int ((xs 1))), (2, .int ((xs 2))), (3, .int ((xs 3)))]) (st' := [.int ((xs 1)), .ref 5, .int ((xs 3))]) (by decide +kernel) rfl rfl ?_
            have q6 : (xs 1) = 0 ∨ (xs 1) = 1 ∨ (xs 1) = 2 := (by have l0 : (0 : Int32).toInt = 0 := rfl; have l1 : (1 : Int32).toInt = 1 := rfl; have l2 : (2 : Int32).toInt = 2 := rfl; have l3 : (3 : Int32).toInt = 3 := rfl; simp only [← Int32.toInt_inj, Int32.lt_iff_toInt_lt, Int32.le_iff_toInt_le, l0, l1, l2, l3] at q1 q2 q3 q4 q5 ⊢; omega)
            rcases q6 with q6 | q6 | q6
            · rw [q6]
              refine ab_fin.iald (v := 1) (pc' := 53) (by decide +kernel) (ab_ov_no f_5 rfl) (ab_bd (n := 24) (by rw [p1_n5]) (by decide +kernel)) rfl rfl ?_
              refine ab_fin.br (c := (1 : Int32) ≤ (xs 3)) (i := .if_icmp .ge 19) (off := 19) (t := 72) (pc' := 56) (r := []) (by decide +kernel) rfl (by decide +kernel) rfl (fun q7 => ?_) (fun q7 => ?_)
              · refine ab_fin.s1i (i := .iconst (-1)) (k := 1) (pc' := 73) (n := (-1)) (by decide +kernel) rfl (by decide +kernel) rfl ?_
                refine ab_fin.ret (i := .ireturn) (k := 1) (some (.int (-1))) (by decide +kernel) rfl ?_
                refine ab_bk.back (pc' := 10) (st' := [.int (-1), .int 0, .ref 3466]) rfl rfl ?_
                refine ab_fin.s1l (i := .i2l) (k := 1) (pc' := 11) (n := (-1)) (by decide +kernel) rfl (by decide +kernel) rfl ?_
                refine ab_fin.last (h1 := ab_ov h [(3466, .inr (.inl (1, .inr (.inl ((List.replicate 1 0).set 0 ((-1)))))))]) (pc' := 12) (by decide +kernel) (ab_ov_no f_3466 rfl) (ab_bd (n := 1) (by rw [List.length_replicate]) (by decide +kernel)) (ab_ov_set rfl) rfl ?_
                refine ab_fin.s3 (i := .goto 11) (k := 3) (t := 23) (st' := []) (by decide +kernel) (ab_goto (by decide +kernel)) ?_
                refine ab_fin.s1i (i := .iconst 0) (k := 1) (pc' := 24) (n := 0) (by decide +kernel) rfl (by decide +kernel) rfl ?_
                refine ab_fin.ret (i := .ireturn) (k := 1) (some (.int 0)) (by decide +kernel) rfl ?_
                refine ab_bk.back (pc' := 606) (st' := [.int 0]) rfl rfl ?_
                refine ab_fin.s2 (i := .istore 5) (k := 2) (pc' := 608) (lv' := [(5, .int 0), (4, .int 0), (3, .ref 3466), (2, .ref 101), (1, .ref 0), (0, .retAddr 9)]) (st' := []) (by decide +kernel) rfl rfl ?_
                refine ab_fin.s2 (i := .aload_n 2) (k := 1) (pc' := 609) (lv' := [(5, .int 0), (4, .int 0), (3, .ref 3466), (2, .ref 101), (1, .ref 0), (0, .retAddr 9)]) (st' := [.ref 101]) (by decide +kernel) rfl rfl ?_
                refine ab_fin.s2 (i := .aload_n 0) (k := 1) (pc' := 610) (lv' := [(5, .int 0), (4, .int 0), (3, .ref 3466), (2, .ref 101), (1, .ref 0), (0, .retAddr 9)]) (st' := [.retAddr 9, .ref 101]) (by decide +kernel) rfl rfl ?_
                refine ab_fin.s2 (i := .iload 4) (k := 2) (pc' := 612) (lv' := [(5, .int 0), (4, .int 0), (3, .ref 3466), (2, .ref 101), (1, .ref 0), (0, .retAddr 9)]) (st' := [.int 0, .retAddr 9, .ref 101]) (by decide +kernel) rfl rfl ?_
                refine ab_fin.s1i (i := .iconst 1) (k := 1) (pc' := 613) (n := 1) (by decide +kernel) rfl (by decide +kernel) rfl ?_
                refine ab_fin.s1i (i := .iadd) (k := 1) (pc' := 614) (n := 1) (by decide +kernel) rfl (by decide +kernel) rfl ?_
                refine ab_fin.s8 (i := .iaload) (k := 1) (pc' := 615) (st' := [.int ((xs 1)), .ref 101]) (by decide +kernel) (ab_x0 rfl (by decide +kernel) rfl) rfl rfl rfl ?_
                refine ab_fin.s2 (i := .aload_n 0) (k := 1) (pc' := 616) (lv' := [(5, .int 0), (4, .int 0), (3, .ref 3466), (2, .ref 101), (1, .ref 0), (0, .retAddr 9)]) (st' := [.retAddr 9, .int ((xs 1)), .ref 101]) (by decide +kernel) rfl rfl ?_
                refine ab_fin.s2 (i := .iload 4) (k := 2) (pc' := 618) (lv' := [(5, .int 0), (4, .int 0), (3, .ref 3466), (2, .ref 101), (1, .ref 0), (0, .retAddr 9)]) (st' := [.int 0, .retAddr 9, .int ((xs 1)), .ref 101]) (by decide +kernel) rfl rfl ?_
                refine ab_fin.s1i (i := .iconst 2) (k := 1) (pc' := 619) (n := 2) (by decide +kernel) rfl (by decide +kernel) rfl ?_
                refine ab_fin.s1i (i := .iadd) (k := 1) (pc' := 620) (n := 2) (by decide +kernel) rfl (by decide +kernel) rfl ?_
                refine ab_fin.s8 (i := .iaload) (k := 1) (pc' := 621) (st' := [.int ((xs 2)), .int ((xs 1)), .ref 101]) (by decide +kernel) (ab_x0 rfl (by decide +kernel) rfl) rfl rfl rfl ?_
                refine ab_fin.s2 (i := .aload_n 0) (k := 1) (pc' := 622) (lv' := [(5, .int 0), (4, .int 0), (3, .ref 3466), (2, .ref 101), (1, .ref 0), (0, .retAddr 9)]) (st' := [.retAddr 9, .int ((xs 2)), .int ((xs 1)), .ref 101]) (by decide +kernel) rfl rfl ?_
                refine ab_fin.s2 (i := .iload 4) (k := 2) (pc' := 624) (lv' := [(5, .int 0), (4, .int 0), (3, .ref 3466), (2, .ref 101), (1, .ref 0), (0, .retAddr 9)]) (st' := [.int 0, .retAddr 9, .int ((xs 2)), .int ((xs 1)), .ref 101]) (by decide +kernel) rfl rfl ?_
                refine ab_fin.s1i (i := .iconst 3) (k := 1) (pc' := 625) (n := 3) (by decide +kernel) rfl (by decide +kernel) rfl ?_
                refine ab_fin.s1i (i := .iadd) (k := 1) (pc' := 626) (n := 3) (by decide +kernel) rfl (by decide +kernel) rfl ?_
                refine ab_fin.s8 (i := .iaload) (k := 1) (pc' := 627) (st' := [.int ((xs 3)), .int ((xs 2)), .int ((xs 1)), .ref 101]) (by decide +kernel) (ab_x0 rfl (by decide +kernel) rfl) rfl rfl rfl ?_
                refine ab_fin.call (i := .invokevirtual 110) (k := 3) (y := 6003) (As := [.ref 101, .int ((xs 1)), .int ((xs 2)), .int ((xs 3))]) (rest := []) (M' := (mX23_row, [])) (by decide +kernel) (ab_cv rfl rfl (ab_ov_no f_101 rfl) ⟨(Nat.le_of_ble_eq_true rfl), (Nat.le_of_ble_eq_true rfl)⟩ rfl) rfl (Nat.le_of_ble_eq_true rfl) ?_
                show ab_fin _ _ _ _ 0 [(0, .ref 101), (1, .int ((xs 1))), (2, .int ((xs 2))), (3, .int ((xs 3)))] [] _ _
                refine ab_fin.s2 (i := .aload_n 0) (k := 1) (pc' := 1) (lv' := [(0, .ref 101), (1, .int ((xs 1))), (2, .int ((xs 2))), (3, .int ((xs 3)))]) (st' := [.ref 101]) (by decide +kernel) rfl rfl ?_
                refine ab_fin.s1i (i := .iconst 0) (k := 1) (pc' := 2) (n := 0) (by decide +kernel) rfl (by decide +kernel) rfl ?_
                refine ab_fin.putf (ix := 1000) (h1 := ab_ov h [(101, .inr (.inr (24, (p1_o101).set 110 (.int 0)))), (3466, .inr (.inl (1, .inr (.inl ((List.replicate 1 0).set 0 ((-1)))))))]) (pc' := 5) (by decide +kernel) rfl (ab_ov_no f_101 rfl) (ab_klt (n := 115) (by rw [p1_n101]) (by decide)) rfl rfl (ab_ov_set rfl) rfl ?_
                refine ab_fin.s2 (i := .aload_n 0) (k := 1) (pc' := 6) (lv' := [(0, .ref 101), (1, .int ((xs 1))), (2, .int ((xs 2))), (3, .int ((xs 3)))]) (st' := [.ref 101]) (by decide +kernel) rfl rfl ?_
                refine ab_fin.s2 (i := .iload_n 1) (k := 1) (pc' := 7) (lv' := [(0, .ref 101), (1, .int ((xs 1))), (2, .int ((xs 2))), (3, .int ((xs 3)))]) (st' := [.int ((xs 1)), .ref 101]) (by decide +kernel) rfl rfl ?_
                refine ab_fin.call (i := .invokevirtual 1018) (k := 3) (y := 6001) (As := [.ref 101, .int ((xs 1))]) (rest := []) (M' := (mX23_isKind, [])) (by decide +kernel) (ab_cv rfl rfl (ab_ov_get (lt0 101 (by decide)) rfl) ⟨(Nat.le_of_ble_eq_true rfl), (Nat.le_of_ble_eq_true rfl)⟩ rfl) rfl (Nat.le_of_ble_eq_true rfl) ?_
                show ab_fin _ _ _ _ 0 [(0, .ref 101), (1, .int ((xs 1)))] [] _ _
                refine ab_fin.s2 (i := .iload_n 1) (k := 1) (pc' := 1) (lv' := [(0, .ref 101), (1, .int ((xs 1)))]) (st' := [.int ((xs 1))]) (by decide +kernel) rfl rfl ?_
                refine ab_fin.brF (c := (xs 1) < 0) (i := .ifCond .lt 15) (off := 15) (t := 16) (pc' := 4) (r := []) (by decide +kernel) rfl (by decide +kernel) rfl (by have l0 : (0 : Int32).toInt = 0 := rfl; have l1 : (1 : Int32).toInt = 1 := rfl; have l3 : (3 : Int32).toInt = 3 := rfl; simp only [← Int32.toInt_inj, Int32.lt_iff_toInt_lt, Int32.le_iff_toInt_le, l0, l1, l3] at q1 q2 q3 q4 q5 q6 q7 ⊢; omega) ?_
                refine ab_fin.s2 (i := .iload_n 1) (k := 1) (pc' := 5) (lv' := [(0, .ref 101), (1, .int ((xs 1)))]) (st' := [.int ((xs 1))]) (by decide +kernel) rfl rfl ?_
                refine ab_fin.s2 (i := .aload_n 0) (k := 1) (pc' := 6) (lv' := [(0, .ref 101), (1, .int ((xs 1)))]) (st' := [.ref 101, .int ((xs 1))]) (by decide +kernel) rfl rfl ?_
                refine ab_fin.getf (ix := 13) (k := 4) (v := .int 3) (pc' := 9) (by decide +kernel) rfl (ab_ov_get (lt0 101 (by decide)) rfl) rfl rfl ?_
                refine ab_fin.brF (c := (3 : Int32) ≤ (xs 1)) (i := .if_icmp .ge 7) (off := 7) (t := 16) (pc' := 12) (r := []) (by decide +kernel) rfl (by decide +kernel) rfl (by have l0 : (0 : Int32).toInt = 0 := rfl; have l1 : (1 : Int32).toInt = 1 := rfl; have l3 : (3 : Int32).toInt = 3 := rfl; simp only [← Int32.toInt_inj, Int32.lt_iff_toInt_lt, Int32.le_iff_toInt_le, l0, l1, l3] at q1 q2 q3 q4 q5 q6 q7 ⊢; omega) ?_
                refine ab_fin.s1i (i := .iconst 1) (k := 1) (pc' := 13) (n := 1) (by decide +kernel) rfl (by decide +kernel) rfl ?_
                refine ab_fin.s3 (i := .goto 4) (k := 3) (t := 17) (st' := [.int 1]) (by decide +kernel) (ab_goto (by decide +kernel)) ?_
                refine ab_fin.ret (i := .ireturn) (k := 1) (some (.int 1)) (by decide +kernel) rfl ?_
                refine ab_bk.back (pc' := 10) (st' := [.int 1]) rfl rfl ?_
                refine ab_fin.brF (c := (1 : Int32) = 0) (i := .ifCond .eq 7) (off := 7) (t := 17) (pc' := 13) (r := []) (by decide +kernel) rfl (by decide +kernel) rfl (by decide +kernel) ?_
                refine ab_fin.s2 (i := .iload_n 3) (k := 1) (pc' := 14) (lv' := [(0, .ref 101), (1, .int ((xs 1))), (2, .int ((xs 2))), (3, .int ((xs 3)))]) (st' := [.int ((xs 3))]) (by decide +kernel) rfl rfl ?_
                refine ab_fin.brT (c := 0 ≤ (xs 3)) (i := .ifCond .ge 9) (off := 9) (t := 23) (r := []) (by decide +kernel) rfl (by decide +kernel) (by have l0 : (0 : Int32).toInt = 0 := rfl; have l1 : (1 : Int32).toInt = 1 := rfl; have l3 : (3 : Int32).toInt = 3 := rfl; simp only [← Int32.toInt_inj, Int32.lt_iff_toInt_lt, Int32.le_iff_toInt_le, l0, l1, l3] at q1 q2 q3 q4 q5 q6 q7 ⊢; omega) ?_
                refine ab_fin.s2 (i := .iload_n 2) (k := 1) (pc' := 24) (lv' := [(0, .ref 101), (1, .int ((xs 1))), (2, .int ((xs 2))), (3, .int ((xs 3)))]) (st' := [.int ((xs 2))]) (by decide +kernel) rfl rfl ?_
                refine ab_fin.brF (c := (xs 2) < 0) (i := .ifCond .lt 8) (off := 8) (t := 32) (pc' := 27) (r := []) (by decide +kernel) rfl (by decide +kernel) rfl (by have l0 : (0 : Int32).toInt = 0 := rfl; have l1 : (1 : Int32).toInt = 1 := rfl; have l3 : (3 : Int32).toInt = 3 := rfl; simp only [← Int32.toInt_inj, Int32.lt_iff_toInt_lt, Int32.le_iff_toInt_le, l0, l1, l3] at q1 q2 q3 q4 q5 q6 q7 ⊢; omega) ?_
                refine ab_fin.s2 (i := .iload_n 2) (k := 1) (pc' := 28) (lv' := [(0, .ref 101), (1, .int ((xs 1))), (2, .int ((xs 2))), (3, .int ((xs 3)))]) (st' := [.int ((xs 2))]) (by decide +kernel) rfl rfl ?_
                refine ab_fin.s1i (i := .iconst 2) (k := 1) (pc' := 29) (n := 2) (by decide +kernel) rfl (by decide +kernel) rfl ?_
                refine ab_fin.brT (c := (xs 2) ≤ (2 : Int32)) (i := .if_icmp .le 9) (off := 9) (t := 38) (r := []) (by decide +kernel) rfl (by decide +kernel) (by have l0 : (0 : Int32).toInt = 0 := rfl; have l1 : (1 : Int32).toInt = 1 := rfl; have l2 : (2 : Int32).toInt = 2 := rfl; have l3 : (3 : Int32).toInt = 3 := rfl; simp only [← Int32.toInt_inj, Int32.lt_iff_toInt_lt, Int32.le_iff_toInt_le, l0, l1, l2, l3] at q1 q2 q3 q4 q5 q6 q7 ⊢; omega) ?_
                refine ab_fin.s2 (i := .iload_n 3) (k := 1) (pc' := 39) (lv' := [(0, .ref 101), (1, .int ((xs 1))), (2, .int ((xs 2))), (3, .int ((xs 3)))]) (st' := [.int ((xs 3))]) (by decide +kernel) rfl rfl ?_
                refine ab_fin.s2 (i := .aload_n 0) (k := 1) (pc' := 40) (lv' := [(0, .ref 101), (1, .int ((xs 1))), (2, .int ((xs 2))), (3, .int ((xs 3)))]) (st' := [.ref 101, .int ((xs 3))]) (by decide +kernel) rfl rfl ?_
                refine ab_fin.getf (ix := 17) (k := 0) (v := .ref 102) (pc' := 43) (by decide +kernel) rfl (ab_ov_get (lt0 101 (by decide)) rfl) rfl rfl ?_
                refine ab_fin.s2 (i := .iload_n 1) (k := 1) (pc' := 44) (lv' := [(0, .ref 101), (1, .int ((xs 1))), (2, .int ((xs 2))), (3, .int ((xs 3)))]) (st' := [.int ((xs 1)), .ref 102, .int ((xs 3))]) (by decide +kernel) rfl rfl ?_
                have q8 : (xs 1) = 0 := (by have l0 : (0 : Int32).toInt = 0 := rfl; have l1 : (1 : Int32).toInt = 1 := rfl; have l3 : (3 : Int32).toInt = 3 := rfl; simp only [← Int32.toInt_inj, Int32.lt_iff_toInt_lt, Int32.le_iff_toInt_le, l0, l1, l3] at q1 q2 q3 q4 q5 q6 q7 ⊢; omega)
                rw [q8]
                refine ab_fin.aald (v := .ref 2294) (pc' := 45) (by decide +kernel) (ab_ov_no f_102 rfl) (by decide) rfl (ab_bd (n := 24) (by rw [p1_n102]) (by decide +kernel)) rfl rfl ?_
                refine ab_fin.getf (ix := 79) (k := 5) (v := .ref 2302) (pc' := 48) (by decide +kernel) rfl (ab_ov_no f_2294 rfl) rfl rfl ?_
                refine ab_fin.s2 (i := .iload_n 2) (k := 1) (pc' := 49) (lv' := [(0, .ref 101), (1, .int 0), (2, .int ((xs 2))), (3, .int ((xs 3)))]) (st' := [.int ((xs 2)), .ref 2302, .int ((xs 3))]) (by decide +kernel) rfl rfl ?_
                have q9 : (xs 2) = 0 ∨ (xs 2) = 1 ∨ (xs 2) = 2 := (by have l0 : (0 : Int32).toInt = 0 := rfl; have l1 : (1 : Int32).toInt = 1 := rfl; have l2 : (2 : Int32).toInt = 2 := rfl; have l3 : (3 : Int32).toInt = 3 := rfl; simp only [← Int32.toInt_inj, Int32.lt_iff_toInt_lt, Int32.le_iff_toInt_le, l0, l1, l2, l3] at q1 q2 q3 q4 q5 q6 q7 q8 ⊢; omega)
                rcases q9 with q9 | q9 | q9
                · rw [q9]
                  refine ab_fin.iald (v := 1) (pc' := 50) (by decide +kernel) (ab_ov_no f_2302 rfl) (ab_bd (n := 3) (by rw [List.length_replicate]) (by decide +kernel)) rfl rfl ?_
                  refine ab_fin.brT (c := (1 : Int32) ≤ (xs 3)) (i := .if_icmp .ge 19) (off := 19) (t := 69) (r := []) (by decide +kernel) rfl (by decide +kernel) (by have l0 : (0 : Int32).toInt = 0 := rfl; have l1 : (1 : Int32).toInt = 1 := rfl; have l3 : (3 : Int32).toInt = 3 := rfl; simp only [← Int32.toInt_inj, Int32.lt_iff_toInt_lt, Int32.le_iff_toInt_le, l0, l1, l3] at q1 q2 q3 q4 q5 q6 q7 q8 q9 ⊢; omega) ?_
                  refine ab_fin.s1i (i := .iconst (-1)) (k := 1) (pc' := 70) (n := (-1)) (by decide +kernel) rfl (by decide +kernel) rfl ?_
                  refine ab_fin.ret (i := .ireturn) (k := 1) (some (.int (-1))) (by decide +kernel) rfl ?_
                  refine ab_bk.back (pc' := 630) (st' := [.int (-1)]) rfl rfl ?_
                  refine ab_fin.s2 (i := .istore 6) (k := 2) (pc' := 632) (lv' := [(6, .int (-1)), (5, .int 0), (4, .int 0), (3, .ref 3466), (2, .ref 101), (1, .ref 0), (0, .retAddr 9)]) (st' := []) (by decide +kernel) rfl rfl ?_
                  refine ab_fin.s2 (i := .aload_n 2) (k := 1) (pc' := 633) (lv' := [(6, .int (-1)), (5, .int 0), (4, .int 0), (3, .ref 3466), (2, .ref 101), (1, .ref 0), (0, .retAddr 9)]) (st' := [.ref 101]) (by decide +kernel) rfl rfl ?_
                  refine ab_fin.call (i := .invokevirtual 75) (k := 3) (y := 5992) (As := [.ref 101]) (rest := []) (M' := (mX23_thrown, [])) (by decide +kernel) (ab_cv rfl rfl (ab_ov_get (lt0 101 (by decide)) rfl) ⟨(Nat.le_of_ble_eq_true rfl), (Nat.le_of_ble_eq_true rfl)⟩ rfl) rfl (Nat.le_of_ble_eq_true rfl) ?_
                  show ab_fin _ _ _ _ 0 [(0, .ref 101)] [] _ _
                  refine ab_fin.s2 (i := .aload_n 0) (k := 1) (pc' := 1) (lv' := [(0, .ref 101)]) (st' := [.ref 101]) (by decide +kernel) rfl rfl ?_
                  refine ab_fin.getf (ix := 1000) (k := 110) (v := .int 0) (pc' := 4) (by decide +kernel) rfl (ab_ov_get (lt0 101 (by decide)) rfl) rfl rfl ?_
                  refine ab_fin.ret (i := .ireturn) (k := 1) (some (.int 0)) (by decide +kernel) rfl ?_
                  refine ab_bk.back (pc' := 636) (st' := [.int 0]) rfl rfl ?_
                  refine ab_fin.s2 (i := .iload 5) (k := 2) (pc' := 638) (lv' := [(6, .int (-1)), (5, .int 0), (4, .int 0), (3, .ref 3466), (2, .ref 101), (1, .ref 0), (0, .retAddr 9)]) (st' := [.int 0, .int 0]) (by decide +kernel) rfl rfl ?_
                  refine ab_fin.brT (c := (0 : Int32) = (0 : Int32)) (i := .if_icmp .eq 5) (off := 5) (t := 643) (r := []) (by decide +kernel) rfl (by decide +kernel) (by decide +kernel) ?_
                  refine ab_fin.s2 (i := .iload 5) (k := 2) (pc' := 645) (lv' := [(6, .int (-1)), (5, .int 0), (4, .int 0), (3, .ref 3466), (2, .ref 101), (1, .ref 0), (0, .retAddr 9)]) (st' := [.int 0]) (by decide +kernel) rfl rfl ?_
                  refine ab_fin.brF (c := ¬ (0 : Int32) = 0) (i := .ifCond .ne 15) (off := 15) (t := 660) (pc' := 648) (r := []) (by decide +kernel) rfl (by decide +kernel) rfl (by decide +kernel) ?_
                  refine ab_fin.s2 (i := .aload_n 3) (k := 1) (pc' := 649) (lv' := [(6, .int (-1)), (5, .int 0), (4, .int 0), (3, .ref 3466), (2, .ref 101), (1, .ref 0), (0, .retAddr 9)]) (st' := [.ref 3466]) (by decide +kernel) rfl rfl ?_
                  refine ab_fin.s1i (i := .iconst 0) (k := 1) (pc' := 650) (n := 0) (by decide +kernel) rfl (by decide +kernel) rfl ?_
                  refine ab_fin.lald (v := (-1)) (pc' := 651) (by decide +kernel) (ab_ov_get (lt0 3466 (by decide)) rfl) (ab_bd (n := 1) (by rw [List.length_set, List.length_replicate]) (by decide +kernel)) rfl rfl ?_
                  refine ab_fin.s2 (i := .iload 6) (k := 2) (pc' := 653) (lv' := [(6, .int (-1)), (5, .int 0), (4, .int 0), (3, .ref 3466), (2, .ref 101), (1, .ref 0), (0, .retAddr 9)]) (st' := [.int (-1), .long (-1)]) (by decide +kernel) rfl rfl ?_
                  refine ab_fin.s1l (i := .i2l) (k := 1) (pc' := 654) (n := (-1)) (by decide +kernel) rfl (by decide +kernel) rfl ?_
                  refine ab_fin.s1i (i := .lcmp) (k := 1) (pc' := 655) (n := 0) (by decide +kernel) rfl (by decide +kernel) rfl ?_
                  refine ab_fin.brT (c := (0 : Int32) = 0) (i := .ifCond .eq 5) (off := 5) (t := 660) (r := []) (by decide +kernel) rfl (by decide +kernel) (by decide +kernel) ?_
                  refine ab_fin.s3 (i := .goto 430) (k := 3) (t := 1090) (st' := []) (by decide +kernel) (ab_goto (by decide +kernel)) ?_
                  refine ab_fin.inc (i := .iinc 4 6) (k := 3) (pc' := 1093) (j := 4) (n := 6) (lv' := [(6, .int (-1)), (5, .int 0), (3, .ref 3466), (2, .ref 101), (1, .ref 0), (0, .retAddr 9)]) (by decide +kernel) rfl (by decide +kernel) rfl ?_
                  refine ab_fin.s3 (i := .goto (-1070)) (k := 3) (t := 23) (st' := []) (by decide +kernel) (ab_goto (by decide +kernel)) ?_
                  refine ab_fin.s2 (i := .iload 4) (k := 2) (pc' := 25) (lv' := [(4, .int 6), (6, .int (-1)), (5, .int 0), (3, .ref 3466), (2, .ref 101), (1, .ref 0), (0, .retAddr 9)]) (st' := [.int 6]) (by decide +kernel) rfl rfl ?_
                  refine ab_fin.s2 (i := .aload_n 0) (k := 1) (pc' := 26) (lv' := [(4, .int 6), (6, .int (-1)), (5, .int 0), (3, .ref 3466), (2, .ref 101), (1, .ref 0), (0, .retAddr 9)]) (st' := [.retAddr 9, .int 6]) (by decide +kernel) rfl rfl ?_
                  refine ab_fin.s8 (i := .arraylength) (k := 1) (pc' := 27) (st' := [.int 6, .int 6]) (by decide +kernel) rfl rfl rfl rfl ?_
                  refine ab_fin.s1i (i := .bipush 6) (k := 2) (pc' := 29) (n := 6) (by decide +kernel) rfl (by decide +kernel) rfl ?_
                  refine ab_fin.s1i (i := .isub) (k := 1) (pc' := 30) (n := 0) (by decide +kernel) rfl (by decide +kernel) rfl ?_
                  refine ab_fin.brT (c := (0 : Int32) < (6 : Int32)) (i := .if_icmp .gt 1066) (off := 1066) (t := 1096) (r := []) (by decide +kernel) rfl (by decide +kernel) (by decide +kernel) ?_
                  refine ab_fin.s1i (i := .iconst 1) (k := 1) (pc' := 1097) (n := 1) (by decide +kernel) rfl (by decide +kernel) rfl ?_
                  refine ab_fin.ret (i := .ireturn) (k := 1) (some (.int 1)) (by decide +kernel) rfl ?_
                  refine ⟨rfl, ?_, ?_⟩
                  · rw [ab_ov_len, hl]; decide
                  · refine Nat.le_trans (ab_ov_z _ _) ?_
                    simp only [List.map, List.sum_cons, List.sum_nil, ab_z1, ab_len, List.length_set, List.length_replicate, List.length_cons, List.length_nil, p1_n101]
                    omega
                · rw [q9]
                  refine ab_fin.iald (v := 1) (pc' := 50) (by decide +kernel) (ab_ov_no f_2302 rfl) (ab_bd (n := 3) (by rw [List.length_replicate]) (by decide +kernel)) rfl rfl ?_
                  refine ab_fin.brT (c := (1 : Int32) ≤ (xs 3)) (i := .if_icmp .ge 19) (off := 19) (t := 69) (r := []) (by decide +kernel) rfl (by decide +kernel) (by have l0 : (0 : Int32).toInt = 0 := rfl; have l1 : (1 : Int32).toInt = 1 := rfl; have l3 : (3 : Int32).toInt = 3 := rfl; simp only [← Int32.toInt_inj, Int32.lt_iff_toInt_lt, Int32.le_iff_toInt_le, l0, l1, l3] at q1 q2 q3 q4 q5 q6 q7 q8 q9 ⊢; omega) ?_
                  refine ab_fin.s1i (i := .iconst (-1)) (k := 1) (pc' := 70) (n := (-1)) (by decide +kernel) rfl (by decide +kernel) rfl ?_
                  refine ab_fin.ret (i := .ireturn) (k := 1) (some (.int (-1))) (by decide +kernel) rfl ?_
                  refine ab_bk.back (pc' := 630) (st' := [.int (-1)]) rfl rfl ?_
                  refine ab_fin.s2 (i := .istore 6) (k := 2) (pc' := 632) (lv' := [(6, .int (-1)), (5, .int 0), (4, .int 0), (3, .ref 3466), (2, .ref 101), (1, .ref 0), (0, .retAddr 9)]) (st' := []) (by decide +kernel) rfl rfl ?_
                  refine ab_fin.s2 (i := .aload_n 2) (k := 1) (pc' := 633) (lv' := [(6, .int (-1)), (5, .int 0), (4, .int 0), (3, .ref 3466), (2, .ref 101), (1, .ref 0), (0, .retAddr 9)]) (st' := [.ref 101]) (by decide +kernel) rfl rfl ?_
                  refine ab_fin.call (i := .invokevirtual 75) (k := 3) (y := 5992) (As := [.ref 101]) (rest := []) (M' := (mX23_thrown, [])) (by decide +kernel) (ab_cv rfl rfl (ab_ov_get (lt0 101 (by decide)) rfl) ⟨(Nat.le_of_ble_eq_true rfl), (Nat.le_of_ble_eq_true rfl)⟩ rfl) rfl (Nat.le_of_ble_eq_true rfl) ?_
                  show ab_fin _ _ _ _ 0 [(0, .ref 101)] [] _ _
                  refine ab_fin.s2 (i := .aload_n 0) (k := 1) (pc' := 1) (lv' := [(0, .ref 101)]) (st' := [.ref 101]) (by decide +kernel) rfl rfl ?_
                  refine ab_fin.getf (ix := 1000) (k := 110) (v := .int 0) (pc' := 4) (by decide +kernel) rfl (ab_ov_get (lt0 101 (by decide)) rfl) rfl rfl ?_
                  refine ab_fin.ret (i := .ireturn) (k := 1) (some (.int 0)) (by decide +kernel) rfl ?_
                  refine ab_bk.back (pc' := 636) (st' := [.int 0]) rfl rfl ?_
                  refine ab_fin.s2 (i := .iload 5) (k := 2) (pc' := 638) (lv' := [(6, .int (-1)), (5, .int 0), (4, .int 0), (3, .ref 3466), (2, .ref 101), (1, .ref 0), (0, .retAddr 9)]) (st' := [.int 0, .int 0]) (by decide +kernel) rfl rfl ?_
                  refine ab_fin.brT (c := (0 : Int32) = (0 : Int32)) (i := .if_icmp .eq 5) (off := 5) (t := 643) (r := []) (by decide +kernel) rfl (by decide +kernel) (by decide +kernel) ?_
                  refine ab_fin.s2 (i := .iload 5) (k := 2) (pc' := 645) (lv' := [(6, .int (-1)), (5, .int 0), (4, .int 0), (3, .ref 3466), (2, .ref 101), (1, .ref 0), (0, .retAddr 9)]) (st' := [.int 0]) (by decide +kernel) rfl rfl ?_
                  refine ab_fin.brF (c := ¬ (0 : Int32) = 0) (i := .ifCond .ne 15) (off := 15) (t := 660) (pc' := 648) (r := []) (by decide +kernel) rfl (by decide +kernel) rfl (by decide +kernel) ?_
                  refine ab_fin.s2 (i := .aload_n 3) (k := 1) (pc' := 649) (lv' := [(6, .int (-1)), (5, .int 0), (4, .int 0), (3, .ref 3466), (2, .ref 101), (1, .ref 0), (0, .retAddr 9)]) (st' := [.ref 3466]) (by decide +kernel) rfl rfl ?_
                  refine ab_fin.s1i (i := .iconst 0) (k := 1) (pc' := 650) (n := 0) (by decide +kernel) rfl (by decide +kernel) rfl ?_
                  refine ab_fin.lald (v := (-1)) (pc' := 651) (by decide +kernel) (ab_ov_get (lt0 3466 (by decide)) rfl) (ab_bd (n := 1) (by rw [List.length_set, List.length_replicate]) (by decide +kernel)) rfl rfl ?_
                  refine ab_fin.s2 (i := .iload 6) (k := 2) (pc' := 653) (lv' := [(6, .int (-1)), (5, .int 0), (4, .int 0), (3, .ref 3466), (2, .ref 101), (1, .ref 0), (0, .retAddr 9)]) (st' := [.int (-1), .long (-1)]) (by decide +kernel) rfl rfl ?_
                  refine ab_fin.s1l (i := .i2l) (k := 1) (pc' := 654) (n := (-1)) (by decide +kernel) rfl (by decide +kernel) rfl ?_
                  refine ab_fin.s1i (i := .lcmp) (k := 1) (pc' := 655) (n := 0) (by decide +kernel) rfl (by decide +kernel) rfl ?_
                  refine ab_fin.brT (c := (0 : Int32) = 0) (i := .ifCond .eq 5) (off := 5) (t := 660) (r := []) (by decide +kernel) rfl (by decide +kernel) (by decide +kernel) ?_
                  refine ab_fin.s3 (i := .goto 430) (k := 3) (t := 1090) (st' := []) (by decide +kernel) (ab_goto (by decide +kernel)) ?_
                  refine ab_fin.inc (i := .iinc 4 6) (k := 3) (pc' := 1093) (j := 4) (n := 6) (lv' := [(6, .int (-1)), (5, .int 0), (3, .ref 3466), (2, .ref 101), (1, .ref 0), (0, .retAddr 9)]) (by decide +kernel) rfl (by decide +kernel) rfl ?_
                  refine ab_fin.s3 (i := .goto (-1070)) (k := 3) (t := 23) (st' := []) (by decide +kernel) (ab_goto (by decide +kernel)) ?_
                  refine ab_fin.s2 (i := .iload 4) (k := 2) (pc' := 25) (lv' := [(4, .int 6), (6, .int (-1)), (5, .int 0), (3, .ref 3466), (2, .ref 101), (1, .ref 0), (0, .retAddr 9)]) (st' := [.int 6]) (by decide +kernel) rfl rfl ?_
                  refine ab_fin.s2 (i := .aload_n 0) (k := 1) (pc' := 26) (lv' := [(4, .int 6), (6, .int (-1)), (5, .int 0), (3, .ref 3466), (2, .ref 101), (1, .ref 0), (0, .retAddr 9)]) (st' := [.retAddr 9, .int 6]) (by decide +kernel) rfl rfl ?_
                  refine ab_fin.s8 (i := .arraylength) (k := 1) (pc' := 27) (st' := [.int 6, .int 6]) (by decide +kernel) rfl rfl rfl rfl ?_
                  refine ab_fin.s1i (i := .bipush 6) (k := 2) (pc' := 29) (n := 6) (by decide +kernel) rfl (by decide +kernel) rfl ?_
                  refine ab_fin.s1i (i := .isub) (k := 1) (pc' := 30) (n := 0) (by decide +kernel) rfl (by decide +kernel) rfl ?_
                  refine ab_fin.brT (c := (0 : Int32) < (6 : Int32)) (i := .if_icmp .gt 1066) (off := 1066) (t := 1096) (r := []) (by decide +kernel) rfl (by decide +kernel) (by decide +kernel) ?_
                  refine ab_fin.s1i (i := .iconst 1) (k := 1) (pc' := 1097) (n := 1) (by decide +kernel) rfl (by decide +kernel) rfl ?_
                  refine ab_fin.ret (i := .ireturn) (k := 1) (some (.int 1)) (by decide +kernel) rfl ?_
                  refine ⟨rfl, ?_, ?_⟩
                  · rw [ab_ov_len, hl]; decide
                  · refine Nat.le_trans (ab_ov_z _ _) ?_
                    simp only [List.map, List.sum_cons, List.sum_nil, ab_z1, ab_len, List.length_set, List.length_replicate, List.length_cons, List.length_nil, p1_n101]
                    omega
                · rw [q9]
                  refine ab_fin.iald (v := 1) (pc' := 50) (by decide +kernel) (ab_ov_no f_2302 rfl) (ab_bd (n := 3) (by rw [List.length_replicate]) (by decide +kernel)) rfl rfl ?_
                  refine ab_fin.brT (c := (1 : Int32) ≤ (xs 3)) (i := .if_icmp .ge 19) (off := 19) (t := 69) (r := []) (by decide +kernel) rfl (by decide +kernel) (by have l0 : (0 : Int32).toInt = 0 := rfl; have l1 : (1 : Int32).toInt = 1 := rfl; have l2 : (2 : Int32).toInt = 2 := rfl; have l3 : (3 : Int32).toInt = 3 := rfl; simp only [← Int32.toInt_inj, Int32.lt_iff_toInt_lt, Int32.le_iff_toInt_le, l0, l1, l2, l3] at q1 q2 q3 q4 q5 q6 q7 q8 q9 ⊢; omega) ?_
                  refine ab_fin.s1i (i := .iconst (-1)) (k := 1) (pc' := 70) (n := (-1)) (by decide +kernel) rfl (by decide +kernel) rfl ?_
                  refine ab_fin.ret (i := .ireturn) (k := 1) (some (.int (-1))) (by decide +kernel) rfl ?_
                  refine ab_bk.back (pc' := 630) (st' := [.int (-1)]) rfl rfl ?_
                  refine ab_fin.s2 (i := .istore 6) (k := 2) (pc' := 632) (lv' := [(6, .int (-1)), (5, .int 0), (4, .int 0), (3, .ref 3466), (2, .ref 101), (1, .ref 0), (0, .retAddr 9)]) (st' := []) (by decide +kernel) rfl rfl ?_
                  refine ab_fin.s2 (i := .aload_n 2) (k := 1) (pc' := 633) (lv' := [(6, .int (-1)), (5, .int 0), (4, .int 0), (3, .ref 3466), (2, .ref 101), (1, .ref 0), (0, .retAddr 9)]) (st' := [.ref 101]) (by decide +kernel) rfl rfl ?_
                  refine ab_fin.call (i := .invokevirtual 75) (k := 3) (y := 5992) (As := [.ref 101]) (rest := []) (M' := (mX23_thrown, [])) (by decide +kernel) (ab_cv rfl rfl (ab_ov_get (lt0 101 (by decide)) rfl) ⟨(Nat.le_of_ble_eq_true rfl), (Nat.le_of_ble_eq_true rfl)⟩ rfl) rfl (Nat.le_of_ble_eq_true rfl) ?_
                  show ab_fin _ _ _ _ 0 [(0, .ref 101)] [] _ _
                  refine ab_fin.s2 (i := .aload_n 0) (k := 1) (pc' := 1) (lv' := [(0, .ref 101)]) (st' := [.ref 101]) (by decide +kernel) rfl rfl ?_
                  refine ab_fin.getf (ix := 1000) (k := 110) (v := .int 0) (pc' := 4) (by decide +kernel) rfl (ab_ov_get (lt0 101 (by decide)) rfl) rfl rfl ?_
                  refine ab_fin.ret (i := .ireturn) (k := 1) (some (.int 0)) (by decide +kernel) rfl ?_
                  refine ab_bk.back (pc' := 636) (st' := [.int 0]) rfl rfl ?_
                  refine ab_fin.s2 (i := .iload 5) (k := 2) (pc' := 638) (lv' := [(6, .int (-1)), (5, .int 0), (4, .int 0), (3, .ref 3466), (2, .ref 101), (1, .ref 0), (0, .retAddr 9)]) (st' := [.int 0, .int 0]) (by decide +kernel) rfl rfl ?_
                  refine ab_fin.brT (c := (0 : Int32) = (0 : Int32)) (i := .if_icmp .eq 5) (off := 5) (t := 643) (r := []) (by decide +kernel) rfl (by decide +kernel) (by decide +kernel) ?_
                  refine ab_fin.s2 (i := .iload 5) (k := 2) (pc' := 645) (lv' := [(6, .int (-1)), (5, .int 0), (4, .int 0), (3, .ref 3466), (2, .ref 101), (1, .ref 0), (0, .retAddr 9)]) (st' := [.int 0]) (by decide +kernel) rfl rfl ?_
                  refine ab_fin.brF (c := ¬ (0 : Int32) = 0) (i := .ifCond .ne 15) (off := 15) (t := 660) (pc' := 648) (r := []) (by decide +kernel) rfl (by decide +kernel) rfl (by decide +kernel) ?_
                  refine ab_fin.s2 (i := .aload_n 3) (k := 1) (pc' := 649) (lv' := [(6, .int (-1)), (5, .int 0), (4, .int 0), (3, .ref 3466), (2, .ref 101), (1, .ref 0), (0, .retAddr 9)]) (st' := [.ref 3466]) (by decide +kernel) rfl rfl ?_
                  refine ab_fin.s1i (i := .iconst 0) (k := 1) (pc' := 650) (n := 0) (by decide +kernel) rfl (by decide +kernel) rfl ?_
                  refine ab_fin.lald (v := (-1)) (pc' := 651) (by decide +kernel) (ab_ov_get (lt0 3466 (by decide)) rfl) (ab_bd (n := 1) (by rw [List.length_set, List.length_replicate]) (by decide +kernel)) rfl rfl ?_
                  refine ab_fin.s2 (i := .iload 6) (k := 2) (pc' := 653) (lv' := [(6, .int (-1)), (5, .int 0), (4, .int 0), (3, .ref 3466), (2, .ref 101), (1, .ref 0), (0, .retAddr 9)]) (st' := [.int (-1), .long (-1)]) (by decide +kernel) rfl rfl ?_
                  refine ab_fin.s1l (i := .i2l) (k := 1) (pc' := 654) (n := (-1)) (by decide +kernel) rfl (by decide +kernel) rfl ?_
                  refine ab_fin.s1i (i := .lcmp) (k := 1) (pc' := 655) (n := 0) (by decide +kernel) rfl (by decide +kernel) rfl ?_
                  refine ab_fin.brT (c := (0 : Int32) = 0) (i := .ifCond .eq 5) (off := 5) (t := 660) (r := []) (by decide +kernel) rfl (by decide +kernel) (by decide +kernel) ?_
                  refine ab_fin.s3 (i := .goto 430) (k := 3) (t := 1090) (st' := []) (by decide +kernel) (ab_goto (by decide +kernel)) ?_
                  refine ab_fin.inc (i := .iinc 4 6) (k := 3) (pc' := 1093) (j := 4) (n := 6) (lv' := [(6, .int (-1)), (5, .int 0), (3, .ref 3466), (2, .ref 101), (1, .ref 0), (0, .retAddr 9)]) (by decide +kernel) rfl (by decide +kernel) rfl ?_
                  refine ab_fin.s3 (i := .goto (-1070)) (k := 3) (t := 23) (st' := []) (by decide +kernel) (ab_goto (by decide +kernel)) ?_
                  refine ab_fin.s2 (i := .iload 4) (k := 2) (pc' := 25) (lv' := [(4, .int 6), (6, .int (-1)), (5, .int 0), (3, .ref 3466), (2, .ref 101), (1, .ref 0), (0, .retAddr 9)]) (st' := [.int 6]) (by decide +kernel) rfl rfl ?_
                  refine ab_fin.s2 (i := .aload_n 0) (k := 1) (pc' := 26) (lv' := [(4, .int 6), (6, .int (-1)), (5, .int 0), (3, .ref 3466), (2, .ref 101), (1, .ref 0), (0, .retAddr 9)]) (st' := [.retAddr 9, .int 6]) (by decide +kernel) rfl rfl ?_
                  refine ab_fin.s8 (i := .arraylength) (k := 1) (pc' := 27) (st' := [.int 6, .int 6]) (by decide +kernel) rfl rfl rfl rfl ?_
                  refine ab_fin.s1i (i := .bipush 6) (k := 2) (pc' := 29) (n := 6) (by decide +kernel) rfl (by decide +kernel) rfl ?_
                  refine ab_fin.s1i (i := .isub) (k := 1) (pc' := 30) (n := 0) (by decide +kernel) rfl (by decide +kernel) rfl ?_
                  refine ab_fin.brT (c := (0 : Int32) < (6 : Int32)) (i := .if_icmp .gt 1066) (off := 1066) (t := 1096) (r := []) (by decide +kernel) rfl (by decide +kernel) (by decide +kernel) ?_
                  refine ab_fin.s1i (i := .iconst 1) (k := 1) (pc' := 1097) (n := 1) (by decide +kernel) rfl (by decide +kernel) rfl ?_
                  refine ab_fin.ret (i := .ireturn) (k := 1) (some (.int 1)) (by decide +kernel) rfl ?_
                  refine ⟨rfl, ?_, ?_⟩
                  · rw [ab_ov_len, hl]; decide
                  · refine Nat.le_trans (ab_ov_z _ _) ?_
                    simp only [List.map, List.sum_cons, List.sum_nil, ab_z1, ab_len, List.length_set, List.length_replicate, List.length_cons, List.length_nil, p1_n101]
                    omega
              · refine ab_fin.s2 (i := .aload_n 0) (k := 1) (pc' := 57) (lv' := [(0, .ref 0), (1, .int 0), (2, .int ((xs 2))), (3, .int ((xs 3)))]) (st' := [.ref 0]) (by decide +kernel) rfl rfl ?_
                refine ab_fin.getf (ix := 10) (k := 0) (v := .ref 1) (pc' := 60) (by decide +kernel) rfl (ab_ov_no f_0 rfl) rfl rfl ?_
                refine ab_fin.getf (ix := 160) (k := 0) (v := .ref 2) (pc' := 63) (by decide +kernel) rfl (ab_ov_no f_1 rfl) rfl rfl ?_
                refine ab_fin.s2 (i := .iload_n 2) (k := 1) (pc' := 64) (lv' := [(0, .ref 0), (1, .int 0), (2, .int ((xs 2))), (3, .int ((xs 3)))]) (st' := [.int ((xs 2)), .ref 2]) (by decide +kernel) rfl rfl ?_
                refine ab_fin.s2 (i := .iload_n 1) (k := 1) (pc' := 65) (lv' := [(0, .ref 0), (1, .int 0), (2, .int ((xs 2))), (3, .int ((xs 3)))]) (st' := [.int 0, .int ((xs 2)), .ref 2]) (by decide +kernel) rfl rfl ?_
                refine ab_fin.s2 (i := .iload_n 3) (k := 1) (pc' := 66) (lv' := [(0, .ref 0), (1, .int 0), (2, .int ((xs 2))), (3, .int ((xs 3)))]) (st' := [.int ((xs 3)), .int 0, .int ((xs 2)), .ref 2]) (by decide +kernel) rfl rfl ?_
                refine ab_fin.call (i := .invokevirtual 173) (k := 3) (y := 514) (As := [.ref 2, .int ((xs 2)), .int 0, .int ((xs 3))]) (rest := []) (M' := (mX2_inRow, [])) (by decide +kernel) (ab_cv rfl rfl (ab_ov_no f_2 rfl) ⟨(Nat.le_of_ble_eq_true rfl), (Nat.le_of_ble_eq_true rfl)⟩ rfl) rfl (Nat.le_of_ble_eq_true rfl) ?_
                show ab_fin _ _ _ _ 0 [(0, .ref 2), (1, .int ((xs 2))), (2, .int 0), (3, .int ((xs 3)))] [] _ _
                refine ab_fin.s2 (i := .aload_n 0) (k := 1) (pc' := 1) (lv' := [(0, .ref 2), (1, .int ((xs 2))), (2, .int 0), (3, .int ((xs 3)))]) (st' := [.ref 2]) (by decide +kernel) rfl rfl ?_
                refine ab_fin.getf (ix := 25) (k := 5) (v := .ref 7) (pc' := 4) (by decide +kernel) rfl (ab_ov_no f_2 rfl) rfl rfl ?_
                refine ab_fin.s2 (i := .iload_n 1) (k := 1) (pc' := 5) (lv' := [(0, .ref 2), (1, .int ((xs 2))), (2, .int 0), (3, .int ((xs 3)))]) (st' := [.int ((xs 2)), .ref 7]) (by decide +kernel) rfl rfl ?_
                refine ab_fin.s1i (i := .bipush 24) (k := 2) (pc' := 7) (n := 24) (by decide +kernel) rfl (by decide +kernel) rfl ?_
                refine ab_fin.s1 (i := .imul) (k := 1) (pc' := 8) (st' := [.int (((xs 2) * (24 : Int32))), .ref 7]) (by decide +kernel) rfl rfl ?_
                refine ab_fin.s2 (i := .iload_n 2) (k := 1) (pc' := 9) (lv' := [(0, .ref 2), (1, .int ((xs 2))), (2, .int 0), (3, .int ((xs 3)))]) (st' := [.int 0, .int (((xs 2) * (24 : Int32))), .ref 7]) (by decide +kernel) rfl rfl ?_
                refine ab_fin.s1 (i := .iadd) (k := 1) (pc' := 10) (st' := [.int ((((xs 2) * (24 : Int32)) + (0 : Int32))), .ref 7]) (by decide +kernel) rfl rfl ?_
                refine ab_fin.s1i (i := .bipush 24) (k := 2) (pc' := 12) (n := 24) (by decide +kernel) rfl (by decide +kernel) rfl ?_
                refine ab_fin.s1 (i := .imul) (k := 1) (pc' := 13) (st' := [.int (((((xs 2) * (24 : Int32)) + (0 : Int32)) * (24 : Int32))), .ref 7]) (by decide +kernel) rfl rfl ?_
                refine ab_fin.s2 (i := .iload_n 3) (k := 1) (pc' := 14) (lv' := [(0, .ref 2), (1, .int ((xs 2))), (2, .int 0), (3, .int ((xs 3)))]) (st' := [.int ((xs 3)), .int (((((xs 2) * (24 : Int32)) + (0 : Int32)) * (24 : Int32))), .ref 7]) (by decide +kernel) rfl rfl ?_
                refine ab_fin.s1 (i := .iadd) (k := 1) (pc' := 15) (st' := [.int ((((((xs 2) * (24 : Int32)) + (0 : Int32)) * (24 : Int32)) + (xs 3))), .ref 7]) (by decide +kernel) rfl rfl ?_
                have q10 : (xs 3) = 0 := (by have l0 : (0 : Int32).toInt = 0 := rfl; have l1 : (1 : Int32).toInt = 1 := rfl; have l3 : (3 : Int32).toInt = 3 := rfl; simp only [← Int32.toInt_inj, Int32.lt_iff_toInt_lt, Int32.le_iff_toInt_le, l0, l1, l3] at q1 q2 q3 q4 q5 q6 q7 ⊢; omega)
                rw [q10]
                have q11 : (xs 2) = 0 ∨ (xs 2) = 1 ∨ (xs 2) = 2 := (by have l0 : (0 : Int32).toInt = 0 := rfl; have l1 : (1 : Int32).toInt = 1 := rfl; have l2 : (2 : Int32).toInt = 2 := rfl; have l3 : (3 : Int32).toInt = 3 := rfl; simp only [← Int32.toInt_inj, Int32.lt_iff_toInt_lt, Int32.le_iff_toInt_le, l0, l1, l2, l3] at q1 q2 q3 q4 q5 q6 q7 q10 ⊢; omega)
                rcases q11 with q11 | q11 | q11
                · rw [q11]
                  try rw [show ((((0 * (24 : Int32)) + (0 : Int32)) * (24 : Int32)) + 0) = (0 : Int32) by decide +kernel]
                  refine ab_fin.iald (v := 0) (pc' := 16) (by decide +kernel) (ab_ov_no f_7 rfl) (ab_bd (n := 1728) (by rw [p1_n7]) (by decide +kernel)) rfl rfl ?_
                  refine ab_fin.ret (i := .ireturn) (k := 1) (some (.int 0)) (by decide +kernel) rfl ?_
                  refine ab_bk.back (pc' := 69) (st' := [.int 0]) rfl rfl ?_
                  refine ab_fin.s3 (i := .goto 4) (k := 3) (t := 73) (st' := [.int 0]) (by decide +kernel) (ab_goto (by decide +kernel)) ?_
                  refine ab_fin.ret (i := .ireturn) (k := 1) (some (.int 0)) (by decide +kernel) rfl ?_
                  refine ab_bk.back (pc' := 10) (st' := [.int 0, .int 0, .ref 3466]) rfl rfl ?_
                  refine ab_fin.s1l (i := .i2l) (k := 1) (pc' := 11) (n := 0) (by decide +kernel) rfl (by decide +kernel) rfl ?_
                  refine ab_fin.last (h1 := ab_ov h [(3466, .inr (.inl (1, .inr (.inl ((List.replicate 1 0).set 0 (0))))))]) (pc' := 12) (by decide +kernel) (ab_ov_no f_3466 rfl) (ab_bd (n := 1) (by rw [List.length_replicate]) (by decide +kernel)) (ab_ov_set rfl) rfl ?_
                  refine ab_fin.s3 (i := .goto 11) (k := 3) (t := 23) (st' := []) (by decide +kernel) (ab_goto (by decide +kernel)) ?_
                  refine ab_fin.s1i (i := .iconst 0) (k := 1) (pc' := 24) (n := 0) (by decide +kernel) rfl (by decide +kernel) rfl ?_
                  refine ab_fin.ret (i := .ireturn) (k := 1) (some (.int 0)) (by decide +kernel) rfl ?_
                  refine ab_bk.back (pc' := 606) (st' := [.int 0]) rfl rfl ?_
                  refine ab_fin.s2 (i := .istore 5) (k := 2) (pc' := 608) (lv' := [(5, .int 0), (4, .int 0), (3, .ref 3466), (2, .ref 101), (1, .ref 0), (0, .retAddr 9)]) (st' := []) (by decide +kernel) rfl rfl ?_
                  refine ab_fin.s2 (i := .aload_n 2) (k := 1) (pc' := 609) (lv' := [(5, .int 0), (4, .int 0), (3, .ref 3466), (2, .ref 101), (1, .ref 0), (0, .retAddr 9)]) (st' := [.ref 101]) (by decide +kernel) rfl rfl ?_
                  refine ab_fin.s2 (i := .aload_n 0) (k := 1) (pc' := 610) (lv' := [(5, .int 0), (4, .int 0), (3, .ref 3466), (2, .ref 101), (1, .ref 0), (0, .retAddr 9)]) (st' := [.retAddr 9, .ref 101]) (by decide +kernel) rfl rfl ?_
                  refine ab_fin.s2 (i := .iload 4) (k := 2) (pc' := 612) (lv' := [(5, .int 0), (4, .int 0), (3, .ref 3466), (2, .ref 101), (1, .ref 0), (0, .retAddr 9)]) (st' := [.int 0, .retAddr 9, .ref 101]) (by decide +kernel) rfl rfl ?_
                  refine ab_fin.s1i (i := .iconst 1) (k := 1) (pc' := 613) (n := 1) (by decide +kernel) rfl (by decide +kernel) rfl ?_
                  refine ab_fin.s1i (i := .iadd) (k := 1) (pc' := 614) (n := 1) (by decide +kernel) rfl (by decide +kernel) rfl ?_
                  refine ab_fin.s8 (i := .iaload) (k := 1) (pc' := 615) (st' := [.int ((xs 1)), .ref 101]) (by decide +kernel) (ab_x0 rfl (by decide +kernel) rfl) rfl rfl rfl ?_
                  refine ab_fin.s2 (i := .aload_n 0) (k := 1) (pc' := 616) (lv' := [(5, .int 0), (4, .int 0), (3, .ref 3466), (2, .ref 101), (1, .ref 0), (0, .retAddr 9)]) (st' := [.retAddr 9, .int ((xs 1)), .ref 101]) (by decide +kernel) rfl rfl ?_
                  refine ab_fin.s2 (i := .iload 4) (k := 2) (pc' := 618) (lv' := [(5, .int 0), (4, .int 0), (3, .ref 3466), (2, .ref 101), (1, .ref 0), (0, .retAddr 9)]) (st' := [.int 0, .retAddr 9, .int ((xs 1)), .ref 101]) (by decide +kernel) rfl rfl ?_
                  refine ab_fin.s1i (i := .iconst 2) (k := 1) (pc' := 619) (n := 2) (by decide +kernel) rfl (by decide +kernel) rfl ?_
                  refine ab_fin.s1i (i := .iadd) (k := 1) (pc' := 620) (n := 2) (by decide +kernel) rfl (by decide +kernel) rfl ?_
                  refine ab_fin.s8 (i := .iaload) (k := 1) (pc' := 621) (st' := [.int ((xs 2)), .int ((xs 1)), .ref 101]) (by decide +kernel) (ab_x0 rfl (by decide +kernel) rfl) rfl rfl rfl ?_
                  refine ab_fin.s2 (i := .aload_n 0) (k := 1) (pc' := 622) (lv' := [(5, .int 0), (4, .int 0), (3, .ref 3466), (2, .ref 101), (1, .ref 0), (0, .retAddr 9)]) (st' := [.retAddr 9, .int ((xs 2)), .int ((xs 1)), .ref 101]) (by decide +kernel) rfl rfl ?_
                  refine ab_fin.s2 (i := .iload 4) (k := 2) (pc' := 624) (lv' := [(5, .int 0), (4, .int 0), (3, .ref 3466), (2, .ref 101), (1, .ref 0), (0, .retAddr 9)]) (st' := [.int 0, .retAddr 9, .int ((xs 2)), .int ((xs 1)), .ref 101]) (by decide +kernel) rfl rfl ?_
                  refine ab_fin.s1i (i := .iconst 3) (k := 1) (pc' := 625) (n := 3) (by decide +kernel) rfl (by decide +kernel) rfl ?_
                  refine ab_fin.s1i (i := .iadd) (k := 1) (pc' := 626) (n := 3) (by decide +kernel) rfl (by decide +kernel) rfl ?_
                  refine ab_fin.s8 (i := .iaload) (k := 1) (pc' := 627) (st' := [.int ((xs 3)), .int ((xs 2)), .int ((xs 1)), .ref 101]) (by decide +kernel) (ab_x0 rfl (by decide +kernel) rfl) rfl rfl rfl ?_
                  refine ab_fin.call (i := .invokevirtual 110) (k := 3) (y := 6003) (As := [.ref 101, .int ((xs 1)), .int ((xs 2)), .int ((xs 3))]) (rest := []) (M' := (mX23_row, [])) (by decide +kernel) (ab_cv rfl rfl (ab_ov_no f_101 rfl) ⟨(Nat.le_of_ble_eq_true rfl), (Nat.le_of_ble_eq_true rfl)⟩ rfl) rfl (Nat.le_of_ble_eq_true rfl) ?_
                  show ab_fin _ _ _ _ 0 [(0, .ref 101), (1, .int ((xs 1))), (2, .int ((xs 2))), (3, .int ((xs 3)))] [] _ _
                  refine ab_fin.s2 (i := .aload_n 0) (k := 1) (pc' := 1) (lv' := [(0, .ref 101), (1, .int ((xs 1))), (2, .int ((xs 2))), (3, .int ((xs 3)))]) (st' := [.ref 101]) (by decide +kernel) rfl rfl ?_
                  refine ab_fin.s1i (i := .iconst 0) (k := 1) (pc' := 2) (n := 0) (by decide +kernel) rfl (by decide +kernel) rfl ?_
                  refine ab_fin.putf (ix := 1000) (h1 := ab_ov h [(101, .inr (.inr (24, (p1_o101).set 110 (.int 0)))), (3466, .inr (.inl (1, .inr (.inl ((List.replicate 1 0).set 0 (0))))))]) (pc' := 5) (by decide +kernel) rfl (ab_ov_no f_101 rfl) (ab_klt (n := 115) (by rw [p1_n101]) (by decide)) rfl rfl (ab_ov_set rfl) rfl ?_
                  refine ab_fin.s2 (i := .aload_n 0) (k := 1) (pc' := 6) (lv' := [(0, .ref 101), (1, .int ((xs 1))), (2, .int ((xs 2))), (3, .int ((xs 3)))]) (st' := [.ref 101]) (by decide +kernel) rfl rfl ?_
                  refine ab_fin.s2 (i := .iload_n 1) (k := 1) (pc' := 7) (lv' := [(0, .ref 101), (1, .int ((xs 1))), (2, .int ((xs 2))), (3, .int ((xs 3)))]) (st' := [.int ((xs 1)), .ref 101]) (by decide +kernel) rfl rfl ?_
                  refine ab_fin.call (i := .invokevirtual 1018) (k := 3) (y := 6001) (As := [.ref 101, .int ((xs 1))]) (rest := []) (M' := (mX23_isKind, [])) (by decide +kernel) (ab_cv rfl rfl (ab_ov_get (lt0 101 (by decide)) rfl) ⟨(Nat.le_of_ble_eq_true rfl), (Nat.le_of_ble_eq_true rfl)⟩ rfl) rfl (Nat.le_of_ble_eq_true rfl) ?_
                  show ab_fin _ _ _ _ 0 [(0, .ref 101), (1, .int ((xs 1)))] [] _ _
                  refine ab_fin.s2 (i := .iload_n 1) (k := 1) (pc' := 1) (lv' := [(0, .ref 101), (1, .int ((xs 1)))]) (st' := [.int ((xs 1))]) (by decide +kernel) rfl rfl ?_
                  refine ab_fin.brF (c := (xs 1) < 0) (i := .ifCond .lt 15) (off := 15) (t := 16) (pc' := 4) (r := []) (by decide +kernel) rfl (by decide +kernel) rfl (by have l0 : (0 : Int32).toInt = 0 := rfl; have l1 : (1 : Int32).toInt = 1 := rfl; have l3 : (3 : Int32).toInt = 3 := rfl; simp only [← Int32.toInt_inj, Int32.lt_iff_toInt_lt, Int32.le_iff_toInt_le, l0, l1, l3] at q1 q2 q3 q4 q5 q6 q7 q10 q11 ⊢; omega) ?_
                  refine ab_fin.s2 (i := .iload_n 1) (k := 1) (pc' := 5) (lv' := [(0, .ref 101), (1, .int ((xs 1)))]) (st' := [.int ((xs 1))]) (by decide +kernel) rfl rfl ?_
                  refine ab_fin.s2 (i := .aload_n 0) (k := 1) (pc' := 6) (lv' := [(0, .ref 101), (1, .int ((xs 1)))]) (st' := [.ref 101, .int ((xs 1))]) (by decide +kernel) rfl rfl ?_
                  refine ab_fin.getf (ix := 13) (k := 4) (v := .int 3) (pc' := 9) (by decide +kernel) rfl (ab_ov_get (lt0 101 (by decide)) rfl) rfl rfl ?_
                  refine ab_fin.brF (c := (3 : Int32) ≤ (xs 1)) (i := .if_icmp .ge 7) (off := 7) (t := 16) (pc' := 12) (r := []) (by decide +kernel) rfl (by decide +kernel) rfl (by have l0 : (0 : Int32).toInt = 0 := rfl; have l1 : (1 : Int32).toInt = 1 := rfl; have l3 : (3 : Int32).toInt = 3 := rfl; simp only [← Int32.toInt_inj, Int32.lt_iff_toInt_lt, Int32.le_iff_toInt_le, l0, l1, l3] at q1 q2 q3 q4 q5 q6 q7 q10 q11 ⊢; omega) ?_
                  refine ab_fin.s1i (i := .iconst 1) (k := 1) (pc' := 13) (n := 1) (by decide +kernel) rfl (by decide +kernel) rfl ?_
                  refine ab_fin.s3 (i := .goto 4) (k := 3) (t := 17) (st' := [.int 1]) (by decide +kernel) (ab_goto (by decide +kernel)) ?_
                  refine ab_fin.ret (i := .ireturn) (k := 1) (some (.int 1)) (by decide +kernel) rfl ?_
                  refine ab_bk.back (pc' := 10) (st' := [.int 1]) rfl rfl ?_
                  refine ab_fin.brF (c := (1 : Int32) = 0) (i := .ifCond .eq 7) (off := 7) (t := 17) (pc' := 13) (r := []) (by decide +kernel) rfl (by decide +kernel) rfl (by decide +kernel) ?_
                  refine ab_fin.s2 (i := .iload_n 3) (k := 1) (pc' := 14) (lv' := [(0, .ref 101), (1, .int ((xs 1))), (2, .int ((xs 2))), (3, .int ((xs 3)))]) (st' := [.int ((xs 3))]) (by decide +kernel) rfl rfl ?_
                  refine ab_fin.brT (c := 0 ≤ (xs 3)) (i := .ifCond .ge 9) (off := 9) (t := 23) (r := []) (by decide +kernel) rfl (by decide +kernel) (by have l0 : (0 : Int32).toInt = 0 := rfl; have l1 : (1 : Int32).toInt = 1 := rfl; have l3 : (3 : Int32).toInt = 3 := rfl; simp only [← Int32.toInt_inj, Int32.lt_iff_toInt_lt, Int32.le_iff_toInt_le, l0, l1, l3] at q1 q2 q3 q4 q5 q6 q7 q10 q11 ⊢; omega) ?_
                  refine ab_fin.s2 (i := .iload_n 2) (k := 1) (pc' := 24) (lv' := [(0, .ref 101), (1, .int ((xs 1))), (2, .int ((xs 2))), (3, .int ((xs 3)))]) (st' := [.int ((xs 2))]) (by decide +kernel) rfl rfl ?_
                  refine ab_fin.brF (c := (xs 2) < 0) (i := .ifCond .lt 8) (off := 8) (t := 32) (pc' := 27) (r := []) (by decide +kernel) rfl (by decide +kernel) rfl (by have l0 : (0 : Int32).toInt = 0 := rfl; have l1 : (1 : Int32).toInt = 1 := rfl; have l3 : (3 : Int32).toInt = 3 := rfl; simp only [← Int32.toInt_inj, Int32.lt_iff_toInt_lt, Int32.le_iff_toInt_le, l0, l1, l3] at q1 q2 q3 q4 q5 q6 q7 q10 q11 ⊢; omega) ?_
                  refine ab_fin.s2 (i := .iload_n 2) (k := 1) (pc' := 28) (lv' := [(0, .ref 101), (1, .int ((xs 1))), (2, .int ((xs 2))), (3, .int ((xs 3)))]) (st' := [.int ((xs 2))]) (by decide +kernel) rfl rfl ?_
                  refine ab_fin.s1i (i := .iconst 2) (k := 1) (pc' := 29) (n := 2) (by decide +kernel) rfl (by decide +kernel) rfl ?_
                  refine ab_fin.brT (c := (xs 2) ≤ (2 : Int32)) (i := .if_icmp .le 9) (off := 9) (t := 38) (r := []) (by decide +kernel) rfl (by decide +kernel) (by have l0 : (0 : Int32).toInt = 0 := rfl; have l1 : (1 : Int32).toInt = 1 := rfl; have l2 : (2 : Int32).toInt = 2 := rfl; have l3 : (3 : Int32).toInt = 3 := rfl; simp only [← Int32.toInt_inj, Int32.lt_iff_toInt_lt, Int32.le_iff_toInt_le, l0, l1, l2, l3] at q1 q2 q3 q4 q5 q6 q7 q10 q11 ⊢; omega) ?_
                  refine ab_fin.s2 (i := .iload_n 3) (k := 1) (pc' := 39) (lv' := [(0, .ref 101), (1, .int ((xs 1))), (2, .int ((xs 2))), (3, .int ((xs 3)))]) (st' := [.int ((xs 3))]) (by decide +kernel) rfl rfl ?_
                  refine ab_fin.s2 (i := .aload_n 0) (k := 1) (pc' := 40) (lv' := [(0, .ref 101), (1, .int ((xs 1))), (2, .int ((xs 2))), (3, .int ((xs 3)))]) (st' := [.ref 101, .int ((xs 3))]) (by decide +kernel) rfl rfl ?_
                  refine ab_fin.getf (ix := 17) (k := 0) (v := .ref 102) (pc' := 43) (by decide +kernel) rfl (ab_ov_get (lt0 101 (by decide)) rfl) rfl rfl ?_
                  refine ab_fin.s2 (i := .iload_n 1) (k := 1) (pc' := 44) (lv' := [(0, .ref 101), (1, .int ((xs 1))), (2, .int ((xs 2))), (3, .int ((xs 3)))]) (st' := [.int ((xs 1)), .ref 102, .int ((xs 3))]) (by decide +kernel) rfl rfl ?_
                  have q13 : (xs 1) = 0 := (by have l0 : (0 : Int32).toInt = 0 := rfl; have l1 : (1 : Int32).toInt = 1 := rfl; have l3 : (3 : Int32).toInt = 3 := rfl; simp only [← Int32.toInt_inj, Int32.lt_iff_toInt_lt, Int32.le_iff_toInt_le, l0, l1, l3] at q1 q2 q3 q4 q5 q6 q7 q10 q11 ⊢; omega)
                  rw [q13]
                  refine ab_fin.aald (v := .ref 2294) (pc' := 45) (by decide +kernel) (ab_ov_no f_102 rfl) (by decide) rfl (ab_bd (n := 24) (by rw [p1_n102]) (by decide +kernel)) rfl rfl ?_
                  refine ab_fin.getf (ix := 79) (k := 5) (v := .ref 2302) (pc' := 48) (by decide +kernel) rfl (ab_ov_no f_2294 rfl) rfl rfl ?_
                  refine ab_fin.s2 (i := .iload_n 2) (k := 1) (pc' := 49) (lv' := [(0, .ref 101), (1, .int 0), (2, .int ((xs 2))), (3, .int ((xs 3)))]) (st' := [.int ((xs 2)), .ref 2302, .int ((xs 3))]) (by decide +kernel) rfl rfl ?_
                  have q14 : (xs 2) = 0 := (by have l0 : (0 : Int32).toInt = 0 := rfl; have l1 : (1 : Int32).toInt = 1 := rfl; have l3 : (3 : Int32).toInt = 3 := rfl; simp only [← Int32.toInt_inj, Int32.lt_iff_toInt_lt, Int32.le_iff_toInt_le, l0, l1, l3] at q1 q2 q3 q4 q5 q6 q7 q10 q11 q13 ⊢; omega)
                  rw [q14]
                  refine ab_fin.iald (v := 1) (pc' := 50) (by decide +kernel) (ab_ov_no f_2302 rfl) (ab_bd (n := 3) (by rw [List.length_replicate]) (by decide +kernel)) rfl rfl ?_
                  refine ab_fin.brF (c := (1 : Int32) ≤ (xs 3)) (i := .if_icmp .ge 19) (off := 19) (t := 69) (pc' := 53) (r := []) (by decide +kernel) rfl (by decide +kernel) rfl (by have l0 : (0 : Int32).toInt = 0 := rfl; have l1 : (1 : Int32).toInt = 1 := rfl; have l3 : (3 : Int32).toInt = 3 := rfl; simp only [← Int32.toInt_inj, Int32.lt_iff_toInt_lt, Int32.le_iff_toInt_le, l0, l1, l3] at q1 q2 q3 q4 q5 q6 q7 q10 q11 q13 q14 ⊢; omega) ?_
                  refine ab_fin.s2 (i := .aload_n 0) (k := 1) (pc' := 54) (lv' := [(0, .ref 101), (1, .int 0), (2, .int 0), (3, .int ((xs 3)))]) (st' := [.ref 101]) (by decide +kernel) rfl rfl ?_
                  refine ab_fin.getf (ix := 17) (k := 0) (v := .ref 102) (pc' := 57) (by decide +kernel) rfl (ab_ov_get (lt0 101 (by decide)) rfl) rfl rfl ?_
                  refine ab_fin.s2 (i := .iload_n 1) (k := 1) (pc' := 58) (lv' := [(0, .ref 101), (1, .int 0), (2, .int 0), (3, .int ((xs 3)))]) (st' := [.int 0, .ref 102]) (by decide +kernel) rfl rfl ?_
                  refine ab_fin.aald (v := .ref 2294) (pc' := 59) (by decide +kernel) (ab_ov_no f_102 rfl) (by decide) rfl (ab_bd (n := 24) (by rw [p1_n102]) (by decide +kernel)) rfl rfl ?_
                  refine ab_fin.getf (ix := 86) (k := 4) (v := .ref 2298) (pc' := 62) (by decide +kernel) rfl (ab_ov_no f_2294 rfl) rfl rfl ?_
                  refine ab_fin.s2 (i := .iload_n 2) (k := 1) (pc' := 63) (lv' := [(0, .ref 101), (1, .int 0), (2, .int 0), (3, .int ((xs 3)))]) (st' := [.int 0, .ref 2298]) (by decide +kernel) rfl rfl ?_
                  refine ab_fin.aald (v := .ref 2299) (pc' := 64) (by decide +kernel) (ab_ov_no f_2298 rfl) (by decide) rfl (ab_bd (n := 3) (by rw [p1_n2298]) (by decide +kernel)) rfl rfl ?_
                  refine ab_fin.s2 (i := .iload_n 3) (k := 1) (pc' := 65) (lv' := [(0, .ref 101), (1, .int 0), (2, .int 0), (3, .int ((xs 3)))]) (st' := [.int ((xs 3)), .ref 2299]) (by decide +kernel) rfl rfl ?_
                  have q15 : (xs 3) = 0 := (by have l0 : (0 : Int32).toInt = 0 := rfl; have l1 : (1 : Int32).toInt = 1 := rfl; have l3 : (3 : Int32).toInt = 3 := rfl; simp only [← Int32.toInt_inj, Int32.lt_iff_toInt_lt, Int32.le_iff_toInt_le, l0, l1, l3] at q1 q2 q3 q4 q5 q6 q7 q10 q11 q13 q14 ⊢; omega)
                  rw [q15]
                  refine ab_fin.iald (v := 0) (pc' := 66) (by decide +kernel) (ab_ov_no f_2299 rfl) (ab_bd (n := 24) (by rw [List.length_replicate]) (by decide +kernel)) rfl rfl ?_
                  refine ab_fin.s3 (i := .goto 4) (k := 3) (t := 70) (st' := [.int 0]) (by decide +kernel) (ab_goto (by decide +kernel)) ?_
                  refine ab_fin.ret (i := .ireturn) (k := 1) (some (.int 0)) (by decide +kernel) rfl ?_
                  refine ab_bk.back (pc' := 630) (st' := [.int 0]) rfl rfl ?_
                  refine ab_fin.s2 (i := .istore 6) (k := 2) (pc' := 632) (lv' := [(6, .int 0), (5, .int 0), (4, .int 0), (3, .ref 3466), (2, .ref 101), (1, .ref 0), (0, .retAddr 9)]) (st' := []) (by decide +kernel) rfl rfl ?_
                  refine ab_fin.s2 (i := .aload_n 2) (k := 1) (pc' := 633) (lv' := [(6, .int 0), (5, .int 0), (4, .int 0), (3, .ref 3466), (2, .ref 101), (1, .ref 0), (0, .retAddr 9)]) (st' := [.ref 101]) (by decide +kernel) rfl rfl ?_
                  refine ab_fin.call (i := .invokevirtual 75) (k := 3) (y := 5992) (As := [.ref 101]) (rest := []) (M' := (mX23_thrown, [])) (by decide +kernel) (ab_cv rfl rfl (ab_ov_get (lt0 101 (by decide)) rfl) ⟨(Nat.le_of_ble_eq_true rfl), (Nat.le_of_ble_eq_true rfl)⟩ rfl) rfl (Nat.le_of_ble_eq_true rfl) ?_
                  show ab_fin _ _ _ _ 0 [(0, .ref 101)] [] _ _
                  refine ab_fin.s2 (i := .aload_n 0) (k := 1) (pc' := 1) (lv' := [(0, .ref 101)]) (st' := [.ref 101]) (by decide +kernel) rfl rfl ?_
                  refine ab_fin.getf (ix := 1000) (k := 110) (v := .int 0) (pc' := 4) (by decide +kernel) rfl (ab_ov_get (lt0 101 (by decide)) rfl) rfl rfl ?_
                  refine ab_fin.ret (i := .ireturn) (k := 1) (some (.int 0)) (by decide +kernel) rfl ?_
                  refine ab_bk.back (pc' := 636) (st' := [.int 0]) rfl rfl ?_
                  refine ab_fin.s2 (i := .iload 5) (k := 2) (pc' := 638) (lv' := [(6, .int 0), (5, .int 0), (4, .int 0), (3, .ref 3466), (2, .ref 101), (1, .ref 0), (0, .retAddr 9)]) (st' := [.int 0, .int 0]) (by decide +kernel) rfl rfl ?_
                  refine ab_fin.brT (c := (0 : Int32) = (0 : Int32)) (i := .if_icmp .eq 5) (off := 5) (t := 643) (r := []) (by decide +kernel) rfl (by decide +kernel) (by decide +kernel) ?_
                  refine ab_fin.s2 (i := .iload 5) (k := 2) (pc' := 645) (lv' := [(6, .int 0), (5, .int 0), (4, .int 0), (3, .ref 3466), (2, .ref 101), (1, .ref 0), (0, .retAddr 9)]) (st' := [.int 0]) (by decide +kernel) rfl rfl ?_
                  refine ab_fin.brF (c := ¬ (0 : Int32) = 0) (i := .ifCond .ne 15) (off := 15) (t := 660) (pc' := 648) (r := []) (by decide +kernel) rfl (by decide +kernel) rfl (by decide +kernel) ?_
                  refine ab_fin.s2 (i := .aload_n 3) (k := 1) (pc' := 649) (lv' := [(6, .int 0), (5, .int 0), (4, .int 0), (3, .ref 3466), (2, .ref 101), (1, .ref 0), (0, .retAddr 9)]) (st' := [.ref 3466]) (by decide +kernel) rfl rfl ?_
                  refine ab_fin.s1i (i := .iconst 0) (k := 1) (pc' := 650) (n := 0) (by decide +kernel) rfl (by decide +kernel) rfl ?_
                  refine ab_fin.lald (v := 0) (pc' := 651) (by decide +kernel) (ab_ov_get (lt0 3466 (by decide)) rfl) (ab_bd (n := 1) (by rw [List.length_set, List.length_replicate]) (by decide +kernel)) rfl rfl ?_
                  refine ab_fin.s2 (i := .iload 6) (k := 2) (pc' := 653) (lv' := [(6, .int 0), (5, .int 0), (4, .int 0), (3, .ref 3466), (2, .ref 101), (1, .ref 0), (0, .retAddr 9)]) (st' := [.int 0, .long 0]) (by decide +kernel) rfl rfl ?_
                  refine ab_fin.s1l (i := .i2l) (k := 1) (pc' := 654) (n := 0) (by decide +kernel) rfl (by decide +kernel) rfl ?_
                  refine ab_fin.s1i (i := .lcmp) (k := 1) (pc' := 655) (n := 0) (by decide +kernel) rfl (by decide +kernel) rfl ?_
                  refine ab_fin.brT (c := (0 : Int32) = 0) (i := .ifCond .eq 5) (off := 5) (t := 660) (r := []) (by decide +kernel) rfl (by decide +kernel) (by decide +kernel) ?_
                  refine ab_fin.s3 (i := .goto 430) (k := 3) (t := 1090) (st' := []) (by decide +kernel) (ab_goto (by decide +kernel)) ?_
                  refine ab_fin.inc (i := .iinc 4 6) (k := 3) (pc' := 1093) (j := 4) (n := 6) (lv' := [(6, .int 0), (5, .int 0), (3, .ref 3466), (2, .ref 101), (1, .ref 0), (0, .retAddr 9)]) (by decide +kernel) rfl (by decide +kernel) rfl ?_
                  refine ab_fin.s3 (i := .goto (-1070)) (k := 3) (t := 23) (st' := []) (by decide +kernel) (ab_goto (by decide +kernel)) ?_
                  refine ab_fin.s2 (i := .iload 4) (k := 2) (pc' := 25) (lv' := [(4, .int 6), (6, .int 0), (5, .int 0), (3, .ref 3466), (2, .ref 101), (1, .ref 0), (0, .retAddr 9)]) (st' := [.int 6]) (by decide +kernel) rfl rfl ?_
                  refine ab_fin.s2 (i := .aload_n 0) (k := 1) (pc' := 26) (lv' := [(4, .int 6), (6, .int 0), (5, .int 0), (3, .ref 3466), (2, .ref 101), (1, .ref 0), (0, .retAddr 9)]) (st' := [.retAddr 9, .int 6]) (by decide +kernel) rfl rfl ?_
                  refine ab_fin.s8 (i := .arraylength) (k := 1) (pc' := 27) (st' := [.int 6, .int 6]) (by decide +kernel) rfl rfl rfl rfl ?_
                  refine ab_fin.s1i (i := .bipush 6) (k := 2) (pc' := 29) (n := 6) (by decide +kernel) rfl (by decide +kernel) rfl ?_
                  refine ab_fin.s1i (i := .isub) (k := 1) (pc' := 30) (n := 0) (by decide +kernel) rfl (by decide +kernel) rfl ?_
                  refine ab_fin.brT (c := (0 : Int32) < (6 : Int32)) (i := .if_icmp .gt 1066) (off := 1066) (t := 1096) (r := []) (by decide +kernel) rfl (by decide +kernel) (by decide +kernel) ?_
                  refine ab_fin.s1i (i := .iconst 1) (k := 1) (pc' := 1097) (n := 1) (by decide +kernel) rfl (by decide +kernel) rfl ?_
                  refine ab_fin.ret (i := .ireturn) (k := 1) (some (.int 1)) (by decide +kernel) rfl ?_
                  refine ⟨rfl, ?_, ?_⟩
                  · rw [ab_ov_len, hl]; decide
                  · refine Nat.le_trans (ab_ov_z _ _) ?_
                    simp only [List.map, List.sum_cons, List.sum_nil, ab_z1, ab_len, List.length_set, List.length_replicate, List.length_cons, List.length_nil, p1_n101]
                    omega
                · rw [q11]
                  try rw [show ((((1 * (24 : Int32)) + (0 : Int32)) * (24 : Int32)) + 0) = (576 : Int32) by decide +kernel]
                  refine ab_fin.iald (v := 0) (pc' := 16) (by decide +kernel) (ab_ov_no f_7 rfl) (ab_bd (n := 1728) (by rw [p1_n7]) (by decide +kernel)) rfl rfl ?_
                  refine ab_fin.ret (i := .ireturn) (k := 1) (some (.int 0)) (by decide +kernel) rfl ?_
                  refine ab_bk.back (pc' := 69) (st' := [.int 0]) rfl rfl ?_
                  refine ab_fin.s3 (i := .goto 4) (k := 3) (t := 73) (st' := [.int 0]) (by decide +kernel) (ab_goto (by decide +kernel)) ?_
                  refine ab_fin.ret (i := .ireturn) (k := 1) (some (.int 0)) (by decide +kernel) rfl ?_
                  refine ab_bk.back (pc' := 10) (st' := [.int 0, .int 0, .ref 3466]) rfl rfl ?_
                  refine ab_fin.s1l (i := .i2l) (k := 1) (pc' := 11) (n := 0) (by decide +kernel) rfl (by decide +kernel) rfl ?_
                  refine ab_fin.last (h1 := ab_ov h [(3466, .inr (.inl (1, .inr (.inl ((List.replicate 1 0).set 0 (0))))))]) (pc' := 12) (by decide +kernel) (ab_ov_no f_3466 rfl) (ab_bd (n := 1) (by rw [List.length_replicate]) (by decide +kernel)) (ab_ov_set rfl) rfl ?_
                  refine ab_fin.s3 (i := .goto 11) (k := 3) (t := 23) (st' := []) (by decide +kernel) (ab_goto (by decide +kernel)) ?_
                  refine ab_fin.s1i (i := .iconst 0) (k := 1) (pc' := 24) (n := 0) (by decide +kernel) rfl (by decide +kernel) rfl ?_
                  refine ab_fin.ret (i := .ireturn) (k := 1) (some (.int 0)) (by decide +kernel) rfl ?_
                  refine ab_bk.back (pc' := 606) (st' := [.int 0]) rfl rfl ?_
                  refine ab_fin.s2 (i := .istore 5) (k := 2) (pc' := 608) (lv' := [(5, .int 0), (4, .int 0), (3, .ref 3466), (2, .ref 101), (1, .ref 0), (0, .retAddr 9)]) (st' := []) (by decide +kernel) rfl rfl ?_
                  refine ab_fin.s2 (i := .aload_n 2) (k := 1) (pc' := 609) (lv' := [(5, .int 0), (4, .int 0), (3, .ref 3466), (2, .ref 101), (1, .ref 0), (0, .retAddr 9)]) (st' := [.ref 101]) (by decide +kernel) rfl rfl ?_
                  refine ab_fin.s2 (i := .aload_n 0) (k := 1) (pc' := 610) (lv' := [(5, .int 0), (4, .int 0), (3, .ref 3466), (2, .ref 101), (1, .ref 0), (0, .retAddr 9)]) (st' := [.retAddr 9, .ref 101]) (by decide +kernel) rfl rfl ?_
                  refine ab_fin.s2 (i := .iload 4) (k := 2) (pc' := 612) (lv' := [(5, .int 0), (4, .int 0), (3, .ref 3466), (2, .ref 101), (1, .ref 0), (0, .retAddr 9)]) (st' := [.int 0, .retAddr 9, .ref 101]) (by decide +kernel) rfl rfl ?_
                  refine ab_fin.s1i (i := .iconst 1) (k := 1) (pc' := 613) (n := 1) (by decide +kernel) rfl (by decide +kernel) rfl ?_
                  refine ab_fin.s1i (i := .iadd) (k := 1) (pc' := 614) (n := 1) (by decide +kernel) rfl (by decide +kernel) rfl ?_
                  refine ab_fin.s8 (i := .iaload) (k := 1) (pc' := 615) (st' := [.int ((xs 1)), .ref 101]) (by decide +kernel) (ab_x0 rfl (by decide +kernel) rfl) rfl rfl rfl ?_
                  refine ab_fin.s2 (i := .aload_n 0) (k := 1) (pc' := 616) (lv' := [(5, .int 0), (4, .int 0), (3, .ref 3466), (2, .ref 101), (1, .ref 0), (0, .retAddr 9)]) (st' := [.retAddr 9, .int ((xs 1)), .ref 101]) (by decide +kernel) rfl rfl ?_
                  refine ab_fin.s2 (i := .iload 4) (k := 2) (pc' := 618) (lv' := [(5, .int 0), (4, .int 0), (3, .ref 3466), (2, .ref 101), (1, .ref 0), (0, .retAddr 9)]) (st' := [.int 0, .retAddr 9, .int ((xs 1)), .ref 101]) (by decide +kernel) rfl rfl ?_
                  refine ab_fin.s1i (i := .iconst 2) (k := 1) (pc' := 619) (n := 2) (by decide +kernel) rfl (by decide +kernel) rfl ?_
                  refine ab_fin.s1i (i := .iadd) (k := 1) (pc' := 620) (n := 2) (by decide +kernel) rfl (by decide +kernel) rfl ?_
                  refine ab_fin.s8 (i := .iaload) (k := 1) (pc' := 621) (st' := [.int ((xs 2)), .int ((xs 1)), .ref 101]) (by decide +kernel) (ab_x0 rfl (by decide +kernel) rfl) rfl rfl rfl ?_
                  refine ab_fin.s2 (i := .aload_n 0) (k := 1) (pc' := 622) (lv' := [(5, .int 0), (4, .int 0), (3, .ref 3466), (2, .ref 101), (1, .ref 0), (0, .retAddr 9)]) (st' := [.retAddr 9, .int ((xs 2)), .int ((xs 1)), .ref 101]) (by decide +kernel) rfl rfl ?_
                  refine ab_fin.s2 (i := .iload 4) (k := 2) (pc' := 624) (lv' := [(5, .int 0), (4, .int 0), (3, .ref 3466), (2, .ref 101), (1, .ref 0), (0, .retAddr 9)]) (st' := [.int 0, .retAddr 9, .int ((xs 2)), .int ((xs 1)), .ref 101]) (by decide +kernel) rfl rfl ?_
                  refine ab_fin.s1i (i := .iconst 3) (k := 1) (pc' := 625) (n := 3) (by decide +kernel) rfl (by decide +kernel) rfl ?_
                  refine ab_fin.s1i (i := .iadd) (k := 1) (pc' := 626) (n := 3) (by decide +kernel) rfl (by decide +kernel) rfl ?_
                  refine ab_fin.s8 (i := .iaload) (k := 1) (pc' := 627) (st' := [.int ((xs 3)), .int ((xs 2)), .int ((xs 1)), .ref 101]) (by decide +kernel) (ab_x0 rfl (by decide +kernel) rfl) rfl rfl rfl ?_
                  refine ab_fin.call (i := .invokevirtual 110) (k := 3) (y := 6003) (As := [.ref 101, .int ((xs 1)), .int ((xs 2)), .int ((xs 3))]) (rest := []) (M' := (mX23_row, [])) (by decide +kernel) (ab_cv rfl rfl (ab_ov_no f_101 rfl) ⟨(Nat.le_of_ble_eq_true rfl), (Nat.le_of_ble_eq_true rfl)⟩ rfl) rfl (Nat.le_of_ble_eq_true rfl) ?_
                  show ab_fin _ _ _ _ 0 [(0, .ref 101), (1, .int ((xs 1))), (2, .int ((xs 2))), (3, .int ((xs 3)))] [] _ _
                  refine ab_fin.s2 (i := .aload_n 0) (k := 1) (pc' := 1) (lv' := [(0, .ref 101), (1, .int ((xs 1))), (2, .int ((xs 2))), (3, .int ((xs 3)))]) (st' := [.ref 101]) (by decide +kernel) rfl rfl ?_
                  refine ab_fin.s1i (i := .iconst 0) (k := 1) (pc' := 2) (n := 0) (by decide +kernel) rfl (by decide +kernel) rfl ?_
                  refine ab_fin.putf (ix := 1000) (h1 := ab_ov h [(101, .inr (.inr (24, (p1_o101).set 110 (.int 0)))), (3466, .inr (.inl (1, .inr (.inl ((List.replicate 1 0).set 0 (0))))))]) (pc' := 5) (by decide +kernel) rfl (ab_ov_no f_101 rfl) (ab_klt (n := 115) (by rw [p1_n101]) (by decide)) rfl rfl (ab_ov_set rfl) rfl ?_
                  refine ab_fin.s2 (i := .aload_n 0) (k := 1) (pc' := 6) (lv' := [(0, .ref 101), (1, .int ((xs 1))), (2, .int ((xs 2))), (3, .int ((xs 3)))]) (st' := [.ref 101]) (by decide +kernel) rfl rfl ?_
                  refine ab_fin.s2 (i := .iload_n 1) (k := 1) (pc' := 7) (lv' := [(0, .ref 101), (1, .int ((xs 1))), (2, .int ((xs 2))), (3, .int ((xs 3)))]) (st' := [.int ((xs 1)), .ref 101]) (by decide +kernel) rfl rfl ?_
                  refine ab_fin.call (i := .invokevirtual 1018) (k := 3) (y := 6001) (As := [.ref 101, .int ((xs 1))]) (rest := []) (M' := (mX23_isKind, [])) (by decide +kernel) (ab_cv rfl rfl (ab_ov_get (lt0 101 (by decide)) rfl) ⟨(Nat.le_of_ble_eq_true rfl), (Nat.le_of_ble_eq_true rfl)⟩ rfl) rfl (Nat.le_of_ble_eq_true rfl) ?_
                  show ab_fin _ _ _ _ 0 [(0, .ref 101), (1, .int ((xs 1)))] [] _ _
                  refine ab_fin.s2 (i := .iload_n 1) (k := 1) (pc' := 1) (lv' := [(0, .ref 101), (1, .int ((xs 1)))]) (st' := [.int ((xs 1))]) (by decide +kernel) rfl rfl ?_
                  refine ab_fin.brF (c := (xs 1) < 0) (i := .ifCond .lt 15) (off := 15) (t := 16) (pc' := 4) (r := []) (by decide +kernel) rfl (by decide +kernel) rfl (by have l0 : (0 : Int32).toInt = 0 := rfl; have l1 : (1 : Int32).toInt = 1 := rfl; have l3 : (3 : Int32).toInt = 3 := rfl; simp only [← Int32.toInt_inj, Int32.lt_iff_toInt_lt, Int32.le_iff_toInt_le, l0, l1, l3] at q1 q2 q3 q4 q5 q6 q7 q10 q11 ⊢; omega) ?_
                  refine ab_fin.s2 (i := .iload_n 1) (k := 1) (pc' := 5) (lv' := [(0, .ref 101), (1, .int ((xs 1)))]) (st' := [.int ((xs 1))]) (by decide +kernel) rfl rfl ?_
                  refine ab_fin.s2 (i := .aload_n 0) (k := 1) (pc' := 6) (lv' := [(0, .ref 101), (1, .int ((xs 1)))]) (st' := [.ref 101, .int ((xs 1))]) (by decide +kernel) rfl rfl ?_
                  refine ab_fin.getf (ix := 13) (k := 4) (v := .int 3) (pc' := 9) (by decide +kernel) rfl (ab_ov_get (lt0 101 (by decide)) rfl) rfl rfl ?_
                  refine ab_fin.brF (c := (3 : Int32) ≤ (xs 1)) (i := .if_icmp .ge 7) (off := 7) (t := 16) (pc' := 12) (r := []) (by decide +kernel) rfl (by decide +kernel) rfl (by have l0 : (0 : Int32).toInt = 0 := rfl; have l1 : (1 : Int32).toInt = 1 := rfl; have l3 : (3 : Int32).toInt = 3 := rfl; simp only [← Int32.toInt_inj, Int32.lt_iff_toInt_lt, Int32.le_iff_toInt_le, l0, l1, l3] at q1 q2 q3 q4 q5 q6 q7 q10 q11 ⊢; omega) ?_
                  refine ab_fin.s1i (i := .iconst 1) (k := 1) (pc' := 13) (n := 1) (by decide +kernel) rfl (by decide +kernel) rfl ?_
                  refine ab_fin.s3 (i := .goto 4) (k := 3) (t := 17) (st' := [.int 1]) (by decide +kernel) (ab_goto (by decide +kernel)) ?_
                  refine ab_fin.ret (i := .ireturn) (k := 1) (some (.int 1)) (by decide +kernel) rfl ?_
                  refine ab_bk.back (pc' := 10) (st' := [.int 1]) rfl rfl ?_
                  refine ab_fin.brF (c := (1 : Int32) = 0) (i := .ifCond .eq 7) (off := 7) (t := 17) (pc' := 13) (r := []) (by decide +kernel) rfl (by decide +kernel) rfl (by decide +kernel) ?_
                  refine ab_fin.s2 (i := .iload_n 3) (k := 1) (pc' := 14) (lv' := [(0, .ref 101), (1, .int ((xs 1))), (2, .int ((xs 2))), (3, .int ((xs 3)))]) (st' := [.int ((xs 3))]) (by decide +kernel) rfl rfl ?_
                  refine ab_fin.brT (c := 0 ≤ (xs 3)) (i := .ifCond .ge 9) (off := 9) (t := 23) (r := []) (by decide +kernel) rfl (by decide +kernel) (by have l0 : (0 : Int32).toInt = 0 := rfl; have l1 : (1 : Int32).toInt = 1 := rfl; have l3 : (3 : Int32).toInt = 3 := rfl; simp only [← Int32.toInt_inj, Int32.lt_iff_toInt_lt, Int32.le_iff_toInt_le, l0, l1, l3] at q1 q2 q3 q4 q5 q6 q7 q10 q11 ⊢; omega) ?_
                  refine ab_fin.s2 (i := .iload_n 2) (k := 1) (pc' := 24) (lv' := [(0, .ref 101), (1, .int ((xs 1))), (2, .int ((xs 2))), (3, .int ((xs 3)))]) (st' := [.int ((xs 2))]) (by decide +kernel) rfl rfl ?_
                  refine ab_fin.brF (c := (xs 2) < 0) (i := .ifCond .lt 8) (off := 8) (t := 32) (pc' := 27) (r := []) (by decide +kernel) rfl (by decide +kernel) rfl (by have l0 : (0 : Int32).toInt = 0 := rfl; have l1 : (1 : Int32).toInt = 1 := rfl; have l3 : (3 : Int32).toInt = 3 := rfl; simp only [← Int32.toInt_inj, Int32.lt_iff_toInt_lt, Int32.le_iff_toInt_le, l0, l1, l3] at q1 q2 q3 q4 q5 q6 q7 q10 q11 ⊢; omega) ?_
                  refine ab_fin.s2 (i := .iload_n 2) (k := 1) (pc' := 28) (lv' := [(0, .ref 101), (1, .int ((xs 1))), (2, .int ((xs 2))), (3, .int ((xs 3)))]) (st' := [.int ((xs 2))]) (by decide +kernel) rfl rfl ?_
                  refine ab_fin.s1i (i := .iconst 2) (k := 1) (pc' := 29) (n := 2) (by decide +kernel) rfl (by decide +kernel) rfl ?_
                  refine ab_fin.brT (c := (xs 2) ≤ (2 : Int32)) (i := .if_icmp .le 9) (off := 9) (t := 38) (r := []) (by decide +kernel) rfl (by decide +kernel) (by have l0 : (0 : Int32).toInt = 0 := rfl; have l1 : (1 : Int32).toInt = 1 := rfl; have l2 : (2 : Int32).toInt = 2 := rfl; have l3 : (3 : Int32).toInt = 3 := rfl; simp only [← Int32.toInt_inj, Int32.lt_iff_toInt_lt, Int32.le_iff_toInt_le, l0, l1, l2, l3] at q1 q2 q3 q4 q5 q6 q7 q10 q11 ⊢; omega) ?_
                  refine ab_fin.s2 (i := .iload_n 3) (k := 1) (pc' := 39) (lv' := [(0, .ref 101), (1, .int ((xs 1))), (2, .int ((xs 2))), (3, .int ((xs 3)))]) (st' := [.int ((xs 3))]) (by decide +kernel) rfl rfl ?_
                  refine ab_fin.s2 (i := .aload_n 0) (k := 1) (pc' := 40) (lv' := [(0, .ref 101), (1, .int ((xs 1))), (2, .int ((xs 2))), (3, .int ((xs 3)))]) (st' := [.ref 101, .int ((xs 3))]) (by decide +kernel) rfl rfl ?_
                  refine ab_fin.getf (ix := 17) (k := 0) (v := .ref 102) (pc' := 43) (by decide +kernel) rfl (ab_ov_get (lt0 101 (by decide)) rfl) rfl rfl ?_
                  refine ab_fin.s2 (i := .iload_n 1) (k := 1) (pc' := 44) (lv' := [(0, .ref 101), (1, .int ((xs 1))), (2, .int ((xs 2))), (3, .int ((xs 3)))]) (st' := [.int ((xs 1)), .ref 102, .int ((xs 3))]) (by decide +kernel) rfl rfl ?_
                  have q17 : (xs 1) = 0 := (by have l0 : (0 : Int32).toInt = 0 := rfl; have l1 : (1 : Int32).toInt = 1 := rfl; have l3 : (3 : Int32).toInt = 3 := rfl; simp only [← Int32.toInt_inj, Int32.lt_iff_toInt_lt, Int32.le_iff_toInt_le, l0, l1, l3] at q1 q2 q3 q4 q5 q6 q7 q10 q11 ⊢; omega)
                  rw [q17]
                  refine ab_fin.aald (v := .ref 2294) (pc' := 45) (by decide +kernel) (ab_ov_no f_102 rfl) (by decide) rfl (ab_bd (n := 24) (by rw [p1_n102]) (by decide +kernel)) rfl rfl ?_
                  refine ab_fin.getf (ix := 79) (k := 5) (v := .ref 2302) (pc' := 48) (by decide +kernel) rfl (ab_ov_no f_2294 rfl) rfl rfl ?_
                  refine ab_fin.s2 (i := .iload_n 2) (k := 1) (pc' := 49) (lv' := [(0, .ref 101), (1, .int 0), (2, .int ((xs 2))), (3, .int ((xs 3)))]) (st' := [.int ((xs 2)), .ref 2302, .int ((xs 3))]) (by decide +kernel) rfl rfl ?_
                  have q18 : (xs 2) = 1 := (by have l0 : (0 : Int32).toInt = 0 := rfl; have l1 : (1 : Int32).toInt = 1 := rfl; have l3 : (3 : Int32).toInt = 3 := rfl; simp only [← Int32.toInt_inj, Int32.lt_iff_toInt_lt, Int32.le_iff_toInt_le, l0, l1, l3] at q1 q2 q3 q4 q5 q6 q7 q10 q11 q17 ⊢; omega)
                  rw [q18]
                  refine ab_fin.iald (v := 1) (pc' := 50) (by decide +kernel) (ab_ov_no f_2302 rfl) (ab_bd (n := 3) (by rw [List.length_replicate]) (by decide +kernel)) rfl rfl ?_
                  refine ab_fin.brF (c := (1 : Int32) ≤ (xs 3)) (i := .if_icmp .ge 19) (off := 19) (t := 69) (pc' := 53) (r := []) (by decide +kernel) rfl (by decide +kernel) rfl (by have l0 : (0 : Int32).toInt = 0 := rfl; have l1 : (1 : Int32).toInt = 1 := rfl; have l3 : (3 : Int32).toInt = 3 := rfl; simp only [← Int32.toInt_inj, Int32.lt_iff_toInt_lt, Int32.le_iff_toInt_le, l0, l1, l3] at q1 q2 q3 q4 q5 q6 q7 q10 q11 q17 q18 ⊢; omega) ?_
                  refine ab_fin.s2 (i := .aload_n 0) (k := 1) (pc' := 54) (lv' := [(0, .ref 101), (1, .int 0), (2, .int 1), (3, .int ((xs 3)))]) (st' := [.ref 101]) (by decide +kernel) rfl rfl ?_
                  refine ab_fin.getf (ix := 17) (k := 0) (v := .ref 102) (pc' := 57) (by decide +kernel) rfl (ab_ov_get (lt0 101 (by decide)) rfl) rfl rfl ?_
                  refine ab_fin.s2 (i := .iload_n 1) (k := 1) (pc' := 58) (lv' := [(0, .ref 101), (1, .int 0), (2, .int 1), (3, .int ((xs 3)))]) (st' := [.int 0, .ref 102]) (by decide +kernel) rfl rfl ?_
                  refine ab_fin.aald (v := .ref 2294) (pc' := 59) (by decide +kernel) (ab_ov_no f_102 rfl) (by decide) rfl (ab_bd (n := 24) (by rw [p1_n102]) (by decide +kernel)) rfl rfl ?_
                  refine ab_fin.getf (ix := 86) (k := 4) (v := .ref 2298) (pc' := 62) (by decide +kernel) rfl (ab_ov_no f_2294 rfl) rfl rfl ?_
                  refine ab_fin.s2 (i := .iload_n 2) (k := 1) (pc' := 63) (lv' := [(0, .ref 101), (1, .int 0), (2, .int 1), (3, .int ((xs 3)))]) (st' := [.int 1, .ref 2298]) (by decide +kernel) rfl rfl ?_
                  refine ab_fin.aald (v := .ref 2300) (pc' := 64) (by decide +kernel) (ab_ov_no f_2298 rfl) (by decide) rfl (ab_bd (n := 3) (by rw [p1_n2298]) (by decide +kernel)) rfl rfl ?_
                  refine ab_fin.s2 (i := .iload_n 3) (k := 1) (pc' := 65) (lv' := [(0, .ref 101), (1, .int 0), (2, .int 1), (3, .int ((xs 3)))]) (st' := [.int ((xs 3)), .ref 2300]) (by decide +kernel) rfl rfl ?_
                  have q19 : (xs 3) = 0 := (by have l0 : (0 : Int32).toInt = 0 := rfl; have l1 : (1 : Int32).toInt = 1 := rfl; have l3 : (3 : Int32).toInt = 3 := rfl; simp only [← Int32.toInt_inj, Int32.lt_iff_toInt_lt, Int32.le_iff_toInt_le, l0, l1, l3] at q1 q2 q3 q4 q5 q6 q7 q10 q11 q17 q18 ⊢; omega)
                  rw [q19]
                  refine ab_fin.iald (v := 0) (pc' := 66) (by decide +kernel) (ab_ov_no f_2300 rfl) (ab_bd (n := 24) (by rw [List.length_replicate]) (by decide +kernel)) rfl rfl ?_
                  refine ab_fin.s3 (i := .goto 4) (k := 3) (t := 70) (st' := [.int 0]) (by decide +kernel) (ab_goto (by decide +kernel)) ?_
                  refine ab_fin.ret (i := .ireturn) (k := 1) (some (.int 0)) (by decide +kernel) rfl ?_
                  refine ab_bk.back (pc' := 630) (st' := [.int 0]) rfl rfl ?_
                  refine ab_fin.s2 (i := .istore 6) (k := 2) (pc' := 632) (lv' := [(6, .int 0), (5, .int 0), (4, .int 0), (3, .ref 3466), (2, .ref 101), (1, .ref 0), (0, .retAddr 9)]) (st' := []) (by decide +kernel) rfl rfl ?_
                  refine ab_fin.s2 (i := .aload_n 2) (k := 1) (pc' := 633) (lv' := [(6, .int 0), (5, .int 0), (4, .int 0), (3, .ref 3466), (2, .ref 101), (1, .ref 0), (0, .retAddr 9)]) (st' := [.ref 101]) (by decide +kernel) rfl rfl ?_
                  refine ab_fin.call (i := .invokevirtual 75) (k := 3) (y := 5992) (As := [.ref 101]) (rest := []) (M' := (mX23_thrown, [])) (by decide +kernel) (ab_cv rfl rfl (ab_ov_get (lt0 101 (by decide)) rfl) ⟨(Nat.le_of_ble_eq_true rfl), (Nat.le_of_ble_eq_true rfl)⟩ rfl) rfl (Nat.le_of_ble_eq_true rfl) ?_
                  show ab_fin _ _ _ _ 0 [(0, .ref 101)] [] _ _
                  refine ab_fin.s2 (i := .aload_n 0) (k := 1) (pc' := 1) (lv' := [(0, .ref 101)]) (st' := [.ref 101]) (by decide +kernel) rfl rfl ?_
                  refine ab_fin.getf (ix := 1000) (k := 110) (v := .int 0) (pc' := 4) (by decide +kernel) rfl (ab_ov_get (lt0 101 (by decide)) rfl) rfl rfl ?_
                  refine ab_fin.ret (i := .ireturn) (k := 1) (some (.int 0)) (by decide +kernel) rfl ?_
                  refine ab_bk.back (pc' := 636) (st' := [.int 0]) rfl rfl ?_
                  refine ab_fin.s2 (i := .iload 5) (k := 2) (pc' := 638) (lv' := [(6, .int 0), (5, .int 0), (4, .int 0), (3, .ref 3466), (2, .ref 101), (1, .ref 0), (0, .retAddr 9)]) (st' := [.int 0, .int 0]) (by decide +kernel) rfl rfl ?_
                  refine ab_fin.brT (c := (0 : Int32) = (0 : Int32)) (i := .if_icmp .eq 5) (off := 5) (t := 643) (r := []) (by decide +kernel) rfl (by decide +kernel) (by decide +kernel) ?_
                  refine ab_fin.s2 (i := .iload 5) (k := 2) (pc' := 645) (lv' := [(6, .int 0), (5, .int 0), (4, .int 0), (3, .ref 3466), (2, .ref 101), (1, .ref 0), (0, .retAddr 9)]) (st' := [.int 0]) (by decide +kernel) rfl rfl ?_
                  refine ab_fin.brF (c := ¬ (0 : Int32) = 0) (i := .ifCond .ne 15) (off := 15) (t := 660) (pc' := 648) (r := []) (by decide +kernel) rfl (by decide +kernel) rfl (by decide +kernel) ?_
                  refine ab_fin.s2 (i := .aload_n 3) (k := 1) (pc' := 649) (lv' := [(6, .int 0), (5, .int 0), (4, .int 0), (3, .ref 3466), (2, .ref 101), (1, .ref 0), (0, .retAddr 9)]) (st' := [.ref 3466]) (by decide +kernel) rfl rfl ?_
                  refine ab_fin.s1i (i := .iconst 0) (k := 1) (pc' := 650) (n := 0) (by decide +kernel) rfl (by decide +kernel) rfl ?_
                  refine ab_fin.lald (v := 0) (pc' := 651) (by decide +kernel) (ab_ov_get (lt0 3466 (by decide)) rfl) (ab_bd (n := 1) (by rw [List.length_set, List.length_replicate]) (by decide +kernel)) rfl rfl ?_
                  refine ab_fin.s2 (i := .iload 6) (k := 2) (pc' := 653) (lv' := [(6, .int 0), (5, .int 0), (4, .int 0), (3, .ref 3466), (2, .ref 101), (1, .ref 0), (0, .retAddr 9)]) (st' := [.int 0, .long 0]) (by decide +kernel) rfl rfl ?_
                  refine ab_fin.s1l (i := .i2l) (k := 1) (pc' := 654) (n := 0) (by decide +kernel) rfl (by decide +kernel) rfl ?_
                  refine ab_fin.s1i (i := .lcmp) (k := 1) (pc' := 655) (n := 0) (by decide +kernel) rfl (by decide +kernel) rfl ?_
                  refine ab_fin.brT (c := (0 : Int32) = 0) (i := .ifCond .eq 5) (off := 5) (t := 660) (r := []) (by decide +kernel) rfl (by decide +kernel) (by decide +kernel) ?_
                  refine ab_fin.s3 (i := .goto 430) (k := 3) (t := 1090) (st' := []) (by decide +kernel) (ab_goto (by decide +kernel)) ?_
                  refine ab_fin.inc (i := .iinc 4 6) (k := 3) (pc' := 1093) (j := 4) (n := 6) (lv' := [(6, .int 0), (5, .int 0), (3, .ref 3466), (2, .ref 101), (1, .ref 0), (0, .retAddr 9)]) (by decide +kernel) rfl (by decide +kernel) rfl ?_
                  refine ab_fin.s3 (i := .goto (-1070)) (k := 3) (t := 23) (st' := []) (by decide +kernel) (ab_goto (by decide +kernel)) ?_
                  refine ab_fin.s2 (i := .iload 4) (k := 2) (pc' := 25) (lv' := [(4, .int 6), (6, .int 0), (5, .int 0), (3, .ref 3466), (2, .ref 101), (1, .ref 0), (0, .retAddr 9)]) (st' := [.int 6]) (by decide +kernel) rfl rfl ?_
                  refine ab_fin.s2 (i := .aload_n 0) (k := 1) (pc' := 26) (lv' := [(4, .int 6), (6, .int 0), (5, .int 0), (3, .ref 3466), (2, .ref 101), (1, .ref 0), (0, .retAddr 9)]) (st' := [.retAddr 9, .int 6]) (by decide +kernel) rfl rfl ?_
                  refine ab_fin.s8 (i := .arraylength) (k := 1) (pc' := 27) (st' := [.int 6, .int 6]) (by decide +kernel) rfl rfl rfl rfl ?_
                  refine ab_fin.s1i (i := .bipush 6) (k := 2) (pc' := 29) (n := 6) (by decide +kernel) rfl (by decide +kernel) rfl ?_
                  refine ab_fin.s1i (i := .isub) (k := 1) (pc' := 30) (n := 0) (by decide +kernel) rfl (by decide +kernel) rfl ?_
                  refine ab_fin.brT (c := (0 : Int32) < (6 : Int32)) (i := .if_icmp .gt 1066) (off := 1066) (t := 1096) (r := []) (by decide +kernel) rfl (by decide +kernel) (by decide +kernel) ?_
                  refine ab_fin.s1i (i := .iconst 1) (k := 1) (pc' := 1097) (n := 1) (by decide +kernel) rfl (by decide +kernel) rfl ?_
                  refine ab_fin.ret (i := .ireturn) (k := 1) (some (.int 1)) (by decide +kernel) rfl ?_
                  refine ⟨rfl, ?_, ?_⟩
                  · rw [ab_ov_len, hl]; decide
                  · refine Nat.le_trans (ab_ov_z _ _) ?_
                    simp only [List.map, List.sum_cons, List.sum_nil, ab_z1, ab_len, List.length_set, List.length_replicate, List.length_cons, List.length_nil, p1_n101]
                    omega
                · rw [q11]
                  try rw [show ((((2 * (24 : Int32)) + (0 : Int32)) * (24 : Int32)) + 0) = (1152 : Int32) by decide +kernel]
                  refine ab_fin.iald (v := 0) (pc' := 16) (by decide +kernel) (ab_ov_no f_7 rfl) (ab_bd (n := 1728) (by rw [p1_n7]) (by decide +kernel)) rfl rfl ?_
                  refine ab_fin.ret (i := .ireturn) (k := 1) (some (.int 0)) (by decide +kernel) rfl ?_
                  refine ab_bk.back (pc' := 69) (st' := [.int 0]) rfl rfl ?_
                  refine ab_fin.s3 (i := .goto 4) (k := 3) (t := 73) (st' := [.int 0]) (by decide +kernel) (ab_goto (by decide +kernel)) ?_
                  refine ab_fin.ret (i := .ireturn) (k := 1) (some (.int 0)) (by decide +kernel) rfl ?_
                  refine ab_bk.back (pc' := 10) (st' := [.int 0, .int 0, .ref 3466]) rfl rfl ?_
                  refine ab_fin.s1l (i := .i2l) (k := 1) (pc' := 11) (n := 0) (by decide +kernel) rfl (by decide +kernel) rfl ?_
                  refine ab_fin.last (h1 := ab_ov h [(3466, .inr (.inl (1, .inr (.inl ((List.replicate 1 0).set 0 (0))))))]) (pc' := 12) (by decide +kernel) (ab_ov_no f_3466 rfl) (ab_bd (n := 1) (by rw [List.length_replicate]) (by decide +kernel)) (ab_ov_set rfl) rfl ?_
                  refine ab_fin.s3 (i := .goto 11) (k := 3) (t := 23) (st' := []) (by decide +kernel) (ab_goto (by decide +kernel)) ?_
                  refine ab_fin.s1i (i := .iconst 0) (k := 1) (pc' := 24) (n := 0) (by decide +kernel) rfl (by decide +kernel) rfl ?_
                  refine ab_fin.ret (i := .ireturn) (k := 1) (some (.int 0)) (by decide +kernel) rfl ?_
                  refine ab_bk.back (pc' := 606) (st' := [.int 0]) rfl rfl ?_
                  refine ab_fin.s2 (i := .istore 5) (k := 2) (pc' := 608) (lv' := [(5, .int 0), (4, .int 0), (3, .ref 3466), (2, .ref 101), (1, .ref 0), (0, .retAddr 9)]) (st' := []) (by decide +kernel) rfl rfl ?_
                  refine ab_fin.s2 (i := .aload_n 2) (k := 1) (pc' := 609) (lv' := [(5, .int 0), (4, .int 0), (3, .ref 3466), (2, .ref 101), (1, .ref 0), (0, .retAddr 9)]) (st' := [.ref 101]) (by decide +kernel) rfl rfl ?_
                  refine ab_fin.s2 (i := .aload_n 0) (k := 1) (pc' := 610) (lv' := [(5, .int 0), (4, .int 0), (3, .ref 3466), (2, .ref 101), (1, .ref 0), (0, .retAddr 9)]) (st' := [.retAddr 9, .ref 101]) (by decide +kernel) rfl rfl ?_
                  refine ab_fin.s2 (i := .iload 4) (k := 2) (pc' := 612) (lv' := [(5, .int 0), (4, .int 0), (3, .ref 3466), (2, .ref 101), (1, .ref 0), (0, .retAddr 9)]) (st' := [.int 0, .retAddr 9, .ref 101]) (by decide +kernel) rfl rfl ?_
                  refine ab_fin.s1i (i := .iconst 1) (k := 1) (pc' := 613) (n := 1) (by decide +kernel) rfl (by decide +kernel) rfl ?_
                  refine ab_fin.s1i (i := .iadd) (k := 1) (pc' := 614) (n := 1) (by decide +kernel) rfl (by decide +kernel) rfl ?_
                  refine ab_fin.s8 (i := .iaload) (k := 1) (pc' := 615) (st' := [.int ((xs 1)), .ref 101]) (by decide +kernel) (ab_x0 rfl (by decide +kernel) rfl) rfl rfl rfl ?_
                  refine ab_fin.s2 (i := .aload_n 0) (k := 1) (pc' := 616) (lv' := [(5, .int 0), (4, .int 0), (3, .ref 3466), (2, .ref 101), (1, .ref 0), (0, .retAddr 9)]) (st' := [.retAddr 9, .int ((xs 1)), .ref 101]) (by decide +kernel) rfl rfl ?_
                  refine ab_fin.s2 (i := .iload 4) (k := 2) (pc' := 618) (lv' := [(5, .int 0), (4, .int 0), (3, .ref 3466), (2, .ref 101), (1, .ref 0), (0, .retAddr 9)]) (st' := [.int 0, .retAddr 9, .int ((xs 1)), .ref 101]) (by decide +kernel) rfl rfl ?_
                  refine ab_fin.s1i (i := .iconst 2) (k := 1) (pc' := 619) (n := 2) (by decide +kernel) rfl (by decide +kernel) rfl ?_
                  refine ab_fin.s1i (i := .iadd) (k := 1) (pc' := 620) (n := 2) (by decide +kernel) rfl (by decide +kernel) rfl ?_
                  refine ab_fin.s8 (i := .iaload) (k := 1) (pc' := 621) (st' := [.int ((xs 2)), .int ((xs 1)), .ref 101]) (by decide +kernel) (ab_x0 rfl (by decide +kernel) rfl) rfl rfl rfl ?_
                  refine ab_fin.s2 (i := .aload_n 0) (k := 1) (pc' := 622) (lv' := [(5, .int 0), (4, .int 0), (3, .ref 3466), (2, .ref 101), (1, .ref 0), (0, .retAddr 9)]) (st' := [.retAddr 9, .int ((xs 2)), .int ((xs 1)), .ref 101]) (by decide +kernel) rfl rfl ?_
                  refine ab_fin.s2 (i := .iload 4) (k := 2) (pc' := 624) (lv' := [(5, .int 0), (4, .int 0), (3, .ref 3466), (2, .ref 101), (1, .ref 0), (0, .retAddr 9)]) (st' := [.int 0, .retAddr 9, .int ((xs 2)), .int ((xs 1)), .ref 101]) (by decide +kernel) rfl rfl ?_
                  refine ab_fin.s1i (i := .iconst 3) (k := 1) (pc' := 625) (n := 3) (by decide +kernel) rfl (by decide +kernel) rfl ?_
                  refine ab_fin.s1i (i := .iadd) (k := 1) (pc' := 626) (n := 3) (by decide +kernel) rfl (by decide +kernel) rfl ?_
                  refine ab_fin.s8 (i := .iaload) (k := 1) (pc' := 627) (st' := [.int ((xs 3)), .int ((xs 2)), .int ((xs 1)), .ref 101]) (by decide +kernel) (ab_x0 rfl (by decide +kernel) rfl) rfl rfl rfl ?_
                  refine ab_fin.call (i := .invokevirtual 110) (k := 3) (y := 6003) (As := [.ref 101, .int ((xs 1)), .int ((xs 2)), .int ((xs 3))]) (rest := []) (M' := (mX23_row, [])) (by decide +kernel) (ab_cv rfl rfl (ab_ov_no f_101 rfl) ⟨(Nat.le_of_ble_eq_true rfl), (Nat.le_of_ble_eq_true rfl)⟩ rfl) rfl (Nat.le_of_ble_eq_true rfl) ?_
                  show ab_fin _ _ _ _ 0 [(0, .ref 101), (1, .int ((xs 1))), (2, .int ((xs 2))), (3, .int ((xs 3)))] [] _ _
                  refine ab_fin.s2 (i := .aload_n 0) (k := 1) (pc' := 1) (lv' := [(0, .ref 101), (1, .int ((xs 1))), (2, .int ((xs 2))), (3, .int ((xs 3)))]) (st' := [.ref 101]) (by decide +kernel) rfl rfl ?_
                  refine ab_fin.s1i (i := .iconst 0) (k := 1) (pc' := 2) (n := 0) (by decide +kernel) rfl (by decide +kernel) rfl ?_
                  refine ab_fin.putf (ix := 1000) (h1 := ab_ov h [(101, .inr (.inr (24, (p1_o101).set 110 (.int 0)))), (3466, .inr (.inl (1, .inr (.inl ((List.replicate 1 0).set 0 (0))))))]) (pc' := 5) (by decide +kernel) rfl (ab_ov_no f_101 rfl) (ab_klt (n := 115) (by rw [p1_n101]) (by decide)) rfl rfl (ab_ov_set rfl) rfl ?_
                  refine ab_fin.s2 (i := .aload_n 0) (k := 1) (pc' := 6) (lv' := [(0, .ref 101), (1, .int ((xs 1))), (2, .int ((xs 2))), (3, .int ((xs 3)))]) (st' := [.ref 101]) (by decide +kernel) rfl rfl ?_
                  refine ab_fin.s2 (i := .iload_n 1) (k := 1) (pc' := 7) (lv' := [(0, .ref 101), (1, .int ((xs 1))), (2, .int ((xs 2))), (3, .int ((xs 3)))]) (st' := [.int ((xs 1)), .ref 101]) (by decide +kernel) rfl rfl ?_
                  refine ab_fin.call (i := .invokevirtual 1018) (k := 3) (y := 6001) (As := [.ref 101, .int ((xs 1))]) (rest := []) (M' := (mX23_isKind, [])) (by decide +kernel) (ab_cv rfl rfl (ab_ov_get (lt0 101 (by decide)) rfl) ⟨(Nat.le_of_ble_eq_true rfl), (Nat.le_of_ble_eq_true rfl)⟩ rfl) rfl (Nat.le_of_ble_eq_true rfl) ?_
                  show ab_fin _ _ _ _ 0 [(0, .ref 101), (1, .int ((xs 1)))] [] _ _
                  refine ab_fin.s2 (i := .iload_n 1) (k := 1) (pc' := 1) (lv' := [(0, .ref 101), (1, .int ((xs 1)))]) (st' := [.int ((xs 1))]) (by decide +kernel) rfl rfl ?_
                  refine ab_fin.brF (c := (xs 1) < 0) (i := .ifCond .lt 15) (off := 15) (t := 16) (pc' := 4) (r := []) (by decide +kernel) rfl (by decide +kernel) rfl (by have l0 : (0 : Int32).toInt = 0 := rfl; have l1 : (1 : Int32).toInt = 1 := rfl; have l2 : (2 : Int32).toInt = 2 := rfl; have l3 : (3 : Int32).toInt = 3 := rfl; simp only [← Int32.toInt_inj, Int32.lt_iff_toInt_lt, Int32.le_iff_toInt_le, l0, l1, l2, l3] at q1 q2 q3 q4 q5 q6 q7 q10 q11 ⊢; omega) ?_
                  refine ab_fin.s2 (i := .iload_n 1) (k := 1) (pc' := 5) (lv' := [(0, .ref 101), (1, .int ((xs 1)))]) (st' := [.int ((xs 1))]) (by decide +kernel) rfl rfl ?_
                  refine ab_fin.s2 (i := .aload_n 0) (k := 1) (pc' := 6) (lv' := [(0, .ref 101), (1, .int ((xs 1)))]) (st' := [.ref 101, .int ((xs 1))]) (by decide +kernel) rfl rfl ?_
                  refine ab_fin.getf (ix := 13) (k := 4) (v := .int 3) (pc' := 9) (by decide +kernel) rfl (ab_ov_get (lt0 101 (by decide)) rfl) rfl rfl ?_
                  refine ab_fin.brF (c := (3 : Int32) ≤ (xs 1)) (i := .if_icmp .ge 7) (off := 7) (t := 16) (pc' := 12) (r := []) (by decide +kernel) rfl (by decide +kernel) rfl (by have l0 : (0 : Int32).toInt = 0 := rfl; have l1 : (1 : Int32).toInt = 1 := rfl; have l2 : (2 : Int32).toInt = 2 := rfl; have l3 : (3 : Int32).toInt = 3 := rfl; simp only [← Int32.toInt_inj, Int32.lt_iff_toInt_lt, Int32.le_iff_toInt_le, l0, l1, l2, l3] at q1 q2 q3 q4 q5 q6 q7 q10 q11 ⊢; omega) ?_
                  refine ab_fin.s1i (i := .iconst 1) (k := 1) (pc' := 13) (n := 1) (by decide +kernel) rfl (by decide +kernel) rfl ?_
                  refine ab_fin.s3 (i := .goto 4) (k := 3) (t := 17) (st' := [.int 1]) (by decide +kernel) (ab_goto (by decide +kernel)) ?_
                  refine ab_fin.ret (i := .ireturn) (k := 1) (some (.int 1)) (by decide +kernel) rfl ?_
                  refine ab_bk.back (pc' := 10) (st' := [.int 1]) rfl rfl ?_
                  refine ab_fin.brF (c := (1 : Int32) = 0) (i := .ifCond .eq 7) (off := 7) (t := 17) (pc' := 13) (r := []) (by decide +kernel) rfl (by decide +kernel) rfl (by decide +kernel) ?_
                  refine ab_fin.s2 (i := .iload_n 3) (k := 1) (pc' := 14) (lv' := [(0, .ref 101), (1, .int ((xs 1))), (2, .int ((xs 2))), (3, .int ((xs 3)))]) (st' := [.int ((xs 3))]) (by decide +kernel) rfl rfl ?_
                  refine ab_fin.brT (c := 0 ≤ (xs 3)) (i := .ifCond .ge 9) (off := 9) (t := 23) (r := []) (by decide +kernel) rfl (by decide +kernel) (by have l0 : (0 : Int32).toInt = 0 := rfl; have l1 : (1 : Int32).toInt = 1 := rfl; have l2 : (2 : Int32).toInt = 2 := rfl; have l3 : (3 : Int32).toInt = 3 := rfl; simp only [← Int32.toInt_inj, Int32.lt_iff_toInt_lt, Int32.le_iff_toInt_le, l0, l1, l2, l3] at q1 q2 q3 q4 q5 q6 q7 q10 q11 ⊢; omega) ?_
                  refine ab_fin.s2 (i := .iload_n 2) (k := 1) (pc' := 24) (lv' := [(0, .ref 101), (1, .int ((xs 1))), (2, .int ((xs 2))), (3, .int ((xs 3)))]) (st' := [.int ((xs 2))]) (by decide +kernel) rfl rfl ?_
                  refine ab_fin.brF (c := (xs 2) < 0) (i := .ifCond .lt 8) (off := 8) (t := 32) (pc' := 27) (r := []) (by decide +kernel) rfl (by decide +kernel) rfl (by have l0 : (0 : Int32).toInt = 0 := rfl; have l1 : (1 : Int32).toInt = 1 := rfl; have l2 : (2 : Int32).toInt = 2 := rfl; have l3 : (3 : Int32).toInt = 3 := rfl; simp only [← Int32.toInt_inj, Int32.lt_iff_toInt_lt, Int32.le_iff_toInt_le, l0, l1, l2, l3] at q1 q2 q3 q4 q5 q6 q7 q10 q11 ⊢; omega) ?_
                  refine ab_fin.s2 (i := .iload_n 2) (k := 1) (pc' := 28) (lv' := [(0, .ref 101), (1, .int ((xs 1))), (2, .int ((xs 2))), (3, .int ((xs 3)))]) (st' := [.int ((xs 2))]) (by decide +kernel) rfl rfl ?_
                  refine ab_fin.s1i (i := .iconst 2) (k := 1) (pc' := 29) (n := 2) (by decide +kernel) rfl (by decide +kernel) rfl ?_
                  refine ab_fin.brT (c := (xs 2) ≤ (2 : Int32)) (i := .if_icmp .le 9) (off := 9) (t := 38) (r := []) (by decide +kernel) rfl (by decide +kernel) (by have l0 : (0 : Int32).toInt = 0 := rfl; have l1 : (1 : Int32).toInt = 1 := rfl; have l2 : (2 : Int32).toInt = 2 := rfl; have l3 : (3 : Int32).toInt = 3 := rfl; simp only [← Int32.toInt_inj, Int32.lt_iff_toInt_lt, Int32.le_iff_toInt_le, l0, l1, l2, l3] at q1 q2 q3 q4 q5 q6 q7 q10 q11 ⊢; omega) ?_
                  refine ab_fin.s2 (i := .iload_n 3) (k := 1) (pc' := 39) (lv' := [(0, .ref 101), (1, .int ((xs 1))), (2, .int ((xs 2))), (3, .int ((xs 3)))]) (st' := [.int ((xs 3))]) (by decide +kernel) rfl rfl ?_
                  refine ab_fin.s2 (i := .aload_n 0) (k := 1) (pc' := 40) (lv' := [(0, .ref 101), (1, .int ((xs 1))), (2, .int ((xs 2))), (3, .int ((xs 3)))]) (st' := [.ref 101, .int ((xs 3))]) (by decide +kernel) rfl rfl ?_
                  refine ab_fin.getf (ix := 17) (k := 0) (v := .ref 102) (pc' := 43) (by decide +kernel) rfl (ab_ov_get (lt0 101 (by decide)) rfl) rfl rfl ?_
                  refine ab_fin.s2 (i := .iload_n 1) (k := 1) (pc' := 44) (lv' := [(0, .ref 101), (1, .int ((xs 1))), (2, .int ((xs 2))), (3, .int ((xs 3)))]) (st' := [.int ((xs 1)), .ref 102, .int ((xs 3))]) (by decide +kernel) rfl rfl ?_
                  have q21 : (xs 1) = 0 := (by have l0 : (0 : Int32).toInt = 0 := rfl; have l1 : (1 : Int32).toInt = 1 := rfl; have l2 : (2 : Int32).toInt = 2 := rfl; have l3 : (3 : Int32).toInt = 3 := rfl; simp only [← Int32.toInt_inj, Int32.lt_iff_toInt_lt, Int32.le_iff_toInt_le, l0, l1, l2, l3] at q1 q2 q3 q4 q5 q6 q7 q10 q11 ⊢; omega)
                  rw [q21]
                  refine ab_fin.aald (v := .ref 2294) (pc' := 45) (by decide +kernel) (ab_ov_no f_102 rfl) (by decide) rfl (ab_bd (n := 24) (by rw [p1_n102]) (by decide +kernel)) rfl rfl ?_
                  refine ab_fin.getf (ix := 79) (k := 5) (v := .ref 2302) (pc' := 48) (by decide +kernel) rfl (ab_ov_no f_2294 rfl) rfl rfl ?_
                  refine ab_fin.s2 (i := .iload_n 2) (k := 1) (pc' := 49) (lv' := [(0, .ref 101), (1, .int 0), (2, .int ((xs 2))), (3, .int ((xs 3)))]) (st' := [.int ((xs 2)), .ref 2302, .int ((xs 3))]) (by decide +kernel) rfl rfl ?_
                  have q22 : (xs 2) = 2 := (by have l0 : (0 : Int32).toInt = 0 := rfl; have l1 : (1 : Int32).toInt = 1 := rfl; have l2 : (2 : Int32).toInt = 2 := rfl; have l3 : (3 : Int32).toInt = 3 := rfl; simp only [← Int32.toInt_inj, Int32.lt_iff_toInt_lt, Int32.le_iff_toInt_le, l0, l1, l2, l3] at q1 q2 q3 q4 q5 q6 q7 q10 q11 q21 ⊢; omega)
                  rw [q22]
                  refine ab_fin.iald (v := 1) (pc' := 50) (by decide +kernel) (ab_ov_no f_2302 rfl) (ab_bd (n := 3) (by rw [List.length_replicate]) (by decide +kernel)) rfl rfl ?_
                  refine ab_fin.brF (c := (1 : Int32) ≤ (xs 3)) (i := .if_icmp .ge 19) (off := 19) (t := 69) (pc' := 53) (r := []) (by decide +kernel) rfl (by decide +kernel) rfl (by have l0 : (0 : Int32).toInt = 0 := rfl; have l1 : (1 : Int32).toInt = 1 := rfl; have l2 : (2 : Int32).toInt = 2 := rfl; have l3 : (3 : Int32).toInt = 3 := rfl; simp only [← Int32.toInt_inj, Int32.lt_iff_toInt_lt, Int32.le_iff_toInt_le, l0, l1, l2, l3] at q1 q2 q3 q4 q5 q6 q7 q10 q11 q21 q22 ⊢; omega) ?_
                  refine ab_fin.s2 (i := .aload_n 0) (k := 1) (pc' := 54) (lv' := [(0, .ref 101), (1, .int 0), (2, .int 2), (3, .int ((xs 3)))]) (st' := [.ref 101]) (by decide +kernel) rfl rfl ?_
                  refine ab_fin.getf (ix := 17) (k := 0) (v := .ref 102) (pc' := 57) (by decide +kernel) rfl (ab_ov_get (lt0 101 (by decide)) rfl) rfl rfl ?_
                  refine ab_fin.s2 (i := .iload_n 1) (k := 1) (pc' := 58) (lv' := [(0, .ref 101), (1, .int 0), (2, .int 2), (3, .int ((xs 3)))]) (st' := [.int 0, .ref 102]) (by decide +kernel) rfl rfl ?_
                  refine ab_fin.aald (v := .ref 2294) (pc' := 59) (by decide +kernel) (ab_ov_no f_102 rfl) (by decide) rfl (ab_bd (n := 24) (by rw [p1_n102]) (by decide +kernel)) rfl rfl ?_
                  refine ab_fin.getf (ix := 86) (k := 4) (v := .ref 2298) (pc' := 62) (by decide +kernel) rfl (ab_ov_no f_2294 rfl) rfl rfl ?_
                  refine ab_fin.s2 (i := .iload_n 2) (k := 1) (pc' := 63) (lv' := [(0, .ref 101), (1, .int 0), (2, .int 2), (3, .int ((xs 3)))]) (st' := [.int 2, .ref 2298]) (by decide +kernel) rfl rfl ?_
                  refine ab_fin.aald (v := .ref 2301) (pc' := 64) (by decide +kernel) (ab_ov_no f_2298 rfl) (by decide) rfl (ab_bd (n := 3) (by rw [p1_n2298]) (by decide +kernel)) rfl rfl ?_
                  refine ab_fin.s2 (i := .iload_n 3) (k := 1) (pc' := 65) (lv' := [(0, .ref 101), (1, .int 0), (2, .int 2), (3, .int ((xs 3)))]) (st' := [.int ((xs 3)), .ref 2301]) (by decide +kernel) rfl rfl ?_
                  have q23 : (xs 3) = 0 := (by have l0 : (0 : Int32).toInt = 0 := rfl; have l1 : (1 : Int32).toInt = 1 := rfl; have l2 : (2 : Int32).toInt = 2 := rfl; have l3 : (3 : Int32).toInt = 3 := rfl; simp only [← Int32.toInt_inj, Int32.lt_iff_toInt_lt, Int32.le_iff_toInt_le, l0, l1, l2, l3] at q1 q2 q3 q4 q5 q6 q7 q10 q11 q21 q22 ⊢; omega)
                  rw [q23]
                  refine ab_fin.iald (v := 0) (pc' := 66) (by decide +kernel) (ab_ov_no f_2301 rfl) (ab_bd (n := 24) (by rw [List.length_replicate]) (by decide +kernel)) rfl rfl ?_
                  refine ab_fin.s3 (i := .goto 4) (k := 3) (t := 70) (st' := [.int 0]) (by decide +kernel) (ab_goto (by decide +kernel)) ?_
                  refine ab_fin.ret (i := .ireturn) (k := 1) (some (.int 0)) (by decide +kernel) rfl ?_
                  refine ab_bk.back (pc' := 630) (st' := [.int 0]) rfl rfl ?_
                  refine ab_fin.s2 (i := .istore 6) (k := 2) (pc' := 632) (lv' := [(6, .int 0), (5, .int 0), (4, .int 0), (3, .ref 3466), (2, .ref 101), (1, .ref 0), (0, .retAddr 9)]) (st' := []) (by decide +kernel) rfl rfl ?_
                  refine ab_fin.s2 (i := .aload_n 2) (k := 1) (pc' := 633) (lv' := [(6, .int 0), (5, .int 0), (4, .int 0), (3, .ref 3466), (2, .ref 101), (1, .ref 0), (0, .retAddr 9)]) (st' := [.ref 101]) (by decide +kernel) rfl rfl ?_
                  refine ab_fin.call (i := .invokevirtual 75) (k := 3) (y := 5992) (As := [.ref 101]) (rest := []) (M' := (mX23_thrown, [])) (by decide +kernel) (ab_cv rfl rfl (ab_ov_get (lt0 101 (by decide)) rfl) ⟨(Nat.le_of_ble_eq_true rfl), (Nat.le_of_ble_eq_true rfl)⟩ rfl) rfl (Nat.le_of_ble_eq_true rfl) ?_
                  show ab_fin _ _ _ _ 0 [(0, .ref 101)] [] _ _
                  refine ab_fin.s2 (i := .aload_n 0) (k := 1) (pc' := 1) (lv' := [(0, .ref 101)]) (st' := [.ref 101]) (by decide +kernel) rfl rfl ?_
                  refine ab_fin.getf (ix := 1000) (k := 110) (v := .int 0) (pc' := 4) (by decide +kernel) rfl (ab_ov_get (lt0 101 (by decide)) rfl) rfl rfl ?_
                  refine ab_fin.ret (i := .ireturn) (k := 1) (some (.int 0)) (by decide +kernel) rfl ?_
                  refine ab_bk.back (pc' := 636) (st' := [.int 0]) rfl rfl ?_
                  refine ab_fin.s2 (i := .iload 5) (k := 2) (pc' := 638) (lv' := [(6, .int 0), (5, .int 0), (4, .int 0), (3, .ref 3466), (2, .ref 101), (1, .ref 0), (0, .retAddr 9)]) (st' := [.int 0, .int 0]) (by decide +kernel) rfl rfl ?_
                  refine ab_fin.brT (c := (0 : Int32) = (0 : Int32)) (i := .if_icmp .eq 5) (off := 5) (t := 643) (r := []) (by decide +kernel) rfl (by decide +kernel) (by decide +kernel) ?_
                  refine ab_fin.s2 (i := .iload 5) (k := 2) (pc' := 645) (lv' := [(6, .int 0), (5, .int 0), (4, .int 0), (3, .ref 3466), (2, .ref 101), (1, .ref 0), (0, .retAddr 9)]) (st' := [.int 0]) (by decide +kernel) rfl rfl ?_
                  refine ab_fin.brF (c := ¬ (0 : Int32) = 0) (i := .ifCond .ne 15) (off := 15) (t := 660) (pc' := 648) (r := []) (by decide +kernel) rfl (by decide +kernel) rfl (by decide +kernel) ?_
                  refine ab_fin.s2 (i := .aload_n 3) (k := 1) (pc' := 649) (lv' := [(6, .int 0), (5, .int 0), (4, .int 0), (3, .ref 3466), (2, .ref 101), (1, .ref 0), (0, .retAddr 9)]) (st' := [.ref 3466]) (by decide +kernel) rfl rfl ?_
                  refine ab_fin.s1i (i := .iconst 0) (k := 1) (pc' := 650) (n := 0) (by decide +kernel) rfl (by decide +kernel) rfl ?_
                  refine ab_fin.lald (v := 0) (pc' := 651) (by decide +kernel) (ab_ov_get (lt0 3466 (by decide)) rfl) (ab_bd (n := 1) (by rw [List.length_set, List.length_replicate]) (by decide +kernel)) rfl rfl ?_
                  refine ab_fin.s2 (i := .iload 6) (k := 2) (pc' := 653) (lv' := [(6, .int 0), (5, .int 0), (4, .int 0), (3, .ref 3466), (2, .ref 101), (1, .ref 0), (0, .retAddr 9)]) (st' := [.int 0, .long 0]) (by decide +kernel) rfl rfl ?_
                  refine ab_fin.s1l (i := .i2l) (k := 1) (pc' := 654) (n := 0) (by decide +kernel) rfl (by decide +kernel) rfl ?_
                  refine ab_fin.s1i (i := .lcmp) (k := 1) (pc' := 655) (n := 0) (by decide +kernel) rfl (by decide +kernel) rfl ?_
                  refine ab_fin.brT (c := (0 : Int32) = 0) (i := .ifCond .eq 5) (off := 5) (t := 660) (r := []) (by decide +kernel) rfl (by decide +kernel) (by decide +kernel) ?_
                  refine ab_fin.s3 (i := .goto 430) (k := 3) (t := 1090) (st' := []) (by decide +kernel) (ab_goto (by decide +kernel)) ?_
                  refine ab_fin.inc (i := .iinc 4 6) (k := 3) (pc' := 1093) (j := 4) (n := 6) (lv' := [(6, .int 0), (5, .int 0), (3, .ref 3466), (2, .ref 101), (1, .ref 0), (0, .retAddr 9)]) (by decide +kernel) rfl (by decide +kernel) rfl ?_
                  refine ab_fin.s3 (i := .goto (-1070)) (k := 3) (t := 23) (st' := []) (by decide +kernel) (ab_goto (by decide +kernel)) ?_
                  refine ab_fin.s2 (i := .iload 4) (k := 2) (pc' := 25) (lv' := [(4, .int 6), (6, .int 0), (5, .int 0), (3, .ref 3466), (2, .ref 101), (1, .ref 0), (0, .retAddr 9)]) (st' := [.int 6]) (by decide +kernel) rfl rfl ?_
                  refine ab_fin.s2 (i := .aload_n 0) (k := 1) (pc' := 26) (lv' := [(4, .int 6), (6, .int 0), (5, .int 0), (3, .ref 3466), (2, .ref 101), (1, .ref 0), (0, .retAddr 9)]) (st' := [.retAddr 9, .int 6]) (by decide +kernel) rfl rfl ?_
                  refine ab_fin.s8 (i := .arraylength) (k := 1) (pc' := 27) (st' := [.int 6, .int 6]) (by decide +kernel) rfl rfl rfl rfl ?_
                  refine ab_fin.s1i (i := .bipush 6) (k := 2) (pc' := 29) (n := 6) (by decide +kernel) rfl (by decide +kernel) rfl ?_
                  refine ab_fin.s1i (i := .isub) (k := 1) (pc' := 30) (n := 0) (by decide +kernel) rfl (by decide +kernel) rfl ?_
                  refine ab_fin.brT (c := (0 : Int32) < (6 : Int32)) (i := .if_icmp .gt 1066) (off := 1066) (t := 1096) (r := []) (by decide +kernel) rfl (by decide +kernel) (by decide +kernel) ?_
                  refine ab_fin.s1i (i := .iconst 1) (k := 1) (pc' := 1097) (n := 1) (by decide +kernel) rfl (by decide +kernel) rfl ?_
                  refine ab_fin.ret (i := .ireturn) (k := 1) (some (.int 1)) (by decide +kernel) rfl ?_
                  refine ⟨rfl, ?_, ?_⟩
                  · rw [ab_ov_len, hl]; decide
                  · refine Nat.le_trans (ab_ov_z _ _) ?_
                    simp only [List.map, List.sum_cons, List.sum_nil, ab_z1, ab_len, List.length_set, List.length_replicate, List.length_cons, List.length_nil, p1_n101]
                    omega
            · rw [q6]
              refine ab_fin.iald (v := 2) (pc' := 53) (by decide +kernel) (ab_ov_no f_5 rfl) (ab_bd (n := 24) (by rw [p1_n5]) (by decide +kernel)) rfl rfl ?_
              refine ab_fin.br (c := (2 : Int32) ≤ (xs 3)) (i := .if_icmp .ge 19) (off := 19) (t := 72) (pc' := 56) (r := []) (by decide +kernel) rfl (by decide +kernel) rfl (fun q24 => ?_) (fun q24 => ?_)
              · refine ab_fin.s1i (i := .iconst (-1)) (k := 1) (pc' := 73) (n := (-1)) (by decide +kernel) rfl (by decide +kernel) rfl ?_
                refine ab_fin.ret (i := .ireturn) (k := 1) (some (.int (-1))) (by decide +kernel) rfl ?_
                refine ab_bk.back (pc' := 10) (st' := [.int (-1), .int 0, .ref 3466]) rfl rfl ?_
                refine ab_fin.s1l (i := .i2l) (k := 1) (pc' := 11) (n := (-1)) (by decide +kernel) rfl (by decide +kernel) rfl ?_
                refine ab_fin.last (h1 := ab_ov h [(3466, .inr (.inl (1, .inr (.inl ((List.replicate 1 0).set 0 ((-1)))))))]) (pc' := 12) (by decide +kernel) (ab_ov_no f_3466 rfl) (ab_bd (n := 1) (by rw [List.length_replicate]) (by decide +kernel)) (ab_ov_set rfl) rfl ?_
                refine ab_fin.s3 (i := .goto 11) (k := 3) (t := 23) (st' := []) (by decide +kernel) (ab_goto (by decide +kernel)) ?_
                refine ab_fin.s1i (i := .iconst 0) (k := 1) (pc' := 24) (n := 0) (by decide +kernel) rfl (by decide +kernel) rfl ?_
                refine ab_fin.ret (i := .ireturn) (k := 1) (some (.int 0)) (by decide +kernel) rfl ?_
                refine ab_bk.back (pc' := 606) (st' := [.int 0]) rfl rfl ?_
                refine ab_fin.s2 (i := .istore 5) (k := 2) (pc' := 608) (lv' := [(5, .int 0), (4, .int 0), (3, .ref 3466), (2, .ref 101), (1, .ref 0), (0, .retAddr 9)]) (st' := []) (by decide +kernel) rfl rfl ?_
                refine ab_fin.s2 (i := .aload_n 2) (k := 1) (pc' := 609) (lv' := [(5, .int 0), (4, .int 0), (3, .ref 3466), (2, .ref 101), (1, .ref 0), (0, .retAddr 9)]) (st' := [.ref 101]) (by decide +kernel) rfl rfl ?_
                refine ab_fin.s2 (i := .aload_n 0) (k := 1) (pc' := 610) (lv' := [(5, .int 0), (4, .int 0), (3, .ref 3466), (2, .ref 101), (1, .ref 0), (0, .retAddr 9)]) (st' := [.retAddr 9, .ref 101]) (by decide +kernel) rfl rfl ?_
                refine ab_fin.s2 (i := .iload 4) (k := 2) (pc' := 612) (lv' := [(5, .int 0), (4, .int 0), (3, .ref 3466), (2, .ref 101), (1, .ref 0), (0, .retAddr 9)]) (st' := [.int 0, .retAddr 9, .ref 101]) (by decide +kernel) rfl rfl ?_
                refine ab_fin.s1i (i := .iconst 1) (k := 1) (pc' := 613) (n := 1) (by decide +kernel) rfl (by decide +kernel) rfl ?_
                refine ab_fin.s1i (i := .iadd) (k := 1) (pc' := 614) (n := 1) (by decide +kernel) rfl (by decide +kernel) rfl ?_
                refine ab_fin.s8 (i := .iaload) (k := 1) (pc' := 615) (st' := [.int ((xs 1)), .ref 101]) (by decide +kernel) (ab_x0 rfl (by decide +kernel) rfl) rfl rfl rfl ?_
                refine ab_fin.s2 (i := .aload_n 0) (k := 1) (pc' := 616) (lv' := [(5, .int 0), (4, .int 0), (3, .ref 3466), (2, .ref 101), (1, .ref 0), (0, .retAddr 9)]) (st' := [.retAddr 9, .int ((xs 1)), .ref 101]) (by decide +kernel) rfl rfl ?_
                refine ab_fin.s2 (i := .iload 4) (k := 2) (pc' := 618) (lv' := [(5, .int 0), (4, .int 0), (3, .ref 3466), (2, .ref 101), (1, .ref 0), (0, .retAddr 9)]) (st' := [.int 0, .retAddr 9, .int ((xs 1)), .ref 101]) (by decide +kernel) rfl rfl ?_
                refine ab_fin.s1i (i := .iconst 2) (k := 1) (pc' := 619) (n := 2) (by decide +kernel) rfl (by decide +kernel) rfl ?_
                refine ab_fin.s1i (i := .iadd) (k := 1) (pc' := 620) (n := 2) (by decide +kernel) rfl (by decide +kernel) rfl ?_
                refine ab_fin.s8 (i := .iaload) (k := 1) (pc' := 621) (st' := [.int ((xs 2)), .int ((xs 1)), .ref 101]) (by decide +kernel) (ab_x0 rfl (by decide +kernel) rfl) rfl rfl rfl ?_
                refine ab_fin.s2 (i := .aload_n 0) (k := 1) (pc' := 622) (lv' := [(5, .int 0), (4, .int 0), (3, .ref 3466), (2, .ref 101), (1, .ref 0), (0, .retAddr 9)]) (st' := [.retAddr 9, .int ((xs 2)), .int ((xs 1)), .ref 101]) (by decide +kernel) rfl rfl ?_
                refine ab_fin.s2 (i := .iload 4) (k := 2) (pc' := 624) (lv' := [(5, .int 0), (4, .int 0), (3, .ref 3466), (2, .ref 101), (1, .ref 0), (0, .retAddr 9)]) (st' := [.int 0, .retAddr 9, .int ((xs 2)), .int ((xs 1)), .ref 101]) (by decide +kernel) rfl rfl ?_
                refine ab_fin.s1i (i := .iconst 3) (k := 1) (pc' := 625) (n := 3) (by decide +kernel) rfl (by decide +kernel) rfl ?_
                refine ab_fin.s1i (i := .iadd) (k := 1) (pc' := 626) (n := 3) (by decide +kernel) rfl (by decide +kernel) rfl ?_
                refine ab_fin.s8 (i := .iaload) (k := 1) (pc' := 627) (st' := [.int ((xs 3)), .int ((xs 2)), .int ((xs 1)), .ref 101]) (by decide +kernel) (ab_x0 rfl (by decide +kernel) rfl) rfl rfl rfl ?_
                refine ab_fin.call (i := .invokevirtual 110) (k := 3) (y := 6003) (As := [.ref 101, .int ((xs 1)), .int ((xs 2)), .int ((xs 3))]) (rest := []) (M' := (mX23_row, [])) (by decide +kernel) (ab_cv rfl rfl (ab_ov_no f_101 rfl) ⟨(Nat.le_of_ble_eq_true rfl), (Nat.le_of_ble_eq_true rfl)⟩ rfl) rfl (Nat.le_of_ble_eq_true rfl) ?_
                show ab_fin _ _ _ _ 0 [(0, .ref 101), (1, .int ((xs 1))), (2, .int ((xs 2))), (3, .int ((xs 3)))] [] _ _
                refine ab_fin.s2 (i := .aload_n 0) (k := 1) (pc' := 1) (lv' := [(0, .ref 101), (1, .int ((xs 1))), (2, .int ((xs 2))), (3, .int ((xs 3)))]) (st' := [.ref 101]) (by decide +kernel) rfl rfl ?_
                refine ab_fin.s1i (i := .iconst 0) (k := 1) (pc' := 2) (n := 0) (by decide +kernel) rfl (by decide +kernel) rfl ?_
                refine ab_fin.putf (ix := 1000) (h1 := ab_ov h [(101, .inr (.inr (24, (p1_o101).set 110 (.int 0)))), (3466, .inr (.inl (1, .inr (.inl ((List.replicate 1 0).set 0 ((-1)))))))]) (pc' := 5) (by decide +kernel) rfl (ab_ov_no f_101 rfl) (ab_klt (n := 115) (by rw [p1_n101]) (by decide)) rfl rfl (ab_ov_set rfl) rfl ?_
                refine ab_fin.s2 (i := .aload_n 0) (k := 1) (pc' := 6) (lv' := [(0, .ref 101), (1, .int ((xs 1))), (2, .int ((xs 2))), (3, .int ((xs 3)))]) (st' := [.ref 101]) (by decide +kernel) rfl rfl ?_
                refine ab_fin.s2 (i := .iload_n 1) (k := 1) (pc' := 7) (lv' := [(0, .ref 101), (1, .int ((xs 1))), (2, .int ((xs 2))), (3, .int ((xs 3)))]) (st' := [.int ((xs 1)), .ref 101]) (by decide +kernel) rfl rfl ?_
                refine ab_fin.call (i := .invokevirtual 1018) (k := 3) (y := 6001) (As := [.ref 101, .int ((xs 1))]) (rest := []) (M' := (mX23_isKind, [])) (by decide +kernel) (ab_cv rfl rfl (ab_ov_get (lt0 101 (by decide)) rfl) ⟨(Nat.le_of_ble_eq_true rfl), (Nat.le_of_ble_eq_true rfl)⟩ rfl) rfl (Nat.le_of_ble_eq_true rfl) ?_
                show ab_fin _ _ _ _ 0 [(0, .ref 101), (1, .int ((xs 1)))] [] _ _
                refine ab_fin.s2 (i := .iload_n 1) (k := 1) (pc' := 1) (lv' := [(0, .ref 101), (1, .int ((xs 1)))]) (st' := [.int ((xs 1))]) (by decide +kernel) rfl rfl ?_
                refine ab_fin.brF (c := (xs 1) < 0) (i := .ifCond .lt 15) (off := 15) (t := 16) (pc' := 4) (r := []) (by decide +kernel) rfl (by decide +kernel) rfl (by have l0 : (0 : Int32).toInt = 0 := rfl; have l1 : (1 : Int32).toInt = 1 := rfl; have l2 : (2 : Int32).toInt = 2 := rfl; have l3 : (3 : Int32).toInt = 3 := rfl; simp only [← Int32.toInt_inj, Int32.lt_iff_toInt_lt, Int32.le_iff_toInt_le, l0, l1, l2, l3] at q1 q2 q3 q4 q5 q6 q24 ⊢; omega) ?_
                refine ab_fin.s2 (i := .iload_n 1) (k := 1) (pc' := 5) (lv' := [(0, .ref 101), (1, .int ((xs 1)))]) (st' := [.int ((xs 1))]) (by decide +kernel) rfl rfl ?_
                refine ab_fin.s2 (i := .aload_n 0) (k := 1) (pc' := 6) (lv' := [(0, .ref 101), (1, .int ((xs 1)))]) (st' := [.ref 101, .int ((xs 1))]) (by decide +kernel) rfl rfl ?_
                refine ab_fin.getf (ix := 13) (k := 4) (v := .int 3) (pc' := 9) (by decide +kernel) rfl (ab_ov_get (lt0 101 (by decide)) rfl) rfl rfl ?_
                refine ab_fin.brF (c := (3 : Int32) ≤ (xs 1)) (i := .if_icmp .ge 7) (off := 7) (t := 16) (pc' := 12) (r := []) (by decide +kernel) rfl (by decide +kernel) rfl (by have l0 : (0 : Int32).toInt = 0 := rfl; have l1 : (1 : Int32).toInt = 1 := rfl; have l2 : (2 : Int32).toInt = 2 := rfl; have l3 : (3 : Int32).toInt = 3 := rfl; simp only [← Int32.toInt_inj, Int32.lt_iff_toInt_lt, Int32.le_iff_toInt_le, l0, l1, l2, l3] at q1 q2 q3 q4 q5 q6 q24 ⊢; omega) ?_
                refine ab_fin.s1i (i := .iconst 1) (k := 1) (pc' := 13) (n := 1) (by decide +kernel) rfl (by decide +kernel) rfl ?_
                refine ab_fin.s3 (i := .goto 4) (k := 3) (t := 17) (st' := [.int 1]) (by decide +kernel) (ab_goto (by decide +kernel)) ?_
                refine ab_fin.ret (i := .ireturn) (k := 1) (some (.int 1)) (by decide +kernel) rfl ?_
                refine ab_bk.back (pc' := 10) (st' := [.int 1]) rfl rfl ?_
                refine ab_fin.brF (c := (1 : Int32) = 0) (i := .ifCond .eq 7) (off := 7) (t := 17) (pc' := 13) (r := []) (by decide +kernel) rfl (by decide +kernel) rfl (by decide +kernel) ?_
                refine ab_fin.s2 (i := .iload_n 3) (k := 1) (pc' := 14) (lv' := [(0, .ref 101), (1, .int ((xs 1))), (2, .int ((xs 2))), (3, .int ((xs 3)))]) (st' := [.int ((xs 3))]) (by decide +kernel) rfl rfl ?_
                refine ab_fin.brT (c := 0 ≤ (xs 3)) (i := .ifCond .ge 9) (off := 9) (t := 23) (r := []) (by decide +kernel) rfl (by decide +kernel) (by have l0 : (0 : Int32).toInt = 0 := rfl; have l1 : (1 : Int32).toInt = 1 := rfl; have l2 : (2 : Int32).toInt = 2 := rfl; have l3 : (3 : Int32).toInt = 3 := rfl; simp only [← Int32.toInt_inj, Int32.lt_iff_toInt_lt, Int32.le_iff_toInt_le, l0, l1, l2, l3] at q1 q2 q3 q4 q5 q6 q24 ⊢; omega) ?_
                refine ab_fin.s2 (i := .iload_n 2) (k := 1) (pc' := 24) (lv' := [(0, .ref 101), (1, .int ((xs 1))), (2, .int ((xs 2))), (3, .int ((xs 3)))]) (st' := [.int ((xs 2))]) (by decide +kernel) rfl rfl ?_
                refine ab_fin.brF (c := (xs 2) < 0) (i := .ifCond .lt 8) (off := 8) (t := 32) (pc' := 27) (r := []) (by decide +kernel) rfl (by decide +kernel) rfl (by have l0 : (0 : Int32).toInt = 0 := rfl; have l1 : (1 : Int32).toInt = 1 := rfl; have l2 : (2 : Int32).toInt = 2 := rfl; have l3 : (3 : Int32).toInt = 3 := rfl; simp only [← Int32.toInt_inj, Int32.lt_iff_toInt_lt, Int32.le_iff_toInt_le, l0, l1, l2, l3] at q1 q2 q3 q4 q5 q6 q24 ⊢; omega) ?_
                refine ab_fin.s2 (i := .iload_n 2) (k := 1) (pc' := 28) (lv' := [(0, .ref 101), (1, .int ((xs 1))), (2, .int ((xs 2))), (3, .int ((xs 3)))]) (st' := [.int ((xs 2))]) (by decide +kernel) rfl rfl ?_
                refine ab_fin.s1i (i := .iconst 2) (k := 1) (pc' := 29) (n := 2) (by decide +kernel) rfl (by decide +kernel) rfl ?_
                refine ab_fin.brT (c := (xs 2) ≤ (2 : Int32)) (i := .if_icmp .le 9) (off := 9) (t := 38) (r := []) (by decide +kernel) rfl (by decide +kernel) (by have l0 : (0 : Int32).toInt = 0 := rfl; have l1 : (1 : Int32).toInt = 1 := rfl; have l2 : (2 : Int32).toInt = 2 := rfl; have l3 : (3 : Int32).toInt = 3 := rfl; simp only [← Int32.toInt_inj, Int32.lt_iff_toInt_lt, Int32.le_iff_toInt_le, l0, l1, l2, l3] at q1 q2 q3 q4 q5 q6 q24 ⊢; omega) ?_
                refine ab_fin.s2 (i := .iload_n 3) (k := 1) (pc' := 39) (lv' := [(0, .ref 101), (1, .int ((xs 1))), (2, .int ((xs 2))), (3, .int ((xs 3)))]) (st' := [.int ((xs 3))]) (by decide +kernel) rfl rfl ?_
                refine ab_fin.s2 (i := .aload_n 0) (k := 1) (pc' := 40) (lv' := [(0, .ref 101), (1, .int ((xs 1))), (2, .int ((xs 2))), (3, .int ((xs 3)))]) (st' := [.ref 101, .int ((xs 3))]) (by decide +kernel) rfl rfl ?_
                refine ab_fin.getf (ix := 17) (k := 0) (v := .ref 102) (pc' := 43) (by decide +kernel) rfl (ab_ov_get (lt0 101 (by decide)) rfl) rfl rfl ?_
                refine ab_fin.s2 (i := .iload_n 1) (k := 1) (pc' := 44) (lv' := [(0, .ref 101), (1, .int ((xs 1))), (2, .int ((xs 2))), (3, .int ((xs 3)))]) (st' := [.int ((xs 1)), .ref 102, .int ((xs 3))]) (by decide +kernel) rfl rfl ?_
                have q25 : (xs 1) = 1 := (by have l0 : (0 : Int32).toInt = 0 := rfl; have l1 : (1 : Int32).toInt = 1 := rfl; have l2 : (2 : Int32).toInt = 2 := rfl; have l3 : (3 : Int32).toInt = 3 := rfl; simp only [← Int32.toInt_inj, Int32.lt_iff_toInt_lt, Int32.le_iff_toInt_le, l0, l1, l2, l3] at q1 q2 q3 q4 q5 q6 q24 ⊢; omega)
                rw [q25]
                refine ab_fin.aald (v := .ref 2303) (pc' := 45) (by decide +kernel) (ab_ov_no f_102 rfl) (by decide) rfl (ab_bd (n := 24) (by rw [p1_n102]) (by decide +kernel)) rfl rfl ?_
                refine ab_fin.getf (ix := 79) (k := 5) (v := .ref 2311) (pc' := 48) (by decide +kernel) rfl (ab_ov_no f_2303 rfl) rfl rfl ?_
                refine ab_fin.s2 (i := .iload_n 2) (k := 1) (pc' := 49) (lv' := [(0, .ref 101), (1, .int 1), (2, .int ((xs 2))), (3, .int ((xs 3)))]) (st' := [.int ((xs 2)), .ref 2311, .int ((xs 3))]) (by decide +kernel) rfl rfl ?_
                have q26 : (xs 2) = 0 ∨ (xs 2) = 1 ∨ (xs 2) = 2 := (by have l0 : (0 : Int32).toInt = 0 := rfl; have l1 : (1 : Int32).toInt = 1 := rfl; have l2 : (2 : Int32).toInt = 2 := rfl; have l3 : (3 : Int32).toInt = 3 := rfl; simp only [← Int32.toInt_inj, Int32.lt_iff_toInt_lt, Int32.le_iff_toInt_le, l0, l1, l2, l3] at q1 q2 q3 q4 q5 q6 q24 q25 ⊢; omega)
                rcases q26 with q26 | q26 | q26
                · rw [q26]
                  refine ab_fin.iald (v := 2) (pc' := 50) (by decide +kernel) (ab_ov_no f_2311 rfl) (ab_bd (n := 3) (by rw [List.length_replicate]) (by decide +kernel)) rfl rfl ?_
                  refine ab_fin.brT (c := (2 : Int32) ≤ (xs 3)) (i := .if_icmp .ge 19) (off := 19) (t := 69) (r := []) (by decide +kernel) rfl (by decide +kernel) (by have l0 : (0 : Int32).toInt = 0 := rfl; have l1 : (1 : Int32).toInt = 1 := rfl; have l2 : (2 : Int32).toInt = 2 := rfl; have l3 : (3 : Int32).toInt = 3 := rfl; simp only [← Int32.toInt_inj, Int32.lt_iff_toInt_lt, Int32.le_iff_toInt_le, l0, l1, l2, l3] at q1 q2 q3 q4 q5 q6 q24 q25 q26 ⊢; omega) ?_
                  refine ab_fin.s1i (i := .iconst (-1)) (k := 1) (pc' := 70) (n := (-1)) (by decide +kernel) rfl (by decide +kernel) rfl ?_
                  refine ab_fin.ret (i := .ireturn) (k := 1) (some (.int (-1))) (by decide +kernel) rfl ?_
                  refine ab_bk.back (pc' := 630) (st' := [.int (-1)]) rfl rfl ?_
                  refine ab_fin.s2 (i := .istore 6) (k := 2) (pc' := 632) (lv' := [(6, .int (-1)), (5, .int 0), (4, .int 0), (3, .ref 3466), (2, .ref 101), (1, .ref 0), (0, .retAddr 9)]) (st' := []) (by decide +kernel) rfl rfl ?_
                  refine ab_fin.s2 (i := .aload_n 2) (k := 1) (pc' := 633) (lv' := [(6, .int (-1)), (5, .int 0), (4, .int 0), (3, .ref 3466), (2, .ref 101), (1, .ref 0), (0, .retAddr 9)]) (st' := [.ref 101]) (by decide +kernel) rfl rfl ?_
                  refine ab_fin.call (i := .invokevirtual 75) (k := 3) (y := 5992) (As := [.ref 101]) (rest := []) (M' := (mX23_thrown, [])) (by decide +kernel) (ab_cv rfl rfl (ab_ov_get (lt0 101 (by decide)) rfl) ⟨(Nat.le_of_ble_eq_true rfl), (Nat.le_of_ble_eq_true rfl)⟩ rfl) rfl (Nat.le_of_ble_eq_true rfl) ?_
                  show ab_fin _ _ _ _ 0 [(0, .ref 101)] [] _ _
                  refine ab_fin.s2 (i := .aload_n 0) (k := 1) (pc' := 1) (lv' := [(0, .ref 101)]) (st' := [.ref 101]) (by decide +kernel) rfl rfl ?_
                  refine ab_fin.getf (ix := 1000) (k := 110) (v := .int 0) (pc' := 4) (by decide +kernel) rfl (ab_ov_get (lt0 101 (by decide)) rfl) rfl rfl ?_
                  refine ab_fin.ret (i := .ireturn) (k := 1) (some (.int 0)) (by decide +kernel) rfl ?_
                  refine ab_bk.back (pc' := 636) (st' := [.int 0]) rfl rfl ?_
                  refine ab_fin.s2 (i := .iload 5) (k := 2) (pc' := 638) (lv' := [(6, .int (-1)), (5, .int 0), (4, .int 0), (3, .ref 3466), (2, .ref 101), (1, .ref 0), (0, .retAddr 9)]) (st' := [.int 0, .int 0]) (by decide +kernel) rfl rfl ?_
                  refine ab_fin.brT (c := (0 : Int32) = (0 : Int32)) (i := .if_icmp .eq 5) (off := 5) (t := 643) (r := []) (by decide +kernel) rfl (by decide +kernel) (by decide +kernel) ?_
                  refine ab_fin.s2 (i := .iload 5) (k := 2) (pc' := 645) (lv' := [(6, .int (-1)), (5, .int 0), (4, .int 0), (3, .ref 3466), (2, .ref 101), (1, .ref 0), (0, .retAddr 9)]) (st' := [.int 0]) (by decide +kernel) rfl rfl ?_
                  refine ab_fin.brF (c := ¬ (0 : Int32) = 0) (i := .ifCond .ne 15) (off := 15) (t := 660) (pc' := 648) (r := []) (by decide +kernel) rfl (by decide +kernel) rfl (by decide +kernel) ?_
                  refine ab_fin.s2 (i := .aload_n 3) (k := 1) (pc' := 649) (lv' := [(6, .int (-1)), (5, .int 0), (4, .int 0), (3, .ref 3466), (2, .ref 101), (1, .ref 0), (0, .retAddr 9)]) (st' := [.ref 3466]) (by decide +kernel) rfl rfl ?_
                  refine ab_fin.s1i (i := .iconst 0) (k := 1) (pc' := 650) (n := 0) (by decide +kernel) rfl (by decide +kernel) rfl ?_
                  refine ab_fin.lald (v := (-1)) (pc' := 651) (by decide +kernel) (ab_ov_get (lt0 3466 (by decide)) rfl) (ab_bd (n := 1) (by rw [List.length_set, List.length_replicate]) (by decide +kernel)) rfl rfl ?_
                  refine ab_fin.s2 (i := .iload 6) (k := 2) (pc' := 653) (lv' := [(6, .int (-1)), (5, .int 0), (4, .int 0), (3, .ref 3466), (2, .ref 101), (1, .ref 0), (0, .retAddr 9)]) (st' := [.int (-1), .long (-1)]) (by decide +kernel) rfl rfl ?_
                  refine ab_fin.s1l (i := .i2l) (k := 1) (pc' := 654) (n := (-1)) (by decide +kernel) rfl (by decide +kernel) rfl ?_
                  refine ab_fin.s1i (i := .lcmp) (k := 1) (pc' := 655) (n := 0) (by decide +kernel) rfl (by decide +kernel) rfl ?_
                  refine ab_fin.brT (c := (0 : Int32) = 0) (i := .ifCond .eq 5) (off := 5) (t := 660) (r := []) (by decide +kernel) rfl (by decide +kernel) (by decide +kernel) ?_
                  refine ab_fin.s3 (i := .goto 430) (k := 3) (t := 1090) (st' := []) (by decide +kernel) (ab_goto (by decide +kernel)) ?_
                  refine ab_fin.inc (i := .iinc 4 6) (k := 3) (pc' := 1093) (j := 4) (n := 6) (lv' := [(6, .int (-1)), (5, .int 0), (3, .ref 3466), (2, .ref 101), (1, .ref 0), (0, .retAddr 9)]) (by decide +kernel) rfl (by decide +kernel) rfl ?_
                  refine ab_fin.s3 (i := .goto (-1070)) (k := 3) (t := 23) (st' := []) (by decide +kernel) (ab_goto (by decide +kernel)) ?_
                  refine ab_fin.s2 (i := .iload 4) (k := 2) (pc' := 25) (lv' := [(4, .int 6), (6, .int (-1)), (5, .int 0), (3, .ref 3466), (2, .ref 101), (1, .ref 0), (0, .retAddr 9)]) (st' := [.int 6]) (by decide +kernel) rfl rfl ?_
                  refine ab_fin.s2 (i := .aload_n 0) (k := 1) (pc' := 26) (lv' := [(4, .int 6), (6, .int (-1)), (5, .int 0), (3, .ref 3466), (2, .ref 101), (1, .ref 0), (0, .retAddr 9)]) (st' := [.retAddr 9, .int 6]) (by decide +kernel) rfl rfl ?_
                  refine ab_fin.s8 (i := .arraylength) (k := 1) (pc' := 27) (st' := [.int 6, .int 6]) (by decide +kernel) rfl rfl rfl rfl ?_
                  refine ab_fin.s1i (i := .bipush 6) (k := 2) (pc' := 29) (n := 6) (by decide +kernel) rfl (by decide +kernel) rfl ?_
                  refine ab_fin.s1i (i := .isub) (k := 1) (pc' := 30) (n := 0) (by decide +kernel) rfl (by decide +kernel) rfl ?_
                  refine ab_fin.brT (c := (0 : Int32) < (6 : Int32)) (i := .if_icmp .gt 1066) (off := 1066) (t := 1096) (r := []) (by decide +kernel) rfl (by decide +kernel) (by decide +kernel) ?_
                  refine ab_fin.s1i (i := .iconst 1) (k := 1) (pc' := 1097) (n := 1) (by decide +kernel) rfl (by decide +kernel) rfl ?_
                  refine ab_fin.ret (i := .ireturn) (k := 1) (some (.int 1)) (by decide +kernel) rfl ?_
                  refine ⟨rfl, ?_, ?_⟩
                  · rw [ab_ov_len, hl]; decide
                  · refine Nat.le_trans (ab_ov_z _ _) ?_
                    simp only [List.map, List.sum_cons, List.sum_nil, ab_z1, ab_len, List.length_set, List.length_replicate, List.length_cons, List.length_nil, p1_n101]
                    omega
                · rw [q26]
                  refine ab_fin.iald (v := 2) (pc' := 50) (by decide +kernel) (ab_ov_no f_2311 rfl) (ab_bd (n := 3) (by rw [List.length_replicate]) (by decide +kernel)) rfl rfl ?_
                  refine ab_fin.brT (c := (2 : Int32) ≤ (xs 3)) (i := .if_icmp .ge 19) (off := 19) (t := 69) (r := []) (by decide +kernel) rfl (by decide +kernel) (by have l0 : (0 : Int32).toInt = 0 := rfl; have l1 : (1 : Int32).toInt = 1 := rfl; have l2 : (2 : Int32).toInt = 2 := rfl; have l3 : (3 : Int32).toInt = 3 := rfl; simp only [← Int32.toInt_inj, Int32.lt_iff_toInt_lt, Int32.le_iff_toInt_le, l0, l1, l2, l3] at q1 q2 q3 q4 q5 q6 q24 q25 q26 ⊢; omega) ?_
                  refine ab_fin.s1i (i := .iconst (-1)) (k := 1) (pc' := 70) (n := (-1)) (by decide +kernel) rfl (by decide +kernel) rfl ?_
                  refine ab_fin.ret (i := .ireturn) (k := 1) (some (.int (-1))) (by decide +kernel) rfl ?_
                  refine ab_bk.back (pc' := 630) (st' := [.int (-1)]) rfl rfl ?_
                  refine ab_fin.s2 (i := .istore 6) (k := 2) (pc' := 632) (lv' := [(6, .int (-1)), (5, .int 0), (4, .int 0), (3, .ref 3466), (2, .ref 101), (1, .ref 0), (0, .retAddr 9)]) (st' := []) (by decide +kernel) rfl rfl ?_
                  refine ab_fin.s2 (i := .aload_n 2) (k := 1) (pc' := 633) (lv' := [(6, .int (-1)), (5, .int 0), (4, .int 0), (3, .ref 3466), (2, .ref 101), (1, .ref 0), (0, .retAddr 9)]) (st' := [.ref 101]) (by decide +kernel) rfl rfl ?_
                  refine ab_fin.call (i := .invokevirtual 75) (k := 3) (y := 5992) (As := [.ref 101]) (rest := []) (M' := (mX23_thrown, [])) (by decide +kernel) (ab_cv rfl rfl (ab_ov_get (lt0 101 (by decide)) rfl) ⟨(Nat.le_of_ble_eq_true rfl), (Nat.le_of_ble_eq_true rfl)⟩ rfl) rfl (Nat.le_of_ble_eq_true rfl) ?_
                  show ab_fin _ _ _ _ 0 [(0, .ref 101)] [] _ _
                  refine ab_fin.s2 (i := .aload_n 0) (k := 1) (pc' := 1) (lv' := [(0, .ref 101)]) (st' := [.ref 101]) (by decide +kernel) rfl rfl ?_
                  refine ab_fin.getf (ix := 1000) (k := 110) (v := .int 0) (pc' := 4) (by decide +kernel) rfl (ab_ov_get (lt0 101 (by decide)) rfl) rfl rfl ?_
                  refine ab_fin.ret (i := .ireturn) (k := 1) (some (.int 0)) (by decide +kernel) rfl ?_
                  refine ab_bk.back (pc' := 636) (st' := [.int 0]) rfl rfl ?_
                  refine ab_fin.s2 (i := .iload 5) (k := 2) (pc' := 638) (lv' := [(6, .int (-1)), (5, .int 0), (4, .int 0), (3, .ref 3466), (2, .ref 101), (1, .ref 0), (0, .retAddr 9)]) (st' := [.int 0, .int 0]) (by decide +kernel) rfl rfl ?_
                  refine ab_fin.brT (c := (0 : Int32) = (0 : Int32)) (i := .if_icmp .eq 5) (off := 5) (t := 643) (r := []) (by decide +kernel) rfl (by decide +kernel) (by decide +kernel) ?_
                  refine ab_fin.s2 (i := .iload 5) (k := 2) (pc' := 645) (lv' := [(6, .int (-1)), (5, .int 0), (4, .int 0), (3, .ref 3466), (2, .ref 101), (1, .ref 0), (0, .retAddr 9)]) (st' := [.int 0]) (by decide +kernel) rfl rfl ?_
                  refine ab_fin.brF (c := ¬ (0 : Int32) = 0) (i := .ifCond .ne 15) (off := 15) (t := 660) (pc' := 648) (r := []) (by decide +kernel) rfl (by decide +kernel) rfl (by decide +kernel) ?_
                  refine ab_fin.s2 (i := .aload_n 3) (k := 1) (pc' := 649) (lv' := [(6, .int (-1)), (5, .int 0), (4, .int 0), (3, .ref 3466), (2, .ref 101), (1, .ref 0), (0, .retAddr 9)]) (st' := [.ref 3466]) (by decide +kernel) rfl rfl ?_
                  refine ab_fin.s1i (i := .iconst 0) (k := 1) (pc' := 650) (n := 0) (by decide +kernel) rfl (by decide +kernel) rfl ?_
                  refine ab_fin.lald (v := (-1)) (pc' := 651) (by decide +kernel) (ab_ov_get (lt0 3466 (by decide)) rfl) (ab_bd (n := 1) (by rw [List.length_set, List.length_replicate]) (by decide +kernel)) rfl rfl ?_
                  refine ab_fin.s2 (i := .iload 6) (k := 2) (pc' := 653) (lv' := [(6, .int (-1)), (5, .int 0), (4, .int 0), (3, .ref 3466), (2, .ref 101), (1, .ref 0), (0, .retAddr 9)]) (st' := [.int (-1), .long (-1)]) (by decide +kernel) rfl rfl ?_
                  refine ab_fin.s1l (i := .i2l) (k := 1) (pc' := 654) (n := (-1)) (by decide +kernel) rfl (by decide +kernel) rfl ?_
                  refine ab_fin.s1i (i := .lcmp) (k := 1) (pc' := 655) (n := 0) (by decide +kernel) rfl (by decide +kernel) rfl ?_
                  refine ab_fin.brT (c := (0 : Int32) = 0) (i := .ifCond .eq 5) (off := 5) (t := 660) (r := []) (by decide +kernel) rfl (by decide +kernel) (by decide +kernel) ?_
                  refine ab_fin.s3 (i := .goto 430) (k := 3) (t := 1090) (st' := []) (by decide +kernel) (ab_goto (by decide +kernel)) ?_
                  refine ab_fin.inc (i := .iinc 4 6) (k := 3) (pc' := 1093) (j := 4) (n := 6) (lv' := [(6, .int (-1)), (5, .int 0), (3, .ref 3466), (2, .ref 101), (1, .ref 0), (0, .retAddr 9)]) (by decide +kernel) rfl (by decide +kernel) rfl ?_
                  refine ab_fin.s3 (i := .goto (-1070)) (k := 3) (t := 23) (st' := []) (by decide +kernel) (ab_goto (by decide +kernel)) ?_
                  refine ab_fin.s2 (i := .iload 4) (k := 2) (pc' := 25) (lv' := [(4, .int 6), (6, .int (-1)), (5, .int 0), (3, .ref 3466), (2, .ref 101), (1, .ref 0), (0, .retAddr 9)]) (st' := [.int 6]) (by decide +kernel) rfl rfl ?_
                  refine ab_fin.s2 (i := .aload_n 0) (k := 1) (pc' := 26) (lv' := [(4, .int 6), (6, .int (-1)), (5, .int 0), (3, .ref 3466), (2, .ref 101), (1, .ref 0), (0, .retAddr 9)]) (st' := [.retAddr 9, .int 6]) (by decide +kernel) rfl rfl ?_
                  refine ab_fin.s8 (i := .arraylength) (k := 1) (pc' := 27) (st' := [.int 6, .int 6]) (by decide +kernel) rfl rfl rfl rfl ?_
                  refine ab_fin.s1i (i := .bipush 6) (k := 2) (pc' := 29) (n := 6) (by decide +kernel) rfl (by decide +kernel) rfl ?_
                  refine ab_fin.s1i (i := .isub) (k := 1) (pc' := 30) (n := 0) (by decide +kernel) rfl (by decide +kernel) rfl ?_
                  refine ab_fin.brT (c := (0 : Int32) < (6 : Int32)) (i := .if_icmp .gt 1066) (off := 1066) (t := 1096) (r := []) (by decide +kernel) rfl (by decide +kernel) (by decide +kernel) ?_
                  refine ab_fin.s1i (i := .iconst 1) (k := 1) (pc' := 1097) (n := 1) (by decide +kernel) rfl (by decide +kernel) rfl ?_
                  refine ab_fin.ret (i := .ireturn) (k := 1) (some (.int 1)) (by decide +kernel) rfl ?_
                  refine ⟨rfl, ?_, ?_⟩
                  · rw [ab_ov_len, hl]; decide
                  · refine Nat.le_trans (ab_ov_z _ _) ?_
                    simp only [List.map, List.sum_cons, List.sum_nil, ab_z1, ab_len, List.length_set, List.length_replicate, List.length_cons, List.length_nil, p1_n101]
                    omega
                · rw [q26]
                  refine ab_fin.iald (v := 2) (pc' := 50) (by decide +kernel) (ab_ov_no f_2311 rfl) (ab_bd (n := 3) (by rw [List.length_replicate]) (by decide +kernel)) rfl rfl ?_
                  refine ab_fin.brT (c := (2 : Int32) ≤ (xs 3)) (i := .if_icmp .ge 19) (off := 19) (t := 69) (r := []) (by decide +kernel) rfl (by decide +kernel) (by have l0 : (0 : Int32).toInt = 0 := rfl; have l1 : (1 : Int32).toInt = 1 := rfl; have l2 : (2 : Int32).toInt = 2 := rfl; have l3 : (3 : Int32).toInt = 3 := rfl; simp only [← Int32.toInt_inj, Int32.lt_iff_toInt_lt, Int32.le_iff_toInt_le, l0, l1, l2, l3] at q1 q2 q3 q4 q5 q6 q24 q25 q26 ⊢; omega) ?_
                  refine ab_fin.s1i (i := .iconst (-1)) (k := 1) (pc' := 70) (n := (-1)) (by decide +kernel) rfl (by decide +kernel) rfl ?_
                  refine ab_fin.ret (i := .ireturn) (k := 1) (some (.int (-1))) (by decide +kernel) rfl ?_
                  refine ab_bk.back (pc' := 630) (st' := [.int (-1)]) rfl rfl ?_
                  refine ab_fin.s2 (i := .istore 6) (k := 2) (pc' := 632) (lv' := [(6, .int (-1)), (5, .int 0), (4, .int 0), (3, .ref 3466), (2, .ref 101), (1, .ref 0), (0, .retAddr 9)]) (st' := []) (by decide +kernel) rfl rfl ?_
                  refine ab_fin.s2 (i := .aload_n 2) (k := 1) (pc' := 633) (lv' := [(6, .int (-1)), (5, .int 0), (4, .int 0), (3, .ref 3466), (2, .ref 101), (1, .ref 0), (0, .retAddr 9)]) (st' := [.ref 101]) (by decide +kernel) rfl rfl ?_
                  refine ab_fin.call (i := .invokevirtual 75) (k := 3) (y := 5992) (As := [.ref 101]) (rest := []) (M' := (mX23_thrown, [])) (by decide +kernel) (ab_cv rfl rfl (ab_ov_get (lt0 101 (by decide)) rfl) ⟨(Nat.le_of_ble_eq_true rfl), (Nat.le_of_ble_eq_true rfl)⟩ rfl) rfl (Nat.le_of_ble_eq_true rfl) ?_
                  show ab_fin _ _ _ _ 0 [(0, .ref 101)] [] _ _
                  refine ab_fin.s2 (i := .aload_n 0) (k := 1) (pc' := 1) (lv' := [(0, .ref 101)]) (st' := [.ref 101]) (by decide +kernel) rfl rfl ?_
                  refine ab_fin.getf (ix := 1000) (k := 110) (v := .int 0) (pc' := 4) (by decide +kernel) rfl (ab_ov_get (lt0 101 (by decide)) rfl) rfl rfl ?_
                  refine ab_fin.ret (i := .ireturn) (k := 1) (some (.int 0)) (by decide +kernel) rfl ?_
                  refine ab_bk.back (pc' := 636) (st' := [.int 0]) rfl rfl ?_
                  refine ab_fin.s2 (i := .iload 5) (k := 2) (pc' := 638) (lv' := [(6, .int (-1)), (5, .int 0), (4, .int 0), (3, .ref 3466), (2, .ref 101), (1, .ref 0), (0, .retAddr 9)]) (st' := [.int 0, .int 0]) (by decide +kernel) rfl rfl ?_
                  refine ab_fin.brT (c := (0 : Int32) = (0 : Int32)) (i := .if_icmp .eq 5) (off := 5) (t := 643) (r := []) (by decide +kernel) rfl (by decide +kernel) (by decide +kernel) ?_
                  refine ab_fin.s2 (i := .iload 5) (k := 2) (pc' := 645) (lv' := [(6, .int (-1)), (5, .int 0), (4, .int 0), (3, .ref 3466), (2, .ref 101), (1, .ref 0), (0, .retAddr 9)]) (st' := [.int 0]) (by decide +kernel) rfl rfl ?_
                  refine ab_fin.brF (c := ¬ (0 : Int32) = 0) (i := .ifCond .ne 15) (off := 15) (t := 660) (pc' := 648) (r := []) (by decide +kernel) rfl (by decide +kernel) rfl (by decide +kernel) ?_
                  refine ab_fin.s2 (i := .aload_n 3) (k := 1) (pc' := 649) (lv' := [(6, .int (-1)), (5, .int 0), (4, .int 0), (3, .ref 3466), (2, .ref 101), (1, .ref 0), (0, .retAddr 9)]) (st' := [.ref 3466]) (by decide +kernel) rfl rfl ?_
                  refine ab_fin.s1i (i := .iconst 0) (k := 1) (pc' := 650) (n := 0) (by decide +kernel) rfl (by decide +kernel) rfl ?_
                  refine ab_fin.lald (v := (-1)) (pc' := 651) (by decide +kernel) (ab_ov_get (lt0 3466 (by decide)) rfl) (ab_bd (n := 1) (by rw [List.length_set, List.length_replicate]) (by decide +kernel)) rfl rfl ?_
                  refine ab_fin.s2 (i := .iload 6) (k := 2) (pc' := 653) (lv' := [(6, .int (-1)), (5, .int 0), (4, .int 0), (3, .ref 3466), (2, .ref 101), (1, .ref 0), (0, .retAddr 9)]) (st' := [.int (-1), .long (-1)]) (by decide +kernel) rfl rfl ?_
                  refine ab_fin.s1l (i := .i2l) (k := 1) (pc' := 654) (n := (-1)) (by decide +kernel) rfl (by decide +kernel) rfl ?_
                  refine ab_fin.s1i (i := .lcmp) (k := 1) (pc' := 655) (n := 0) (by decide +kernel) rfl (by decide +kernel) rfl ?_
                  refine ab_fin.brT (c := (0 : Int32) = 0) (i := .ifCond .eq 5) (off := 5) (t := 660) (r := []) (by decide +kernel) rfl (by decide +kernel) (by decide +kernel) ?_
                  refine ab_fin.s3 (i := .goto 430) (k := 3) (t := 1090) (st' := []) (by decide +kernel) (ab_goto (by decide +kernel)) ?_
                  refine ab_fin.inc (i := .iinc 4 6) (k := 3) (pc' := 1093) (j := 4) (n := 6) (lv' := [(6, .int (-1)), (5, .int 0), (3, .ref 3466), (2, .ref 101), (1, .ref 0), (0, .retAddr 9)]) (by decide +kernel) rfl (by decide +kernel) rfl ?_
                  refine ab_fin.s3 (i := .goto (-1070)) (k := 3) (t := 23) (st' := []) (by decide +kernel) (ab_goto (by decide +kernel)) ?_
                  refine ab_fin.s2 (i := .iload 4) (k := 2) (pc' := 25) (lv' := [(4, .int 6), (6, .int (-1)), (5, .int 0), (3, .ref 3466), (2, .ref 101), (1, .ref 0), (0, .retAddr 9)]) (st' := [.int 6]) (by decide +kernel) rfl rfl ?_
                  refine ab_fin.s2 (i := .aload_n 0) (k := 1) (pc' := 26) (lv' := [(4, .int 6), (6, .int (-1)), (5, .int 0), (3, .ref 3466), (2, .ref 101), (1, .ref 0), (0, .retAddr 9)]) (st' := [.retAddr 9, .int 6]) (by decide +kernel) rfl rfl ?_
                  refine ab_fin.s8 (i := .arraylength) (k := 1) (pc' := 27) (st' := [.int 6, .int 6]) (by decide +kernel) rfl rfl rfl rfl ?_
                  refine ab_fin.s1i (i := .bipush 6) (k := 2) (pc' := 29) (n := 6) (by decide +kernel) rfl (by decide +kernel) rfl ?_
                  refine ab_fin.s1i (i := .isub) (k := 1) (pc' := 30) (n := 0) (by decide +kernel) rfl (by decide +kernel) rfl ?_
                  refine ab_fin.brT (c := (0 : Int32) < (6 : Int32)) (i := .if_icmp .gt 1066) (off := 1066) (t := 1096) (r := []) (by decide +kernel) rfl (by decide +kernel) (by decide +kernel) ?_
                  refine ab_fin.s1i (i := .iconst 1) (k := 1) (pc' := 1097) (n := 1) (by decide +kernel) rfl (by decide +kernel) rfl ?_
                  refine ab_fin.ret (i := .ireturn) (k := 1) (some (.int 1)) (by decide +kernel) rfl ?_
                  refine ⟨rfl, ?_, ?_⟩
                  · rw [ab_ov_len, hl]; decide
                  · refine Nat.le_trans (ab_ov_z _ _) ?_
                    simp only [List.map, List.sum_cons, List.sum_nil, ab_z1, ab_len, List.length_set, List.length_replicate, List.length_cons, List.length_nil, p1_n101]
                    omega
              · refine ab_fin.s2 (i := .aload_n 0) (k := 1) (pc' := 57) (lv' := [(0, .ref 0), (1, .int 1), (2, .int ((xs 2))), (3, .int ((xs 3)))]) (st' := [.ref 0]) (by decide +kernel) rfl rfl ?_
                refine ab_fin.getf (ix := 10) (k := 0) (v := .ref 1) (pc' := 60) (by decide +kernel) rfl (ab_ov_no f_0 rfl) rfl rfl ?_
                refine ab_fin.getf (ix := 160) (k := 0) (v := .ref 2) (pc' := 63) (by decide +kernel) rfl (ab_ov_no f_1 rfl) rfl rfl ?_
                refine ab_fin.s2 (i := .iload_n 2) (k := 1) (pc' := 64) (lv' := [(0, .ref 0), (1, .int 1), (2, .int ((xs 2))), (3, .int ((xs 3)))]) (st' := [.int ((xs 2)), .ref 2]) (by decide +kernel) rfl rfl ?_
                refine ab_fin.s2 (i := .iload_n 1) (k := 1) (pc' := 65) (lv' := [(0, .ref 0), (1, .int 1), (2, .int ((xs 2))), (3, .int ((xs 3)))]) (st' := [.int 1, .int ((xs 2)), .ref 2]) (by decide +kernel) rfl rfl ?_
                refine ab_fin.s2 (i := .iload_n 3) (k := 1) (pc' := 66) (lv' := [(0, .ref 0), (1, .int 1), (2, .int ((xs 2))), (3, .int ((xs 3)))]) (st' := [.int ((xs 3)), .int 1, .int ((xs 2)), .ref 2]) (by decide +kernel) rfl rfl ?_
                refine ab_fin.call (i := .invokevirtual 173) (k := 3) (y := 514) (As := [.ref 2, .int ((xs 2)), .int 1, .int ((xs 3))]) (rest := []) (M' := (mX2_inRow, [])) (by decide +kernel) (ab_cv rfl rfl (ab_ov_no f_2 rfl) ⟨(Nat.le_of_ble_eq_true rfl), (Nat.le_of_ble_eq_true rfl)⟩ rfl) rfl (Nat.le_of_ble_eq_true rfl) ?_
                show ab_fin _ _ _ _ 0 [(0, .ref 2), (1, .int ((xs 2))), (2, .int 1), (3, .int ((xs 3)))] [] _ _
                refine ab_fin.s2 (i := .aload_n 0) (k := 1) (pc' := 1) (lv' := [(0, .ref 2), (1, .int ((xs 2))), (2, .int 1), (3, .int ((xs 3)))]) (st' := [.ref 2]) (by decide +kernel) rfl rfl ?_
                refine ab_fin.getf (ix := 25) (k := 5) (v := .ref 7) (pc' := 4) (by decide +kernel) rfl (ab_ov_no f_2 rfl) rfl rfl ?_
                refine ab_fin.s2 (i := .iload_n 1) (k := 1) (pc' := 5) (lv' := [(0, .ref 2), (1, .int ((xs 2))), (2, .int 1), (3, .int ((xs 3)))]) (st' := [.int ((xs 2)), .ref 7]) (by decide +kernel) rfl rfl ?_
                refine ab_fin.s1i (i := .bipush 24) (k := 2) (pc' := 7) (n := 24) (by decide +kernel) rfl (by decide +kernel) rfl ?_
                refine ab_fin.s1 (i := .imul) (k := 1) (pc' := 8) (st' := [.int (((xs 2) * (24 : Int32))), .ref 7]) (by decide +kernel) rfl rfl ?_
                refine ab_fin.s2 (i := .iload_n 2) (k := 1) (pc' := 9) (lv' := [(0, .ref 2), (1, .int ((xs 2))), (2, .int 1), (3, .int ((xs 3)))]) (st' := [.int 1, .int (((xs 2) * (24 : Int32))), .ref 7]) (by decide +kernel) rfl rfl ?_
                refine ab_fin.s1 (i := .iadd) (k := 1) (pc' := 10) (st' := [.int ((((xs 2) * (24 : Int32)) + (1 : Int32))), .ref 7]) (by decide +kernel) rfl rfl ?_
                refine ab_fin.s1i (i := .bipush 24) (k := 2) (pc' := 12) (n := 24) (by decide +kernel) rfl (by decide +kernel) rfl ?_
                refine ab_fin.s1 (i := .imul) (k := 1) (pc' := 13) (st' := [.int (((((xs 2) * (24 : Int32)) + (1 : Int32)) * (24 : Int32))), .ref 7]) (by decide +kernel) rfl rfl ?_
                refine ab_fin.s2 (i := .iload_n 3) (k := 1) (pc' := 14) (lv' := [(0, .ref 2), (1, .int ((xs 2))), (2, .int 1), (3, .int ((xs 3)))]) (st' := [.int ((xs 3)), .int (((((xs 2) * (24 : Int32)) + (1 : Int32)) * (24 : Int32))), .ref 7]) (by decide +kernel) rfl rfl ?_
                refine ab_fin.s1 (i := .iadd) (k := 1) (pc' := 15) (st' := [.int ((((((xs 2) * (24 : Int32)) + (1 : Int32)) * (24 : Int32)) + (xs 3))), .ref 7]) (by decide +kernel) rfl rfl ?_
                have q27 : (xs 3) = 0 ∨ (xs 3) = 1 := (by have l0 : (0 : Int32).toInt = 0 := rfl; have l1 : (1 : Int32).toInt = 1 := rfl; have l2 : (2 : Int32).toInt = 2 := rfl; have l3 : (3 : Int32).toInt = 3 := rfl; simp only [← Int32.toInt_inj, Int32.lt_iff_toInt_lt, Int32.le_iff_toInt_le, l0, l1, l2, l3] at q1 q2 q3 q4 q5 q6 q24 ⊢; omega)
                rcases q27 with q27 | q27
                · rw [q27]
                  have q28 : (xs 2) = 0 ∨ (xs 2) = 1 ∨ (xs 2) = 2 := (by have l0 : (0 : Int32).toInt = 0 := rfl; have l1 : (1 : Int32).toInt = 1 := rfl; have l2 : (2 : Int32).toInt = 2 := rfl; have l3 : (3 : Int32).toInt = 3 := rfl; simp only [← Int32.toInt_inj, Int32.lt_iff_toInt_lt, Int32.le_iff_toInt_le, l0, l1, l2, l3] at q1 q2 q3 q4 q5 q6 q24 q27 ⊢; omega)
                  rcases q28 with q28 | q28 | q28
                  · rw [q28]
                    try rw [show ((((0 * (24 : Int32)) + (1 : Int32)) * (24 : Int32)) + 0) = (24 : Int32) by decide +kernel]
                    refine ab_fin.iald (v := 1) (pc' := 16) (by decide +kernel) (ab_ov_no f_7 rfl) (ab_bd (n := 1728) (by rw [p1_n7]) (by decide +kernel)) rfl rfl ?_
                    refine ab_fin.ret (i := .ireturn) (k := 1) (some (.int 1)) (by decide +kernel) rfl ?_
                    refine ab_bk.back (pc' := 69) (st' := [.int 1]) rfl rfl ?_
                    refine ab_fin.s3 (i := .goto 4) (k := 3) (t := 73) (st' := [.int 1]) (by decide +kernel) (ab_goto (by decide +kernel)) ?_
                    refine ab_fin.ret (i := .ireturn) (k := 1) (some (.int 1)) (by decide +kernel) rfl ?_
                    refine ab_bk.back (pc' := 10) (st' := [.int 1, .int 0, .ref 3466]) rfl rfl ?_
                    refine ab_fin.s1l (i := .i2l) (k := 1) (pc' := 11) (n := 1) (by decide +kernel) rfl (by decide +kernel) rfl ?_
                    refine ab_fin.last (h1 := ab_ov h [(3466, .inr (.inl (1, .inr (.inl ((List.replicate 1 0).set 0 (1))))))]) (pc' := 12) (by decide +kernel) (ab_ov_no f_3466 rfl) (ab_bd (n := 1) (by rw [List.length_replicate]) (by decide +kernel)) (ab_ov_set rfl) rfl ?_
                    refine ab_fin.s3 (i := .goto 11) (k := 3) (t := 23) (st' := []) (by decide +kernel) (ab_goto (by decide +kernel)) ?_
                    refine ab_fin.s1i (i := .iconst 0) (k := 1) (pc' := 24) (n := 0) (by decide +kernel) rfl (by decide +kernel) rfl ?_
                    refine ab_fin.ret (i := .ireturn) (k := 1) (some (.int 0)) (by decide +kernel) rfl ?_
                    refine ab_bk.back (pc' := 606) (st' := [.int 0]) rfl rfl ?_
                    refine ab_fin.s2 (i := .istore 5) (k := 2) (pc' := 608) (lv' := [(5, .int 0), (4, .int 0), (3, .ref 3466), (2, .ref 101), (1, .ref 0), (0, .retAddr 9)]) (st' := []) (by decide +kernel) rfl rfl ?_
                    refine ab_fin.s2 (i := .aload_n 2) (k := 1) (pc' := 609) (lv' := [(5, .int 0), (4, .int 0), (3, .ref 3466), (2, .ref 101), (1, .ref 0), (0, .retAddr 9)]) (st' := [.ref 101]) (by decide +kernel) rfl rfl ?_
                    refine ab_fin.s2 (i := .aload_n 0) (k := 1) (pc' := 610) (lv' := [(5, .int 0), (4, .int 0), (3, .ref 3466), (2, .ref 101), (1, .ref 0), (0, .retAddr 9)]) (st' := [.retAddr 9, .ref 101]) (by decide +kernel) rfl rfl ?_
                    refine ab_fin.s2 (i := .iload 4) (k := 2) (pc' := 612) (lv' := [(5, .int 0), (4, .int 0), (3, .ref 3466), (2, .ref 101), (1, .ref 0), (0, .retAddr 9)]) (st' := [.int 0, .retAddr 9, .ref 101]) (by decide +kernel) rfl rfl ?_
                    refine ab_fin.s1i (i := .iconst 1) (k := 1) (pc' := 613) (n := 1) (by decide +kernel) rfl (by decide +kernel) rfl ?_
                    refine ab_fin.s1i (i := .iadd) (k := 1) (pc' := 614) (n := 1) (by decide +kernel) rfl (by decide +kernel) rfl ?_
                    refine ab_fin.s8 (i := .iaload) (k := 1) (pc' := 615) (st' := [.int ((xs 1)), .ref 101]) (by decide +kernel) (ab_x0 rfl (by decide +kernel) rfl) rfl rfl rfl ?_
                    refine ab_fin.s2 (i := .aload_n 0) (k := 1) (pc' := 616) (lv' := [(5, .int 0), (4, .int 0), (3, .ref 3466), (2, .ref 101), (1, .ref 0), (0, .retAddr 9)]) (st' := [.retAddr 9, .int ((xs 1)), .ref 101]) (by decide +kernel) rfl rfl ?_
                    refine ab_fin.s2 (i := .iload 4) (k := 2) (pc' := 618) (lv' := [(5, .int 0), (4, .int 0), (3, .ref 3466), (2, .ref 101), (1, .ref 0), (0, .retAddr 9)]) (st' := [.int 0, .retAddr 9, .int ((xs 1)), .ref 101]) (by decide +kernel) rfl rfl ?_
                    refine ab_fin.s1i (i := .iconst 2) (k := 1) (pc' := 619) (n := 2) (by decide +kernel) rfl (by decide +kernel) rfl ?_
                    refine ab_fin.s1i (i := .iadd) (k := 1) (pc' := 620) (n := 2) (by decide +kernel) rfl (by decide +kernel) rfl ?_
                    refine ab_fin.s8 (i := .iaload) (k := 1) (pc' := 621) (st' := [.int ((xs 2)), .int ((xs 1)), .ref 101]) (by decide +kernel) (ab_x0 rfl (by decide +kernel) rfl) rfl rfl rfl ?_
                    refine ab_fin.s2 (i := .aload_n 0) (k := 1) (pc' := 622) (lv' := [(5, .int 0), (4, .int 0), (3, .ref 3466), (2, .ref 101), (1, .ref 0), (0, .retAddr 9)]) (st' := [.retAddr 9, .int ((xs 2)), .int ((xs 1)), .ref 101]) (by decide +kernel) rfl rfl ?_
                    refine ab_fin.s2 (i := .iload 4) (k := 2) (pc' := 624) (lv' := [(5, .int 0), (4, .int 0), (3, .ref 3466), (2, .ref 101), (1, .ref 0), (0, .retAddr 9)]) (st' := [.int 0, .retAddr 9, .int ((xs 2)), .int ((xs 1)), .ref 101]) (by decide +kernel) rfl rfl ?_
                    refine ab_fin.s1i (i := .iconst 3) (k := 1) (pc' := 625) (n := 3) (by decide +kernel) rfl (by decide +kernel) rfl ?_
                    refine ab_fin.s1i (i := .iadd) (k := 1) (pc' := 626) (n := 3) (by decide +kernel) rfl (by decide +kernel) rfl ?_
                    refine ab_fin.s8 (i := .iaload) (k := 1) (pc' := 627) (st' := [.int ((xs 3)), .int ((xs 2)), .int ((xs 1)), .ref 101]) (by decide +kernel) (ab_x0 rfl (by decide +kernel) rfl) rfl rfl rfl ?_
                    refine ab_fin.call (i := .invokevirtual 110) (k := 3) (y := 6003) (As := [.ref 101, .int ((xs 1)), .int ((xs 2)), .int ((xs 3))]) (rest := []) (M' := (mX23_row, [])) (by decide +kernel) (ab_cv rfl rfl (ab_ov_no f_101 rfl) ⟨(Nat.le_of_ble_eq_true rfl), (Nat.le_of_ble_eq_true rfl)⟩ rfl) rfl (Nat.le_of_ble_eq_true rfl) ?_
                    show ab_fin _ _ _ _ 0 [(0, .ref 101), (1, .int ((xs 1))), (2, .int ((xs 2))), (3, .int ((xs 3)))] [] _ _
                    refine ab_fin.s2 (i := .aload_n 0) (k := 1) (pc' := 1) (lv' := [(0, .ref 101), (1, .int ((xs 1))), (2, .int ((xs 2))), (3, .int ((xs 3)))]) (st' := [.ref 101]) (by decide +kernel) rfl rfl ?_
                    refine ab_fin.s1i (i := .iconst 0) (k := 1) (pc' := 2) (n := 0) (by decide +kernel) rfl (by decide +kernel) rfl ?_
                    refine ab_fin.putf (ix := 1000) (h1 := ab_ov h [(101, .inr (.inr (24, (p1_o101).set 110 (.int 0)))), (3466, .inr (.inl (1, .inr (.inl ((List.replicate 1 0).set 0 (1))))))]) (pc' := 5) (by decide +kernel) rfl (ab_ov_no f_101 rfl) (ab_klt (n := 115) (by rw [p1_n101]) (by decide)) rfl rfl (ab_ov_set rfl) rfl ?_
                    refine ab_fin.s2 (i := .aload_n 0) (k := 1) (pc' := 6) (lv' := [(0, .ref 101), (1, .int ((xs 1))), (2, .int ((xs 2))), (3, .int ((xs 3)))]) (st' := [.ref 101]) (by decide +kernel) rfl rfl ?_
                    refine ab_fin.s2 (i := .iload_n 1) (k := 1) (pc' := 7) (lv' := [(0, .ref 101), (1, .int ((xs 1))), (2, .int ((xs 2))), (3, .int ((xs 3)))]) (st' := [.int ((xs 1)), .ref 101]) (by decide +kernel) rfl rfl ?_
                    refine ab_fin.call (i := .invokevirtual 1018) (k := 3) (y := 6001) (As := [.ref 101, .int ((xs 1))]) (rest := []) (M' := (mX23_isKind, [])) (by decide +kernel) (ab_cv rfl rfl (ab_ov_get (lt0 101 (by decide)) rfl) ⟨(Nat.le_of_ble_eq_true rfl), (Nat.le_of_ble_eq_true rfl)⟩ rfl) rfl (Nat.le_of_ble_eq_true rfl) ?_
                    show ab_fin _ _ _ _ 0 [(0, .ref 101), (1, .int ((xs 1)))] [] _ _
                    refine ab_fin.s2 (i := .iload_n 1) (k := 1) (pc' := 1) (lv' := [(0, .ref 101), (1, .int ((xs 1)))]) (st' := [.int ((xs 1))]) (by decide +kernel) rfl rfl ?_
                    refine ab_fin.brF (c := (xs 1) < 0) (i := .ifCond .lt 15) (off := 15) (t := 16) (pc' := 4) (r := []) (by decide +kernel) rfl (by decide +kernel) rfl (by have l0 : (0 : Int32).toInt = 0 := rfl; have l1 : (1 : Int32).toInt = 1 := rfl; have l2 : (2 : Int32).toInt = 2 := rfl; have l3 : (3 : Int32).toInt = 3 := rfl; simp only [← Int32.toInt_inj, Int32.lt_iff_toInt_lt, Int32.le_iff_toInt_le, l0, l1, l2, l3] at q1 q2 q3 q4 q5 q6 q24 q27 q28 ⊢; omega) ?_
                    refine ab_fin.s2 (i := .iload_n 1) (k := 1) (pc' := 5) (lv' := [(0, .ref 101), (1, .int ((xs 1)))]) (st' := [.int ((xs 1))]) (by decide +kernel) rfl rfl ?_
                    refine ab_fin.s2 (i := .aload_n 0) (k := 1) (pc' := 6) (lv' := [(0, .ref 101), (1, .int ((xs 1)))]) (st' := [.ref 101, .int ((xs 1))]) (by decide +kernel) rfl rfl ?_
                    refine ab_fin.getf (ix := 13) (k := 4) (v := .int 3) (pc' := 9) (by decide +kernel) rfl (ab_ov_get (lt0 101 (by decide)) rfl) rfl rfl ?_
                    refine ab_fin.brF (c := (3 : Int32) ≤ (xs 1)) (i := .if_icmp .ge 7) (off := 7) (t := 16) (pc' := 12) (r := []) (by decide +kernel) rfl (by decide +kernel) rfl (by have l0 : (0 : Int32).toInt = 0 := rfl; have l1 : (1 : Int32).toInt = 1 := rfl; have l2 : (2 : Int32).toInt = 2 := rfl; have l3 : (3 : Int32).toInt = 3 := rfl; simp only [← Int32.toInt_inj, Int32.lt_iff_toInt_lt, Int32.le_iff_toInt_le, l0, l1, l2, l3] at q1 q2 q3 q4 q5 q6 q24 q27 q28 ⊢; omega) ?_
                    refine ab_fin.s1i (i := .iconst 1) (k := 1) (pc' := 13) (n := 1) (by decide +kernel) rfl (by decide +kernel) rfl ?_
                    refine ab_fin.s3 (i := .goto 4) (k := 3) (t := 17) (st' := [.int 1]) (by decide +kernel) (ab_goto (by decide +kernel)) ?_
                    refine ab_fin.ret (i := .ireturn) (k := 1) (some (.int 1)) (by decide +kernel) rfl ?_
                    refine ab_bk.back (pc' := 10) (st' := [.int 1]) rfl rfl ?_
                    refine ab_fin.brF (c := (1 : Int32) = 0) (i := .ifCond .eq 7) (off := 7) (t := 17) (pc' := 13) (r := []) (by decide +kernel) rfl (by decide +kernel) rfl (by decide +kernel) ?_
                    refine ab_fin.s2 (i := .iload_n 3) (k := 1) (pc' := 14) (lv' := [(0, .ref 101), (1, .int ((xs 1))), (2, .int ((xs 2))), (3, .int ((xs 3)))]) (st' := [.int ((xs 3))]) (by decide +kernel) rfl rfl ?_
                    refine ab_fin.brT (c := 0 ≤ (xs 3)) (i := .ifCond .ge 9) (off := 9) (t := 23) (r := []) (by decide +kernel) rfl (by decide +kernel) (by have l0 : (0 : Int32).toInt = 0 := rfl; have l1 : (1 : Int32).toInt = 1 := rfl; have l2 : (2 : Int32).toInt = 2 := rfl; have l3 : (3 : Int32).toInt = 3 := rfl; simp only [← Int32.toInt_inj, Int32.lt_iff_toInt_lt, Int32.le_iff_toInt_le, l0, l1, l2, l3] at q1 q2 q3 q4 q5 q6 q24 q27 q28 ⊢; omega) ?_
                    refine ab_fin.s2 (i := .iload_n 2) (k := 1) (pc' := 24) (lv' := [(0, .ref 101), (1, .int ((xs 1))), (2, .int ((xs 2))), (3, .int ((xs 3)))]) (st' := [.int ((xs 2))]) (by decide +kernel) rfl rfl ?_
                    refine ab_fin.brF (c := (xs 2) < 0) (i := .ifCond .lt 8) (off := 8) (t := 32) (pc' := 27) (r := []) (by decide +kernel) rfl (by decide +kernel) rfl (by have l0 : (0 : Int32).toInt = 0 := rfl; have l1 : (1 : Int32).toInt = 1 := rfl; have l2 : (2 : Int32).toInt = 2 := rfl; have l3 : (3 : Int32).toInt = 3 := rfl; simp only [← Int32.toInt_inj, Int32.lt_iff_toInt_lt, Int32.le_iff_toInt_le, l0, l1, l2, l3] at q1 q2 q3 q4 q5 q6 q24 q27 q28 ⊢; omega) ?_
                    refine ab_fin.s2 (i := .iload_n 2) (k := 1) (pc' := 28) (lv' := [(0, .ref 101), (1, .int ((xs 1))), (2, .int ((xs 2))), (3, .int ((xs 3)))]) (st' := [.int ((xs 2))]) (by decide +kernel) rfl rfl ?_
                    refine ab_fin.s1i (i := .iconst 2) (k := 1) (pc' := 29) (n := 2) (by decide +kernel) rfl (by decide +kernel) rfl ?_
                    refine ab_fin.brT (c := (xs 2) ≤ (2 : Int32)) (i := .if_icmp .le 9) (off := 9) (t := 38) (r := []) (by decide +kernel) rfl (by decide +kernel) (by have l0 : (0 : Int32).toInt = 0 := rfl; have l1 : (1 : Int32).toInt = 1 := rfl; have l2 : (2 : Int32).toInt = 2 := rfl; have l3 : (3 : Int32).toInt = 3 := rfl; simp only [← Int32.toInt_inj, Int32.lt_iff_toInt_lt, Int32.le_iff_toInt_le, l0, l1, l2, l3] at q1 q2 q3 q4 q5 q6 q24 q27 q28 ⊢; omega) ?_
                    refine ab_fin.s2 (i := .iload_n 3) (k := 1) (pc' := 39) (lv' := [(0, .ref 101), (1, .int ((xs 1))), (2, .int ((xs 2))), (3, .int ((xs 3)))]) (st' := [.int ((xs 3))]) (by decide +kernel) rfl rfl ?_
                    refine ab_fin.s2 (i := .aload_n 0) (k := 1) (pc' := 40) (lv' := [(0, .ref 101), (1, .int ((xs 1))), (2, .int ((xs 2))), (3, .int ((xs 3)))]) (st' := [.ref 101, .int ((xs 3))]) (by decide +kernel) rfl rfl ?_
                    refine ab_fin.getf (ix := 17) (k := 0) (v := .ref 102) (pc' := 43) (by decide +kernel) rfl (ab_ov_get (lt0 101 (by decide)) rfl) rfl rfl ?_
                    refine ab_fin.s2 (i := .iload_n 1) (k := 1) (pc' := 44) (lv' := [(0, .ref 101), (1, .int ((xs 1))), (2, .int ((xs 2))), (3, .int ((xs 3)))]) (st' := [.int ((xs 1)), .ref 102, .int ((xs 3))]) (by decide +kernel) rfl rfl ?_
                    have q30 : (xs 1) = 1 := (by have l0 : (0 : Int32).toInt = 0 := rfl; have l1 : (1 : Int32).toInt = 1 := rfl; have l2 : (2 : Int32).toInt = 2 := rfl; have l3 : (3 : Int32).toInt = 3 := rfl; simp only [← Int32.toInt_inj, Int32.lt_iff_toInt_lt, Int32.le_iff_toInt_le, l0, l1, l2, l3] at q1 q2 q3 q4 q5 q6 q24 q27 q28 ⊢; omega)
                    rw [q30]
                    refine ab_fin.aald (v := .ref 2303) (pc' := 45) (by decide +kernel) (ab_ov_no f_102 rfl) (by decide) rfl (ab_bd (n := 24) (by rw [p1_n102]) (by decide +kernel)) rfl rfl ?_
                    refine ab_fin.getf (ix := 79) (k := 5) (v := .ref 2311) (pc' := 48) (by decide +kernel) rfl (ab_ov_no f_2303 rfl) rfl rfl ?_
                    refine ab_fin.s2 (i := .iload_n 2) (k := 1) (pc' := 49) (lv' := [(0, .ref 101), (1, .int 1), (2, .int ((xs 2))), (3, .int ((xs 3)))]) (st' := [.int ((xs 2)), .ref 2311, .int ((xs 3))]) (by decide +kernel) rfl rfl ?_
                    have q31 : (xs 2) = 0 := (by have l0 : (0 : Int32).toInt = 0 := rfl; have l1 : (1 : Int32).toInt = 1 := rfl; have l2 : (2 : Int32).toInt = 2 := rfl; have l3 : (3 : Int32).toInt = 3 := rfl; simp only [← Int32.toInt_inj, Int32.lt_iff_toInt_lt, Int32.le_iff_toInt_le, l0, l1, l2, l3] at q1 q2 q3 q4 q5 q6 q24 q27 q28 q30 ⊢; omega)
                    rw [q31]
                    refine ab_fin.iald (v := 2) (pc' := 50) (by decide +kernel) (ab_ov_no f_2311 rfl) (ab_bd (n := 3) (by rw [List.length_replicate]) (by decide +kernel)) rfl rfl ?_
                    refine ab_fin.brF (c := (2 : Int32) ≤ (xs 3)) (i := .if_icmp .ge 19) (off := 19) (t := 69) (pc' := 53) (r := []) (by decide +kernel) rfl (by decide +kernel) rfl (by have l0 : (0 : Int32).toInt = 0 := rfl; have l1 : (1 : Int32).toInt = 1 := rfl; have l2 : (2 : Int32).toInt = 2 := rfl; have l3 : (3 : Int32).toInt = 3 := rfl; simp only [← Int32.toInt_inj, Int32.lt_iff_toInt_lt, Int32.le_iff_toInt_le, l0, l1, l2, l3] at q1 q2 q3 q4 q5 q6 q24 q27 q28 q30 q31 ⊢; omega) ?_
                    refine ab_fin.s2 (i := .aload_n 0) (k := 1) (pc' := 54) (lv' := [(0, .ref 101), (1, .int 1), (2, .int 0), (3, .int ((xs 3)))]) (st' := [.ref 101]) (by decide +kernel) rfl rfl ?_
                    refine ab_fin.getf (ix := 17) (k := 0) (v := .ref 102) (pc' := 57) (by decide +kernel) rfl (ab_ov_get (lt0 101 (by decide)) rfl) rfl rfl ?_
                    refine ab_fin.s2 (i := .iload_n 1) (k := 1) (pc' := 58) (lv' := [(0, .ref 101), (1, .int 1), (2, .int 0), (3, .int ((xs 3)))]) (st' := [.int 1, .ref 102]) (by decide +kernel) rfl rfl ?_
                    refine ab_fin.aald (v := .ref 2303) (pc' := 59) (by decide +kernel) (ab_ov_no f_102 rfl) (by decide) rfl (ab_bd (n := 24) (by rw [p1_n102]) (by decide +kernel)) rfl rfl ?_
                    refine ab_fin.getf (ix := 86) (k := 4) (v := .ref 2307) (pc' := 62) (by decide +kernel) rfl (ab_ov_no f_2303 rfl) rfl rfl ?_
                    refine ab_fin.s2 (i := .iload_n 2) (k := 1) (pc' := 63) (lv' := [(0, .ref 101), (1, .int 1), (2, .int 0), (3, .int ((xs 3)))]) (st' := [.int 0, .ref 2307]) (by decide +kernel) rfl rfl ?_
                    refine ab_fin.aald (v := .ref 2308) (pc' := 64) (by decide +kernel) (ab_ov_no f_2307 rfl) (by decide) rfl (ab_bd (n := 3) (by rw [p1_n2307]) (by decide +kernel)) rfl rfl ?_
                    refine ab_fin.s2 (i := .iload_n 3) (k := 1) (pc' := 65) (lv' := [(0, .ref 101), (1, .int 1), (2, .int 0), (3, .int ((xs 3)))]) (st' := [.int ((xs 3)), .ref 2308]) (by decide +kernel) rfl rfl ?_
                    have q32 : (xs 3) = 0 := (by have l0 : (0 : Int32).toInt = 0 := rfl; have l1 : (1 : Int32).toInt = 1 := rfl; have l2 : (2 : Int32).toInt = 2 := rfl; have l3 : (3 : Int32).toInt = 3 := rfl; simp only [← Int32.toInt_inj, Int32.lt_iff_toInt_lt, Int32.le_iff_toInt_le, l0, l1, l2, l3] at q1 q2 q3 q4 q5 q6 q24 q27 q28 q30 q31 ⊢; omega)
                    rw [q32]
                    refine ab_fin.iald (v := 1) (pc' := 66) (by decide +kernel) (ab_ov_no f_2308 rfl) (ab_bd (n := 24) (by rw [p1_n2308]) (by decide +kernel)) rfl rfl ?_
                    refine ab_fin.s3 (i := .goto 4) (k := 3) (t := 70) (st' := [.int 1]) (by decide +kernel) (ab_goto (by decide +kernel)) ?_
                    refine ab_fin.ret (i := .ireturn) (k := 1) (some (.int 1)) (by decide +kernel) rfl ?_
                    refine ab_bk.back (pc' := 630) (st' := [.int 1]) rfl rfl ?_
                    refine ab_fin.s2 (i := .istore 6) (k := 2) (pc' := 632) (lv' := [(6, .int 1), (5, .int 0), (4, .int 0), (3, .ref 3466), (2, .ref 101), (1, .ref 0), (0, .retAddr 9)]) (st' := []) (by decide +kernel) rfl rfl ?_
                    refine ab_fin.s2 (i := .aload_n 2) (k := 1) (pc' := 633) (lv' := [(6, .int 1), (5, .int 0), (4, .int 0), (3, .ref 3466), (2, .ref 101), (1, .ref 0), (0, .retAddr 9)]) (st' := [.ref 101]) (by decide +kernel) rfl rfl ?_
                    refine ab_fin.call (i := .invokevirtual 75) (k := 3) (y := 5992) (As := [.ref 101]) (rest := []) (M' := (mX23_thrown, [])) (by decide +kernel) (ab_cv rfl rfl (ab_ov_get (lt0 101 (by decide)) rfl) ⟨(Nat.le_of_ble_eq_true rfl), (Nat.le_of_ble_eq_true rfl)⟩ rfl) rfl (Nat.le_of_ble_eq_true rfl) ?_
                    show ab_fin _ _ _ _ 0 [(0, .ref 101)] [] _ _
                    refine ab_fin.s2 (i := .aload_n 0) (k := 1) (pc' := 1) (lv' := [(0, .ref 101)]) (st' := [.ref 101]) (by decide +kernel) rfl rfl ?_
                    refine ab_fin.getf (ix := 1000) (k := 110) (v := .int 0) (pc' := 4) (by decide +kernel) rfl (ab_ov_get (lt0 101 (by decide)) rfl) rfl rfl ?_
                    refine ab_fin.ret (i := .ireturn) (k := 1) (some (.int 0)) (by decide +kernel) rfl ?_
                    refine ab_bk.back (pc' := 636) (st' := [.int 0]) rfl rfl ?_
                    refine ab_fin.s2 (i := .iload 5) (k := 2) (pc' := 638) (lv' := [(6, .int 1), (5, .int 0), (4, .int 0), (3, .ref 3466), (2, .ref 101), (1, .ref 0), (0, .retAddr 9)]) (st' := [.int 0, .int 0]) (by decide +kernel) rfl rfl ?_
                    refine ab_fin.brT (c := (0 : Int32) = (0 : Int32)) (i := .if_icmp .eq 5) (off := 5) (t := 643) (r := []) (by decide +kernel) rfl (by decide +kernel) (by decide +kernel) ?_
                    refine ab_fin.s2 (i := .iload 5) (k := 2) (pc' := 645) (lv' := [(6, .int 1), (5, .int 0), (4, .int 0), (3, .ref 3466), (2, .ref 101), (1, .ref 0), (0, .retAddr 9)]) (st' := [.int 0]) (by decide +kernel) rfl rfl ?_
                    refine ab_fin.brF (c := ¬ (0 : Int32) = 0) (i := .ifCond .ne 15) (off := 15) (t := 660) (pc' := 648) (r := []) (by decide +kernel) rfl (by decide +kernel) rfl (by decide +kernel) ?_
                    refine ab_fin.s2 (i := .aload_n 3) (k := 1) (pc' := 649) (lv' := [(6, .int 1), (5, .int 0), (4, .int 0), (3, .ref 3466), (2, .ref 101), (1, .ref 0), (0, .retAddr 9)]) (st' := [.ref 3466]) (by decide +kernel) rfl rfl ?_
                    refine ab_fin.s1i (i := .iconst 0) (k := 1) (pc' := 650) (n := 0) (by decide +kernel) rfl (by decide +kernel) rfl ?_
                    refine ab_fin.lald (v := 1) (pc' := 651) (by decide +kernel) (ab_ov_get (lt0 3466 (by decide)) rfl) (ab_bd (n := 1) (by rw [List.length_set, List.length_replicate]) (by decide +kernel)) rfl rfl ?_
                    refine ab_fin.s2 (i := .iload 6) (k := 2) (pc' := 653) (lv' := [(6, .int 1), (5, .int 0), (4, .int 0), (3, .ref 3466), (2, .ref 101), (1, .ref 0), (0, .retAddr 9)]) (st' := [.int 1, .long 1]) (by decide +kernel) rfl rfl ?_
                    refine ab_fin.s1l (i := .i2l) (k := 1) (pc' := 654) (n := 1) (by decide +kernel) rfl (by decide +kernel) rfl ?_
                    refine ab_fin.s1i (i := .lcmp) (k := 1) (pc' := 655) (n := 0) (by decide +kernel) rfl (by decide +kernel) rfl ?_
                    refine ab_fin.brT (c := (0 : Int32) = 0) (i := .ifCond .eq 5) (off := 5) (t := 660) (r := []) (by decide +kernel) rfl (by decide +kernel) (by decide +kernel) ?_
                    refine ab_fin.s3 (i := .goto 430) (k := 3) (t := 1090) (st' := []) (by decide +kernel) (ab_goto (by decide +kernel)) ?_
                    refine ab_fin.inc (i := .iinc 4 6) (k := 3) (pc' := 1093) (j := 4) (n := 6) (lv' := [(6, .int 1), (5, .int 0), (3, .ref 3466), (2, .ref 101), (1, .ref 0), (0, .retAddr 9)]) (by decide +kernel) rfl (by decide +kernel) rfl ?_
                    refine ab_fin.s3 (i := .goto (-1070)) (k := 3) (t := 23) (st' := []) (by decide +kernel) (ab_goto (by decide +kernel)) ?_
                    refine ab_fin.s2 (i := .iload 4) (k := 2) (pc' := 25) (lv' := [(4, .int 6), (6, .int 1), (5, .int 0), (3, .ref 3466), (2, .ref 101), (1, .ref 0), (0, .retAddr 9)]) (st' := [.int 6]) (by decide +kernel) rfl rfl ?_
                    refine ab_fin.s2 (i := .aload_n 0) (k := 1) (pc' := 26) (lv' := [(4, .int 6), (6, .int 1), (5, .int 0), (3, .ref 3466), (2, .ref 101), (1, .ref 0), (0, .retAddr 9)]) (st' := [.retAddr 9, .int 6]) (by decide +kernel) rfl rfl ?_
                    refine ab_fin.s8 (i := .arraylength) (k := 1) (pc' := 27) (st' := [.int 6, .int 6]) (by decide +kernel) rfl rfl rfl rfl ?_
                    refine ab_fin.s1i (i := .bipush 6) (k := 2) (pc' := 29) (n := 6) (by decide +kernel) rfl (by decide +kernel) rfl ?_
                    refine ab_fin.s1i (i := .isub) (k := 1) (pc' := 30) (n := 0) (by decide +kernel) rfl (by decide +kernel) rfl ?_
                    refine ab_fin.brT (c := (0 : Int32) < (6 : Int32)) (i := .if_icmp .gt 1066) (off := 1066) (t := 1096) (r := []) (by decide +kernel) rfl (by decide +kernel) (by decide +kernel) ?_
                    refine ab_fin.s1i (i := .iconst 1) (k := 1) (pc' := 1097) (n := 1) (by decide +kernel) rfl (by decide +kernel) rfl ?_
                    refine ab_fin.ret (i := .ireturn) (k := 1) (some (.int 1)) (by decide +kernel) rfl ?_
                    refine ⟨rfl, ?_, ?_⟩
                    · rw [ab_ov_len, hl]; decide
                    · refine Nat.le_trans (ab_ov_z _ _) ?_
                      simp only [List.map, List.sum_cons, List.sum_nil, ab_z1, ab_len, List.length_set, List.length_replicate, List.length_cons, List.length_nil, p1_n101]
                      omega
                  · rw [q28]
                    try rw [show ((((1 * (24 : Int32)) + (1 : Int32)) * (24 : Int32)) + 0) = (600 : Int32) by decide +kernel]
                    refine ab_fin.iald (v := 1) (pc' := 16) (by decide +kernel) (ab_ov_no f_7 rfl) (ab_bd (n := 1728) (by rw [p1_n7]) (by decide +kernel)) rfl rfl ?_
                    refine ab_fin.ret (i := .ireturn) (k := 1) (some (.int 1)) (by decide +kernel) rfl ?_
                    refine ab_bk.back (pc' := 69) (st' := [.int 1]) rfl rfl ?_
                    refine ab_fin.s3 (i := .goto 4) (k := 3) (t := 73) (st' := [.int 1]) (by decide +kernel) (ab_goto (by decide +kernel)) ?_
                    refine ab_fin.ret (i := .ireturn) (k := 1) (some (.int 1)) (by decide +kernel) rfl ?_
                    refine ab_bk.back (pc' := 10) (st' := [.int 1, .int 0, .ref 3466]) rfl rfl ?_
                    refine ab_fin.s1l (i := .i2l) (k := 1) (pc' := 11) (n := 1) (by decide +kernel) rfl (by decide +kernel) rfl ?_
                    refine ab_fin.last (h1 := ab_ov h [(3466, .inr (.inl (1, .inr (.inl ((List.replicate 1 0).set 0 (1))))))]) (pc' := 12) (by decide +kernel) (ab_ov_no f_3466 rfl) (ab_bd (n := 1) (by rw [List.length_replicate]) (by decide +kernel)) (ab_ov_set rfl) rfl ?_
                    refine ab_fin.s3 (i := .goto 11) (k := 3) (t := 23) (st' := []) (by decide +kernel) (ab_goto (by decide +kernel)) ?_
                    refine ab_fin.s1i (i := .iconst 0) (k := 1) (pc' := 24) (n := 0) (by decide +kernel) rfl (by decide +kernel) rfl ?_
                    refine ab_fin.ret (i := .ireturn) (k := 1) (some (.int 0)) (by decide +kernel) rfl ?_
                    refine ab_bk.back (pc' := 606) (st' := [.int 0]) rfl rfl ?_
                    refine ab_fin.s2 (i := .istore 5) (k := 2) (pc' := 608) (lv' := [(5, .int 0), (4, .int 0), (3, .ref 3466), (2, .ref 101), (1, .ref 0), (0, .retAddr 9)]) (st' := []) (by decide +kernel) rfl rfl ?_
                    refine ab_fin.s2 (i := .aload_n 2) (k := 1) (pc' := 609) (lv' := [(5, .int 0), (4, .int 0), (3, .ref 3466), (2, .ref 101), (1, .ref 0), (0, .retAddr 9)]) (st' := [.ref 101]) (by decide +kernel) rfl rfl ?_
                    refine ab_fin.s2 (i := .aload_n 0) (k := 1) (pc' := 610) (lv' := [(5, .int 0), (4, .int 0), (3, .ref 3466), (2, .ref 101), (1, .ref 0), (0, .retAddr 9)]) (st' := [.retAddr 9, .ref 101]) (by decide +kernel) rfl rfl ?_
                    refine ab_fin.s2 (i := .iload 4) (k := 2) (pc' := 612) (lv' := [(5, .int 0), (4, .int 0), (3, .ref 3466), (2, .ref 101), (1, .ref 0), (0, .retAddr 9)]) (st' := [.int 0, .retAddr 9, .ref 101]) (by decide +kernel) rfl rfl ?_
                    refine ab_fin.s1i (i := .iconst 1) (k := 1) (pc' := 613) (n := 1) (by decide +kernel) rfl (by decide +kernel) rfl ?_
                    refine ab_fin.s1i (i := .iadd) (k := 1) (pc' := 614) (n := 1) (by decide +kernel) rfl (by decide +kernel) rfl ?_
                    refine ab_fin.s8 (i := .iaload) (k := 1) (pc' := 615) (st' := [.int ((xs 1)), .ref 101]) (by decide +kernel) (ab_x0 rfl (by decide +kernel) rfl) rfl rfl rfl ?_
                    refine ab_fin.s2 (i := .aload_n 0) (k := 1) (pc' := 616) (lv' := [(5, .int 0), (4, .int 0), (3, .ref 3466), (2, .ref 101), (1, .ref 0), (0, .retAddr 9)]) (st' := [.retAddr 9, .int ((xs 1)), .ref 101]) (by decide +kernel) rfl rfl ?_
                    refine ab_fin.s2 (i := .iload 4) (k := 2) (pc' := 618) (lv' := [(5, .int 0), (4, .int 0), (3, .ref 3466), (2, .ref 101), (1, .ref 0), (0, .retAddr 9)]) (st' := [.int 0, .retAddr 9, .int ((xs 1)), .ref 101]) (by decide +kernel) rfl rfl ?_
                    refine ab_fin.s1i (i := .iconst 2) (k := 1) (pc' := 619) (n := 2) (by decide +kernel) rfl (by decide +kernel) rfl ?_
                    refine ab_fin.s1i (i := .iadd) (k := 1) (pc' := 620) (n := 2) (by decide +kernel) rfl (by decide +kernel) rfl ?_
                    refine ab_fin.s8 (i := .iaload) (k := 1) (pc' := 621) (st' := [.int ((xs 2)), .int ((xs 1)), .ref 101]) (by decide +kernel) (ab_x0 rfl (by decide +kernel) rfl) rfl rfl rfl ?_
                    refine ab_fin.s2 (i := .aload_n 0) (k := 1) (pc' := 622) (lv' := [(5, .int 0), (4, .int 0), (3, .ref 3466), (2, .ref 101), (1, .ref 0), (0, .retAddr 9)]) (st' := [.retAddr 9, .int ((xs 2)), .int ((xs 1)), .ref 101]) (by decide +kernel) rfl rfl ?_
                    refine ab_fin.s2 (i := .iload 4) (k := 2) (pc' := 624) (lv' := [(5, .int 0), (4, .int 0), (3, .ref 3466), (2, .ref 101), (1, .ref 0), (0, .retAddr 9)]) (st' := [.int 0, .retAddr 9, .int ((xs 2)), .int ((xs 1)), .ref 101]) (by decide +kernel) rfl rfl ?_
                    refine ab_fin.s1i (i := .iconst 3) (k := 1) (pc' := 625) (n := 3) (by decide +kernel) rfl (by decide +kernel) rfl ?_
                    refine ab_fin.s1i (i := .iadd) (k := 1) (pc' := 626) (n := 3) (by decide +kernel) rfl (by decide +kernel) rfl ?_
                    refine ab_fin.s8 (i := .iaload) (k := 1) (pc' := 627) (st' := [.int ((xs 3)), .int ((xs 2)), .int ((xs 1)), .ref 101]) (by decide +kernel) (ab_x0 rfl (by decide +kernel) rfl) rfl rfl rfl ?_
                    refine ab_fin.call (i := .invokevirtual 110) (k := 3) (y := 6003) (As := [.ref 101, .int ((xs 1)), .int ((xs 2)), .int ((xs 3))]) (rest := []) (M' := (mX23_row, [])) (by decide +kernel) (ab_cv rfl rfl (ab_ov_no f_101 rfl) ⟨(Nat.le_of_ble_eq_true rfl), (Nat.le_of_ble_eq_true rfl)⟩ rfl) rfl (Nat.le_of_ble_eq_true rfl) ?_
                    show ab_fin _ _ _ _ 0 [(0, .ref 101), (1, .int ((xs 1))), (2, .int ((xs 2))), (3, .int ((xs 3)))] [] _ _
                    refine ab_fin.s2 (i := .aload_n 0) (k := 1) (pc' := 1) (lv' := [(0, .ref 101), (1, .int ((xs 1))), (2, .int ((xs 2))), (3, .int ((xs 3)))]) (st' := [.ref 101]) (by decide +kernel) rfl rfl ?_
                    refine ab_fin.s1i (i := .iconst 0) (k := 1) (pc' := 2) (n := 0) (by decide +kernel) rfl (by decide +kernel) rfl ?_
                    refine ab_fin.putf (ix := 1000) (h1 := ab_ov h [(101, .inr (.inr (24, (p1_o101).set 110 (.int 0)))), (3466, .inr (.inl (1, .inr (.inl ((List.replicate 1 0).set 0 (1))))))]) (pc' := 5) (by decide +kernel) rfl (ab_ov_no f_101 rfl) (ab_klt (n := 115) (by rw [p1_n101]) (by decide)) rfl rfl (ab_ov_set rfl) rfl ?_
                    refine ab_fin.s2 (i := .aload_n 0) (k := 1) (pc' := 6) (lv' := [(0, .ref 101), (1, .int ((xs 1))), (2, .int ((xs 2))), (3, .int ((xs 3)))]) (st' := [.ref 101]) (by decide +kernel) rfl rfl ?_
                    refine ab_fin.s2 (i := .iload_n 1) (k := 1) (pc' := 7) (lv' := [(0, .ref 101), (1, .int ((xs 1))), (2, .int ((xs 2))), (3, .int ((xs 3)))]) (st' := [.int ((xs 1)), .ref 101]) (by decide +kernel) rfl rfl ?_
                    refine ab_fin.call (i := .invokevirtual 1018) (k := 3) (y := 6001) (As := [.ref 101, .int ((xs 1))]) (rest := []) (M' := (mX23_isKind, [])) (by decide +kernel) (ab_cv rfl rfl (ab_ov_get (lt0 101 (by decide)) rfl) ⟨(Nat.le_of_ble_eq_true rfl), (Nat.le_of_ble_eq_true rfl)⟩ rfl) rfl (Nat.le_of_ble_eq_true rfl) ?_
                    show ab_fin _ _ _ _ 0 [(0, .ref 101), (1, .int ((xs 1)))] [] _ _
                    refine ab_fin.s2 (i := .iload_n 1) (k := 1) (pc' := 1) (lv' := [(0, .ref 101), (1, .int ((xs 1)))]) (st' := [.int ((xs 1))]) (by decide +kernel) rfl rfl ?_
                    refine ab_fin.brF (c := (xs 1) < 0) (i := .ifCond .lt 15) (off := 15) (t := 16) (pc' := 4) (r := []) (by decide +kernel) rfl (by decide +kernel) rfl (by have l0 : (0 : Int32).toInt = 0 := rfl; have l1 : (1 : Int32).toInt = 1 := rfl; have l2 : (2 : Int32).toInt = 2 := rfl; have l3 : (3 : Int32).toInt = 3 := rfl; simp only [← Int32.toInt_inj, Int32.lt_iff_toInt_lt, Int32.le_iff_toInt_le, l0, l1, l2, l3] at q1 q2 q3 q4 q5 q6 q24 q27 q28 ⊢; omega) ?_
                    refine ab_fin.s2 (i := .iload_n 1) (k := 1) (pc' := 5) (lv' := [(0, .ref 101), (1, .int ((xs 1)))]) (st' := [.int ((xs 1))]) (by decide +kernel) rfl rfl ?_
                    refine ab_fin.s2 (i := .aload_n 0) (k := 1) (pc' := 6) (lv' := [(0, .ref 101), (1, .int ((xs 1)))]) (st' := [.ref 101, .int ((xs 1))]) (by decide +kernel) rfl rfl ?_
                    refine ab_fin.getf (ix := 13) (k := 4) (v := .int 3) (pc' := 9) (by decide +kernel) rfl (ab_ov_get (lt0 101 (by decide)) rfl) rfl rfl ?_
                    refine ab_fin.brF (c := (3 : Int32) ≤ (xs 1)) (i := .if_icmp .ge 7) (off := 7) (t := 16) (pc' := 12) (r := []) (by decide +kernel) rfl (by decide +kernel) rfl (by have l0 : (0 : Int32).toInt = 0 := rfl; have l1 : (1 : Int32).toInt = 1 := rfl; have l2 : (2 : Int32).toInt = 2 := rfl; have l3 : (3 : Int32).toInt = 3 := rfl; simp only [← Int32.toInt_inj, Int32.lt_iff_toInt_lt, Int32.le_iff_toInt_le, l0, l1, l2, l3] at q1 q2 q3 q4 q5 q6 q24 q27 q28 ⊢; omega) ?_
                    refine ab_fin.s1i (i := .iconst 1) (k := 1) (pc' := 13) (n := 1) (by decide +kernel) rfl (by decide +kernel) rfl ?_
                    refine ab_fin.s3 (i := .goto 4) (k := 3) (t := 17) (st' := [.int 1]) (by decide +kernel) (ab_goto (by decide +kernel)) ?_
                    refine ab_fin.ret (i := .ireturn) (k := 1) (some (.int 1)) (by decide +kernel) rfl ?_
                    refine ab_bk.back (pc' := 10) (st' := [.int 1]) rfl rfl ?_
                    refine ab_fin.brF (c := (1 : Int32) = 0) (i := .ifCond .eq 7) (off := 7) (t := 17) (pc' := 13) (r := []) (by decide +kernel) rfl (by decide +kernel) rfl (by decide +kernel) ?_
                    refine ab_fin.s2 (i := .iload_n 3) (k := 1) (pc' := 14) (lv' := [(0, .ref 101), (1, .int ((xs 1))), (2, .int ((xs 2))), (3, .int ((xs 3)))]) (st' := [.int ((xs 3))]) (by decide +kernel) rfl rfl ?_
                    refine ab_fin.brT (c := 0 ≤ (xs 3)) (i := .ifCond .ge 9) (off := 9) (t := 23) (r := []) (by decide +kernel) rfl (by decide +kernel) (by have l0 : (0 : Int32).toInt = 0 := rfl; have l1 : (1 : Int32).toInt = 1 := rfl; have l2 : (2 : Int32).toInt = 2 := rfl; have l3 : (3 : Int32).toInt = 3 := rfl; simp only [← Int32.toInt_inj, Int32.lt_iff_toInt_lt, Int32.le_iff_toInt_le, l0, l1, l2, l3] at q1 q2 q3 q4 q5 q6 q24 q27 q28 ⊢; omega) ?_
                    refine ab_fin.s2 (i := .iload_n 2) (k := 1) (pc' := 24) (lv' := [(0, .ref 101), (1, .int ((xs 1))), (2, .int ((xs 2))), (3, .int ((xs 3)))]) (st' := [.int ((xs 2))]) (by decide +kernel) rfl rfl ?_
                    refine ab_fin.brF (c := (xs 2) < 0) (i := .ifCond .lt 8) (off := 8) (t := 32) (pc' := 27) (r := []) (by decide +kernel) rfl (by decide +kernel) rfl (by have l0 : (0 : Int32).toInt = 0 := rfl; have l1 : (1 : Int32).toInt = 1 := rfl; have l2 : (2 : Int32).toInt = 2 := rfl; have l3 : (3 : Int32).toInt = 3 := rfl; simp only [← Int32.toInt_inj, Int32.lt_iff_toInt_lt, Int32.le_iff_toInt_le, l0, l1, l2, l3] at q1 q2 q3 q4 q5 q6 q24 q27 q28 ⊢; omega) ?_
                    refine ab_fin.s2 (i := .iload_n 2) (k := 1) (pc' := 28) (lv' := [(0, .ref 101), (1, .int ((xs 1))), (2, .int ((xs 2))), (3, .int ((xs 3)))]) (st' := [.int ((xs 2))]) (by decide +kernel) rfl rfl ?_
                    refine ab_fin.s1i (i := .iconst 2) (k := 1) (pc' := 29) (n := 2) (by decide +kernel) rfl (by decide +kernel) rfl ?_
                    refine ab_fin.brT (c := (xs 2) ≤ (2 : Int32)) (i := .if_icmp .le 9) (off := 9) (t := 38) (r := []) (by decide +kernel) rfl (by decide +kernel) (by have l0 : (0 : Int32).toInt = 0 := rfl; have l1 : (1 : Int32).toInt = 1 := rfl; have l2 : (2 : Int32).toInt = 2 := rfl; have l3 : (3 : Int32).toInt = 3 := rfl; simp only [← Int32.toInt_inj, Int32.lt_iff_toInt_lt, Int32.le_iff_toInt_le, l0, l1, l2, l3] at q1 q2 q3 q4 q5 q6 q24 q27 q28 ⊢; omega) ?_
                    refine ab_fin.s2 (i := .iload_n 3) (k := 1) (pc' := 39) (lv' := [(0, .ref 101), (1, .int ((xs 1))), (2, .int ((xs 2))), (3, .int ((xs 3)))]) (st' := [.int ((xs 3))]) (by decide +kernel) rfl rfl ?_
                    refine ab_fin.s2 (i := .aload_n 0) (k := 1) (pc' := 40) (lv' := [(0, .ref 101), (1, .int ((xs 1))), (2, .int ((xs 2))), (3, .int ((xs 3)))]) (st' := [.ref 101, .int ((xs 3))]) (by decide +kernel) rfl rfl ?_
                    refine ab_fin.getf (ix := 17) (k := 0) (v := .ref 102) (pc' := 43) (by decide +kernel) rfl (ab_ov_get (lt0 101 (by decide)) rfl) rfl rfl ?_
                    refine ab_fin.s2 (i := .iload_n 1) (k := 1) (pc' := 44) (lv' := [(0, .ref 101), (1, .int ((xs 1))), (2, .int ((xs 2))), (3, .int ((xs 3)))]) (st' := [.int ((xs 1)), .ref 102, .int ((xs 3))]) (by decide +kernel) rfl rfl ?_
                    have q34 : (xs 1) = 1 := (by have l0 : (0 : Int32).toInt = 0 := rfl; have l1 : (1 : Int32).toInt = 1 := rfl; have l2 : (2 : Int32).toInt = 2 := rfl; have l3 : (3 : Int32).toInt = 3 := rfl; simp only [← Int32.toInt_inj, Int32.lt_iff_toInt_lt, Int32.le_iff_toInt_le, l0, l1, l2, l3] at q1 q2 q3 q4 q5 q6 q24 q27 q28 ⊢; omega)
                    rw [q34]
                    refine ab_fin.aald (v := .ref 2303) (pc' := 45) (by decide +kernel) (ab_ov_no f_102 rfl) (by decide) rfl (ab_bd (n := 24) (by rw [p1_n102]) (by decide +kernel)) rfl rfl ?_
                    refine ab_fin.getf (ix := 79) (k := 5) (v := .ref 2311) (pc' := 48) (by decide +kernel) rfl (ab_ov_no f_2303 rfl) rfl rfl ?_
                    refine ab_fin.s2 (i := .iload_n 2) (k := 1) (pc' := 49) (lv' := [(0, .ref 101), (1, .int 1), (2, .int ((xs 2))), (3, .int ((xs 3)))]) (st' := [.int ((xs 2)), .ref 2311, .int ((xs 3))]) (by decide +kernel) rfl rfl ?_
                    have q35 : (xs 2) = 1 := (by have l0 : (0 : Int32).toInt = 0 := rfl; have l1 : (1 : Int32).toInt = 1 := rfl; have l2 : (2 : Int32).toInt = 2 := rfl; have l3 : (3 : Int32).toInt = 3 := rfl; simp only [← Int32.toInt_inj, Int32.lt_iff_toInt_lt, Int32.le_iff_toInt_le, l0, l1, l2, l3] at q1 q2 q3 q4 q5 q6 q24 q27 q28 q34 ⊢; omega)
                    rw [q35]
                    refine ab_fin.iald (v := 2) (pc' := 50) (by decide +kernel) (ab_ov_no f_2311 rfl) (ab_bd (n := 3) (by rw [List.length_replicate]) (by decide +kernel)) rfl rfl ?_
                    refine ab_fin.brF (c := (2 : Int32) ≤ (xs 3)) (i := .if_icmp .ge 19) (off := 19) (t := 69) (pc' := 53) (r := []) (by decide +kernel) rfl (by decide +kernel) rfl (by have l0 : (0 : Int32).toInt = 0 := rfl; have l1 : (1 : Int32).toInt = 1 := rfl; have l2 : (2 : Int32).toInt = 2 := rfl; have l3 : (3 : Int32).toInt = 3 := rfl; simp only [← Int32.toInt_inj, Int32.lt_iff_toInt_lt, Int32.le_iff_toInt_le, l0, l1, l2, l3] at q1 q2 q3 q4 q5 q6 q24 q27 q28 q34 q35 ⊢; omega) ?_
                    refine ab_fin.s2 (i := .aload_n 0) (k := 1) (pc' := 54) (lv' := [(0, .ref 101), (1, .int 1), (2, .int 1), (3, .int ((xs 3)))]) (st' := [.ref 101]) (by decide +kernel) rfl rfl ?_
                    refine ab_fin.getf (ix := 17) (k := 0) (v := .ref 102) (pc' := 57) (by decide +kernel) rfl (ab_ov_get (lt0 101 (by decide)) rfl) rfl rfl ?_
                    refine ab_fin.s2 (i := .iload_n 1) (k := 1) (pc' := 58) (lv' := [(0, .ref 101), (1, .int 1), (2, .int 1), (3, .int ((xs 3)))]) (st' := [.int 1, .ref 102]) (by decide +kernel) rfl rfl ?_
                    refine ab_fin.aald (v := .ref 2303) (pc' := 59) (by decide +kernel) (ab_ov_no f_102 rfl) (by decide) rfl (ab_bd (n := 24) (by rw [p1_n102]) (by decide +kernel)) rfl rfl ?_
                    refine ab_fin.getf (ix := 86) (k := 4) (v := .ref 2307) (pc' := 62) (by decide +kernel) rfl (ab_ov_no f_2303 rfl) rfl rfl ?_
                    refine ab_fin.s2 (i := .iload_n 2) (k := 1) (pc' := 63) (lv' := [(0, .ref 101), (1, .int 1), (2, .int 1), (3, .int ((xs 3)))]) (st' := [.int 1, .ref 2307]) (by decide +kernel) rfl rfl ?_
                    refine ab_fin.aald (v := .ref 2309) (pc' := 64) (by decide +kernel) (ab_ov_no f_2307 rfl) (by decide) rfl (ab_bd (n := 3) (by rw [p1_n2307]) (by decide +kernel)) rfl rfl ?_
                    refine ab_fin.s2 (i := .iload_n 3) (k := 1) (pc' := 65) (lv' := [(0, .ref 101), (1, .int 1), (2, .int 1), (3, .int ((xs 3)))]) (st' := [.int ((xs 3)), .ref 2309]) (by decide +kernel) rfl rfl ?_
                    have q36 : (xs 3) = 0 := (by have l0 : (0 : Int32).toInt = 0 := rfl; have l1 : (1 : Int32).toInt = 1 := rfl; have l2 : (2 : Int32).toInt = 2 := rfl; have l3 : (3 : Int32).toInt = 3 := rfl; simp only [← Int32.toInt_inj, Int32.lt_iff_toInt_lt, Int32.le_iff_toInt_le, l0, l1, l2, l3] at q1 q2 q3 q4 q5 q6 q24 q27 q28 q34 q35 ⊢; omega)
                    rw [q36]
                    refine ab_fin.iald (v := 1) (pc' := 66) (by decide +kernel) (ab_ov_no f_2309 rfl) (ab_bd (n := 24) (by rw [p1_n2309]) (by decide +kernel)) rfl rfl ?_
                    refine ab_fin.s3 (i := .goto 4) (k := 3) (t := 70) (st' := [.int 1]) (by decide +kernel) (ab_goto (by decide +kernel)) ?_
                    refine ab_fin.ret (i := .ireturn) (k := 1) (some (.int 1)) (by decide +kernel) rfl ?_
                    refine ab_bk.back (pc' := 630) (st' := [.int 1]) rfl rfl ?_
                    refine ab_fin.s2 (i := .istore 6) (k := 2) (pc' := 632) (lv' := [(6, .int 1), (5, .int 0), (4, .int 0), (3, .ref 3466), (2, .ref 101), (1, .ref 0), (0, .retAddr 9)]) (st' := []) (by decide +kernel) rfl rfl ?_
                    refine ab_fin.s2 (i := .aload_n 2) (k := 1) (pc' := 633) (lv' := [(6, .int 1), (5, .int 0), (4, .int 0), (3, .ref 3466), (2, .ref 101), (1, .ref 0), (0, .retAddr 9)]) (st' := [.ref 101]) (by decide +kernel) rfl rfl ?_
                    refine ab_fin.call (i := .invokevirtual 75) (k := 3) (y := 5992) (As := [.ref 101]) (rest := []) (M' := (mX23_thrown, [])) (by decide +kernel) (ab_cv rfl rfl (ab_ov_get (lt0 101 (by decide)) rfl) ⟨(Nat.le_of_ble_eq_true rfl), (Nat.le_of_ble_eq_true rfl)⟩ rfl) rfl (Nat.le_of_ble_eq_true rfl) ?_
                    show ab_fin _ _ _ _ 0 [(0, .ref 101)] [] _ _
                    refine ab_fin.s2 (i := .aload_n 0) (k := 1) (pc' := 1) (lv' := [(0, .ref 101)]) (st' := [.ref 101]) (by decide +kernel) rfl rfl ?_
                    refine ab_fin.getf (ix := 1000) (k := 110) (v := .int 0) (pc' := 4) (by decide +kernel) rfl (ab_ov_get (lt0 101 (by decide)) rfl) rfl rfl ?_
                    refine ab_fin.ret (i := .ireturn) (k := 1) (some (.int 0)) (by decide +kernel) rfl ?_
                    refine ab_bk.back (pc' := 636) (st' := [.int 0]) rfl rfl ?_
                    refine ab_fin.s2 (i := .iload 5) (k := 2) (pc' := 638) (lv' := [(6, .int 1), (5, .int 0), (4, .int 0), (3, .ref 3466), (2, .ref 101), (1, .ref 0), (0, .retAddr 9)]) (st' := [.int 0, .int 0]) (by decide +kernel) rfl rfl ?_
                    refine ab_fin.brT (c := (0 : Int32) = (0 : Int32)) (i := .if_icmp .eq 5) (off := 5) (t := 643) (r := []) (by decide +kernel) rfl (by decide +kernel) (by decide +kernel) ?_
                    refine ab_fin.s2 (i := .iload 5) (k := 2) (pc' := 645) (lv' := [(6, .int 1), (5, .int 0), (4, .int 0), (3, .ref 3466), (2, .ref 101), (1, .ref 0), (0, .retAddr 9)]) (st' := [.int 0]) (by decide +kernel) rfl rfl ?_
                    refine ab_fin.brF (c := ¬ (0 : Int32) = 0) (i := .ifCond .ne 15) (off := 15) (t := 660) (pc' := 648) (r := []) (by decide +kernel) rfl (by decide +kernel) rfl (by decide +kernel) ?_
                    refine ab_fin.s2 (i := .aload_n 3) (k := 1) (pc' := 649) (lv' := [(6, .int 1), (5, .int 0), (4, .int 0), (3, .ref 3466), (2, .ref 101), (1, .ref 0), (0, .retAddr 9)]) (st' := [.ref 3466]) (by decide +kernel) rfl rfl ?_
                    refine ab_fin.s1i (i := .iconst 0) (k := 1) (pc' := 650) (n := 0) (by decide +kernel) rfl (by decide +kernel) rfl ?_
                    refine ab_fin.lald (v := 1) (pc' := 651) (by decide +kernel) (ab_ov_get (lt0 3466 (by decide)) rfl) (ab_bd (n := 1) (by rw [List.length_set, List.length_replicate]) (by decide +kernel)) rfl rfl ?_
                    refine ab_fin.s2 (i := .iload 6) (k := 2) (pc' := 653) (lv' := [(6, .int 1), (5, .int 0), (4, .int 0), (3, .ref 3466), (2, .ref 101), (1, .ref 0), (0, .retAddr 9)]) (st' := [.int 1, .long 1]) (by decide +kernel) rfl rfl ?_
                    refine ab_fin.s1l (i := .i2l) (k := 1) (pc' := 654) (n := 1) (by decide +kernel) rfl (by decide +kernel) rfl ?_
                    refine ab_fin.s1i (i := .lcmp) (k := 1) (pc' := 655) (n := 0) (by decide +kernel) rfl (by decide +kernel) rfl ?_
                    refine ab_fin.brT (c := (0 : Int32) = 0) (i := .ifCond .eq 5) (off := 5) (t := 660) (r := []) (by decide +kernel) rfl (by decide +kernel) (by decide +kernel) ?_
                    refine ab_fin.s3 (i := .goto 430) (k := 3) (t := 1090) (st' := []) (by decide +kernel) (ab_goto (by decide +kernel)) ?_
                    refine ab_fin.inc (i := .iinc 4 6) (k := 3) (pc' := 1093) (j := 4) (n := 6) (lv' := [(6, .int 1), (5, .int 0), (3, .ref 3466), (2, .ref 101), (1, .ref 0), (0, .retAddr 9)]) (by decide +kernel) rfl (by decide +kernel) rfl ?_
                    refine ab_fin.s3 (i := .goto (-1070)) (k := 3) (t := 23) (st' := []) (by decide +kernel) (ab_goto (by decide +kernel)) ?_
                    refine ab_fin.s2 (i := .iload 4) (k := 2) (pc' := 25) (lv' := [(4, .int 6), (6, .int 1), (5, .int 0), (3, .ref 3466), (2, .ref 101), (1, .ref 0), (0, .retAddr 9)]) (st' := [.int 6]) (by decide +kernel) rfl rfl ?_
                    refine ab_fin.s2 (i := .aload_n 0) (k := 1) (pc' := 26) (lv' := [(4, .int 6), (6, .int 1), (5, .int 0), (3, .ref 3466), (2, .ref 101), (1, .ref 0), (0, .retAddr 9)]) (st' := [.retAddr 9, .int 6]) (by decide +kernel) rfl rfl ?_
                    refine ab_fin.s8 (i := .arraylength) (k := 1) (pc' := 27) (st' := [.int 6, .int 6]) (by decide +kernel) rfl rfl rfl rfl ?_
                    refine ab_fin.s1i (i := .bipush 6) (k := 2) (pc' := 29) (n := 6) (by decide +kernel) rfl (by decide +kernel) rfl ?_
                    refine ab_fin.s1i (i := .isub) (k := 1) (pc' := 30) (n := 0) (by decide +kernel) rfl (by decide +kernel) rfl ?_
                    refine ab_fin.brT (c := (0 : Int32) < (6 : Int32)) (i := .if_icmp .gt 1066) (off := 1066) (t := 1096) (r := []) (by decide +kernel) rfl (by decide +kernel) (by decide +kernel) ?_
                    refine ab_fin.s1i (i := .iconst 1) (k := 1) (pc' := 1097) (n := 1) (by decide +kernel) rfl (by decide +kernel) rfl ?_
                    refine ab_fin.ret (i := .ireturn) (k := 1) (some (.int 1)) (by decide +kernel) rfl ?_
                    refine ⟨rfl, ?_, ?_⟩
                    · rw [ab_ov_len, hl]; decide
                    · refine Nat.le_trans (ab_ov_z _ _) ?_
                      simp only [List.map, List.sum_cons, List.sum_nil, ab_z1, ab_len, List.length_set, List.length_replicate, List.length_cons, List.length_nil, p1_n101]
                      omega
                  · rw [q28]
                    try rw [show ((((2 * (24 : Int32)) + (1 : Int32)) * (24 : Int32)) + 0) = (1176 : Int32) by decide +kernel]
                    refine ab_fin.iald (v := 1) (pc' := 16) (by decide +kernel) (ab_ov_no f_7 rfl) (ab_bd (n := 1728) (by rw [p1_n7]) (by decide +kernel)) rfl rfl ?_
                    refine ab_fin.ret (i := .ireturn) (k := 1) (some (.int 1)) (by decide +kernel) rfl ?_
                    refine ab_bk.back (pc' := 69) (st' := [.int 1]) rfl rfl ?_
                    refine ab_fin.s3 (i := .goto 4) (k := 3) (t := 73) (st' := [.int 1]) (by decide +kernel) (ab_goto (by decide +kernel)) ?_
                    refine ab_fin.ret (i := .ireturn) (k := 1) (some (.int 1)) (by decide +kernel) rfl ?_
                    refine ab_bk.back (pc' := 10) (st' := [.int 1, .int 0, .ref 3466]) rfl rfl ?_
                    refine ab_fin.s1l (i := .i2l) (k := 1) (pc' := 11) (n := 1) (by decide +kernel) rfl (by decide +kernel) rfl ?_
                    refine ab_fin.last (h1 := ab_ov h [(3466, .inr (.inl (1, .inr (.inl ((List.replicate 1 0).set 0 (1))))))]) (pc' := 12) (by decide +kernel) (ab_ov_no f_3466 rfl) (ab_bd (n := 1) (by rw [List.length_replicate]) (by decide +kernel)) (ab_ov_set rfl) rfl ?_
                    refine ab_fin.s3 (i := .goto 11) (k := 3) (t := 23) (st' := []) (by decide +kernel) (ab_goto (by decide +kernel)) ?_
                    refine ab_fin.s1i (i := .iconst 0) (k := 1) (pc' := 24) (n := 0) (by decide +kernel) rfl (by decide +kernel) rfl ?_
                    refine ab_fin.ret (i := .ireturn) (k := 1) (some (.int 0)) (by decide +kernel) rfl ?_
                    refine ab_bk.back (pc' := 606) (st' := [.int 0]) rfl rfl ?_
                    refine ab_fin.s2 (i := .istore 5) (k := 2) (pc' := 608) (lv' := [(5, .int 0), (4, .int 0), (3, .ref 3466), (2, .ref 101), (1, .ref 0), (0, .retAddr 9)]) (st' := []) (by decide +kernel) rfl rfl ?_
                    refine ab_fin.s2 (i := .aload_n 2) (k := 1) (pc' := 609) (lv' := [(5, .int 0), (4, .int 0), (3, .ref 3466), (2, .ref 101), (1, .ref 0), (0, .retAddr 9)]) (st' := [.ref 101]) (by decide +kernel) rfl rfl ?_
                    refine ab_fin.s2 (i := .aload_n 0) (k := 1) (pc' := 610) (lv' := [(5, .int 0), (4, .int 0), (3, .ref 3466), (2, .ref 101), (1, .ref 0), (0, .retAddr 9)]) (st' := [.retAddr 9, .ref 101]) (by decide +kernel) rfl rfl ?_
                    refine ab_fin.s2 (i := .iload 4) (k := 2) (pc' := 612) (lv' := [(5, .int 0), (4, .int 0), (3, .ref 3466), (2, .ref 101), (1, .ref 0), (0, .retAddr 9)]) (st' := [.int 0, .retAddr 9, .ref 101]) (by decide +kernel) rfl rfl ?_
                    refine ab_fin.s1i (i := .iconst 1) (k := 1) (pc' := 613) (n := 1) (by decide +kernel) rfl (by decide +kernel) rfl ?_
                    refine ab_fin.s1i (i := .iadd) (k := 1) (pc' := 614) (n := 1) (by decide +kernel) rfl (by decide +kernel) rfl ?_
                    refine ab_fin.s8 (i := .iaload) (k := 1) (pc' := 615) (st' := [.int ((xs 1)), .ref 101]) (by decide +kernel) (ab_x0 rfl (by decide +kernel) rfl) rfl rfl rfl ?_
                    refine ab_fin.s2 (i := .aload_n 0) (k := 1) (pc' := 616) (lv' := [(5, .int 0), (4, .int 0), (3, .ref 3466), (2, .ref 101), (1, .ref 0), (0, .retAddr 9)]) (st' := [.retAddr 9, .int ((xs 1)), .ref 101]) (by decide +kernel) rfl rfl ?_
                    refine ab_fin.s2 (i := .iload 4) (k := 2) (pc' := 618) (lv' := [(5, .int 0), (4, .int 0), (3, .ref 3466), (2, .ref 101), (1, .ref 0), (0, .retAddr 9)]) (st' := [.int 0, .retAddr 9, .int ((xs 1)), .ref 101]) (by decide +kernel) rfl rfl ?_
                    refine ab_fin.s1i (i := .iconst 2) (k := 1) (pc' := 619) (n := 2) (by decide +kernel) rfl (by decide +kernel) rfl ?_
                    refine ab_fin.s1i (i := .iadd) (k := 1) (pc' := 620) (n := 2) (by decide +kernel) rfl (by decide +kernel) rfl ?_
                    refine ab_fin.s8 (i := .iaload) (k := 1) (pc' := 621) (st' := [.int ((xs 2)), .int ((xs 1)), .ref 101]) (by decide +kernel) (ab_x0 rfl (by decide +kernel) rfl) rfl rfl rfl ?_
                    refine ab_fin.s2 (i := .aload_n 0) (k := 1) (pc' := 622) (lv' := [(5, .int 0), (4, .int 0), (3, .ref 3466), (2, .ref 101), (1, .ref 0), (0, .retAddr 9)]) (st' := [.retAddr 9, .int ((xs 2)), .int ((xs 1)), .ref 101]) (by decide +kernel) rfl rfl ?_
                    refine ab_fin.s2 (i := .iload 4) (k := 2) (pc' := 624) (lv' := [(5, .int 0), (4, .int 0), (3, .ref 3466), (2, .ref 101), (1, .ref 0), (0, .retAddr 9)]) (st' := [.int 0, .retAddr 9, .int ((xs 2)), .int ((xs 1)), .ref 101]) (by decide +kernel) rfl rfl ?_
                    refine ab_fin.s1i (i := .iconst 3) (k := 1) (pc' := 625) (n := 3) (by decide +kernel) rfl (by decide +kernel) rfl ?_
                    refine ab_fin.s1i (i := .iadd) (k := 1) (pc' := 626) (n := 3) (by decide +kernel) rfl (by decide +kernel) rfl ?_
                    refine ab_fin.s8 (i := .iaload) (k := 1) (pc' := 627) (st' := [.int ((xs 3)), .int ((xs 2)), .int ((xs 1)), .ref 101]) (by decide +kernel) (ab_x0 rfl (by decide +kernel) rfl) rfl rfl rfl ?_
                    refine ab_fin.call (i := .invokevirtual 110) (k := 3) (y := 6003) (As := [.ref 101, .int ((xs 1)), .int ((xs 2)), .int ((xs 3))]) (rest := []) (M' := (mX23_row, [])) (by decide +kernel) (ab_cv rfl rfl (ab_ov_no f_101 rfl) ⟨(Nat.le_of_ble_eq_true rfl), (Nat.le_of_ble_eq_true rfl)⟩ rfl) rfl (Nat.le_of_ble_eq_true rfl) ?_
                    show ab_fin _ _ _ _ 0 [(0, .ref 101), (1, .int ((xs 1))), (2, .int ((xs 2))), (3, .int ((xs 3)))] [] _ _
                    refine ab_fin.s2 (i := .aload_n 0) (k := 1) (pc' := 1) (lv' := [(0, .ref 101), (1, .int ((xs 1))), (2, .int ((xs 2))), (3, .int ((xs 3)))]) (st' := [.ref 101]) (by decide +kernel) rfl rfl ?_
                    refine ab_fin.s1i (i := .iconst 0) (k := 1) (pc' := 2) (n := 0) (by decide +kernel) rfl (by decide +kernel) rfl ?_
                    refine ab_fin.putf (ix := 1000) (h1 := ab_ov h [(101, .inr (.inr (24, (p1_o101).set 110 (.int 0)))), (3466, .inr (.inl (1, .inr (.inl ((List.replicate 1 0).set 0 (1))))))]) (pc' := 5) (by decide +kernel) rfl (ab_ov_no f_101 rfl) (ab_klt (n := 115) (by rw [p1_n101]) (by decide)) rfl rfl (ab_ov_set rfl) rfl ?_
                    refine ab_fin.s2 (i := .aload_n 0) (k := 1) (pc' := 6) (lv' := [(0, .ref 101), (1, .int ((xs 1))), (2, .int ((xs 2))), (3, .int ((xs 3)))]) (st' := [.ref 101]) (by decide +kernel) rfl rfl ?_
                    refine ab_fin.s2 (i := .iload_n 1) (k := 1) (pc' := 7) (lv' := [(0, .ref 101), (1, .int ((xs 1))), (2, .int ((xs 2))), (3, .int ((xs 3)))]) (st' := [.int ((xs 1)), .ref 101]) (by decide +kernel) rfl rfl ?_
                    refine ab_fin.call (i := .invokevirtual 1018) (k := 3) (y := 6001) (As := [.ref 101, .int ((xs 1))]) (rest := []) (M' := (mX23_isKind, [])) (by decide +kernel) (ab_cv rfl rfl (ab_ov_get (lt0 101 (by decide)) rfl) ⟨(Nat.le_of_ble_eq_true rfl), (Nat.le_of_ble_eq_true rfl)⟩ rfl) rfl (Nat.le_of_ble_eq_true rfl) ?_
                    show ab_fin _ _ _ _ 0 [(0, .ref 101), (1, .int ((xs 1)))] [] _ _
                    refine ab_fin.s2 (i := .iload_n 1) (k := 1) (pc' := 1) (lv' := [(0, .ref 101), (1, .int ((xs 1)))]) (st' := [.int ((xs 1))]) (by decide +kernel) rfl rfl ?_
                    refine ab_fin.brF (c := (xs 1) < 0) (i := .ifCond .lt 15) (off := 15) (t := 16) (pc' := 4) (r := []) (by decide +kernel) rfl (by decide +kernel) rfl (by have l0 : (0 : Int32).toInt = 0 := rfl; have l1 : (1 : Int32).toInt = 1 := rfl; have l2 : (2 : Int32).toInt = 2 := rfl; have l3 : (3 : Int32).toInt = 3 := rfl; simp only [← Int32.toInt_inj, Int32.lt_iff_toInt_lt, Int32.le_iff_toInt_le, l0, l1, l2, l3] at q1 q2 q3 q4 q5 q6 q24 q27 q28 ⊢; omega) ?_
                    refine ab_fin.s2 (i := .iload_n 1) (k := 1) (pc' := 5) (lv' := [(0, .ref 101), (1, .int ((xs 1)))]) (st' := [.int ((xs 1))]) (by decide +kernel) rfl rfl ?_
                    refine ab_fin.s2 (i := .aload_n 0) (k := 1) (pc' := 6) (lv' := [(0, .ref 101), (1, .int ((xs 1)))]) (st' := [.ref 101, .int ((xs 1))]) (by decide +kernel) rfl rfl ?_
                    refine ab_fin.getf (ix := 13) (k := 4) (v := .int 3) (pc' := 9) (by decide +kernel) rfl (ab_ov_get (lt0 101 (by decide)) rfl) rfl rfl ?_
                    refine ab_fin.brF (c := (3 : Int32) ≤ (xs 1)) (i := .if_icmp .ge 7) (off := 7) (t := 16) (pc' := 12) (r := []) (by decide +kernel) rfl (by decide +kernel) rfl (by have l0 : (0 : Int32).toInt = 0 := rfl; have l1 : (1 : Int32).toInt = 1 := rfl; have l2 : (2 : Int32).toInt = 2 := rfl; have l3 : (3 : Int32).toInt = 3 := rfl; simp only [← Int32.toInt_inj, Int32.lt_iff_toInt_lt, Int32.le_iff_toInt_le, l0, l1, l2, l3] at q1 q2 q3 q4 q5 q6 q24 q27 q28 ⊢; omega) ?_
                    refine ab_fin.s1i (i := .iconst 1) (k := 1) (pc' := 13) (n := 1) (by decide +kernel) rfl (by decide +kernel) rfl ?_
                    refine ab_fin.s3 (i := .goto 4) (k := 3) (t := 17) (st' := [.int 1]) (by decide +kernel) (ab_goto (by decide +kernel)) ?_
                    refine ab_fin.ret (i := .ireturn) (k := 1) (some (.int 1)) (by decide +kernel) rfl ?_
                    refine ab_bk.back (pc' := 10) (st' := [.int 1]) rfl rfl ?_
                    refine ab_fin.brF (c := (1 : Int32) = 0) (i := .ifCond .eq 7) (off := 7) (t := 17) (pc' := 13) (r := []) (by decide +kernel) rfl (by decide +kernel) rfl (by decide +kernel) ?_
                    refine ab_fin.s2 (i := .iload_n 3) (k := 1) (pc' := 14) (lv' := [(0, .ref 101), (1, .int ((xs 1))), (2, .int ((xs 2))), (3, .int ((xs 3)))]) (st' := [.int ((xs 3))]) (by decide +kernel) rfl rfl ?_
                    refine ab_fin.brT (c := 0 ≤ (xs 3)) (i := .ifCond .ge 9) (off := 9) (t := 23) (r := []) (by decide +kernel) rfl (by decide +kernel) (by have l0 : (0 : Int32).toInt = 0 := rfl; have l1 : (1 : Int32).toInt = 1 := rfl; have l2 : (2 : Int32).toInt = 2 := rfl; have l3 : (3 : Int32).toInt = 3 := rfl; simp only [← Int32.toInt_inj, Int32.lt_iff_toInt_lt, Int32.le_iff_toInt_le, l0, l1, l2, l3] at q1 q2 q3 q4 q5 q6 q24 q27 q28 ⊢; omega) ?_
                    refine ab_fin.s2 (i := .iload_n 2) (k := 1) (pc' := 24) (lv' := [(0, .ref 101), (1, .int ((xs 1))), (2, .int ((xs 2))), (3, .int ((xs 3)))]) (st' := [.int ((xs 2))]) (by decide +kernel) rfl rfl ?_
                    refine ab_fin.brF (c := (xs 2) < 0) (i := .ifCond .lt 8) (off := 8) (t := 32) (pc' := 27) (r := []) (by decide +kernel) rfl (by decide +kernel) rfl (by have l0 : (0 : Int32).toInt = 0 := rfl; have l1 : (1 : Int32).toInt = 1 := rfl; have l2 : (2 : Int32).toInt = 2 := rfl; have l3 : (3 : Int32).toInt = 3 := rfl; simp only [← Int32.toInt_inj, Int32.lt_iff_toInt_lt, Int32.le_iff_toInt_le, l0, l1, l2, l3] at q1 q2 q3 q4 q5 q6 q24 q27 q28 ⊢; omega) ?_
                    refine ab_fin.s2 (i := .iload_n 2) (k := 1) (pc' := 28) (lv' := [(0, .ref 101), (1, .int ((xs 1))), (2, .int ((xs 2))), (3, .int ((xs 3)))]) (st' := [.int ((xs 2))]) (by decide +kernel) rfl rfl ?_
                    refine ab_fin.s1i (i := .iconst 2) (k := 1) (pc' := 29) (n := 2) (by decide +kernel) rfl (by decide +kernel) rfl ?_
                    refine ab_fin.brT (c := (xs 2) ≤ (2 : Int32)) (i := .if_icmp .le 9) (off := 9) (t := 38) (r := []) (by decide +kernel) rfl (by decide +kernel) (by have l0 : (0 : Int32).toInt = 0 := rfl; have l1 : (1 : Int32).toInt = 1 := rfl; have l2 : (2 : Int32).toInt = 2 := rfl; have l3 : (3 : Int32).toInt = 3 := rfl; simp only [← Int32.toInt_inj, Int32.lt_iff_toInt_lt, Int32.le_iff_toInt_le, l0, l1, l2, l3] at q1 q2 q3 q4 q5 q6 q24 q27 q28 ⊢; omega) ?_
                    refine ab_fin.s2 (i := .iload_n 3) (k := 1) (pc' := 39) (lv' := [(0, .ref 101), (1, .int ((xs 1))), (2, .int ((xs 2))), (3, .int ((xs 3)))]) (st' := [.int ((xs 3))]) (by decide +kernel) rfl rfl ?_
                    refine ab_fin.s2 (i := .aload_n 0) (k := 1) (pc' := 40) (lv' := [(0, .ref 101), (1, .int ((xs 1))), (2, .int ((xs 2))), (3, .int ((xs 3)))]) (st' := [.ref 101, .int ((xs 3))]) (by decide +kernel) rfl rfl ?_
                    refine ab_fin.getf (ix := 17) (k := 0) (v := .ref 102) (pc' := 43) (by decide +kernel) rfl (ab_ov_get (lt0 101 (by decide)) rfl) rfl rfl ?_
                    refine ab_fin.s2 (i := .iload_n 1) (k := 1) (pc' := 44) (lv' := [(0, .ref 101), (1, .int ((xs 1))), (2, .int ((xs 2))), (3, .int ((xs 3)))]) (st' := [.int ((xs 1)), .ref 102, .int ((xs 3))]) (by decide +kernel) rfl rfl ?_
                    have q38 : (xs 1) = 1 := (by have l0 : (0 : Int32).toInt = 0 := rfl; have l1 : (1 : Int32).toInt = 1 := rfl; have l2 : (2 : Int32).toInt = 2 := rfl; have l3 : (3 : Int32).toInt = 3 := rfl; simp only [← Int32.toInt_inj, Int32.lt_iff_toInt_lt, Int32.le_iff_toInt_le, l0, l1, l2, l3] at q1 q2 q3 q4 q5 q6 q24 q27 q28 ⊢; omega)
                    rw [q38]
                    refine ab_fin.aald (v := .ref 2303) (pc' := 45) (by decide +kernel) (ab_ov_no f_102 rfl) (by decide) rfl (ab_bd (n := 24) (by rw [p1_n102]) (by decide +kernel)) rfl rfl ?_
                    refine ab_fin.getf (ix := 79) (k := 5) (v := .ref 2311) (pc' := 48) (by decide +kernel) rfl (ab_ov_no f_2303 rfl) rfl rfl ?_
                    refine ab_fin.s2 (i := .iload_n 2) (k := 1) (pc' := 49) (lv' := [(0, .ref 101), (1, .int 1), (2, .int ((xs 2))), (3, .int ((xs 3)))]) (st' := [.int ((xs 2)), .ref 2311, .int ((xs 3))]) (by decide +kernel) rfl rfl ?_
                    have q39 : (xs 2) = 2 := (by have l0 : (0 : Int32).toInt = 0 := rfl; have l1 : (1 : Int32).toInt = 1 := rfl; have l2 : (2 : Int32).toInt = 2 := rfl; have l3 : (3 : Int32).toInt = 3 := rfl; simp only [← Int32.toInt_inj, Int32.lt_iff_toInt_lt, Int32.le_iff_toInt_le, l0, l1, l2, l3] at q1 q2 q3 q4 q5 q6 q24 q27 q28 q38 ⊢; omega)
                    rw [q39]
                    refine ab_fin.iald (v := 2) (pc' := 50) (by decide +kernel) (ab_ov_no f_2311 rfl) (ab_bd (n := 3) (by rw [List.length_replicate]) (by decide +kernel)) rfl rfl ?_
                    refine ab_fin.brF (c := (2 : Int32) ≤ (xs 3)) (i := .if_icmp .ge 19) (off := 19) (t := 69) (pc' := 53) (r := []) (by decide +kernel) rfl (by decide +kernel) rfl (by have l0 : (0 : Int32).toInt = 0 := rfl; have l1 : (1 : Int32).toInt = 1 := rfl; have l2 : (2 : Int32).toInt = 2 := rfl; have l3 : (3 : Int32).toInt = 3 := rfl; simp only [← Int32.toInt_inj, Int32.lt_iff_toInt_lt, Int32.le_iff_toInt_le, l0, l1, l2, l3] at q1 q2 q3 q4 q5 q6 q24 q27 q28 q38 q39 ⊢; omega) ?_
                    refine ab_fin.s2 (i := .aload_n 0) (k := 1) (pc' := 54) (lv' := [(0, .ref 101), (1, .int 1), (2, .int 2), (3, .int ((xs 3)))]) (st' := [.ref 101]) (by decide +kernel) rfl rfl ?_
                    refine ab_fin.getf (ix := 17) (k := 0) (v := .ref 102) (pc' := 57) (by decide +kernel) rfl (ab_ov_get (lt0 101 (by decide)) rfl) rfl rfl ?_
                    refine ab_fin.s2 (i := .iload_n 1) (k := 1) (pc' := 58) (lv' := [(0, .ref 101), (1, .int 1), (2, .int 2), (3, .int ((xs 3)))]) (st' := [.int 1, .ref 102]) (by decide +kernel) rfl rfl ?_
                    refine ab_fin.aald (v := .ref 2303) (pc' := 59) (by decide +kernel) (ab_ov_no f_102 rfl) (by decide) rfl (ab_bd (n := 24) (by rw [p1_n102]) (by decide +kernel)) rfl rfl ?_
                    refine ab_fin.getf (ix := 86) (k := 4) (v := .ref 2307) (pc' := 62) (by decide +kernel) rfl (ab_ov_no f_2303 rfl) rfl rfl ?_
                    refine ab_fin.s2 (i := .iload_n 2) (k := 1) (pc' := 63) (lv' := [(0, .ref 101), (1, .int 1), (2, .int 2), (3, .int ((xs 3)))]) (st' := [.int 2, .ref 2307]) (by decide +kernel) rfl rfl ?_
                    refine ab_fin.aald (v := .ref 2310) (pc' := 64) (by decide +kernel) (ab_ov_no f_2307 rfl) (by decide) rfl (ab_bd (n := 3) (by rw [p1_n2307]) (by decide +kernel)) rfl rfl ?_
                    refine ab_fin.s2 (i := .iload_n 3) (k := 1) (pc' := 65) (lv' := [(0, .ref 101), (1, .int 1), (2, .int 2), (3, .int ((xs 3)))]) (st' := [.int ((xs 3)), .ref 2310]) (by decide +kernel) rfl rfl ?_
                    have q40 : (xs 3) = 0 := (by have l0 : (0 : Int32).toInt = 0 := rfl; have l1 : (1 : Int32).toInt = 1 := rfl; have l2 : (2 : Int32).toInt = 2 := rfl; have l3 : (3 : Int32).toInt = 3 := rfl; simp only [← Int32.toInt_inj, Int32.lt_iff_toInt_lt, Int32.le_iff_toInt_le, l0, l1, l2, l3] at q1 q2 q3 q4 q5 q6 q24 q27 q28 q38 q39 ⊢; omega)
                    rw [q40]
                    refine ab_fin.iald (v := 1) (pc' := 66) (by decide +kernel) (ab_ov_no f_2310 rfl) (ab_bd (n := 24) (by rw [p1_n2310]) (by decide +kernel)) rfl rfl ?_
                    refine ab_fin.s3 (i := .goto 4) (k := 3) (t := 70) (st' := [.int 1]) (by decide +kernel) (ab_goto (by decide +kernel)) ?_
                    refine ab_fin.ret (i := .ireturn) (k := 1) (some (.int 1)) (by decide +kernel) rfl ?_
                    refine ab_bk.back (pc' := 630) (st' := [.int 1]) rfl rfl ?_
                    refine ab_fin.s2 (i := .istore 6) (k := 2) (pc' := 632) (lv' := [(6, .int 1), (5, .int 0), (4, .int 0), (3, .ref 3466), (2, .ref 101), (1, .ref 0), (0, .retAddr 9)]) (st' := []) (by decide +kernel) rfl rfl ?_
                    refine ab_fin.s2 (i := .aload_n 2) (k := 1) (pc' := 633) (lv' := [(6, .int 1), (5, .int 0), (4, .int 0), (3, .ref 3466), (2, .ref 101), (1, .ref 0), (0, .retAddr 9)]) (st' := [.ref 101]) (by decide +kernel) rfl rfl ?_
                    refine ab_fin.call (i := .invokevirtual 75) (k := 3) (y := 5992) (As := [.ref 101]) (rest := []) (M' := (mX23_thrown, [])) (by decide +kernel) (ab_cv rfl rfl (ab_ov_get (lt0 101 (by decide)) rfl) ⟨(Nat.le_of_ble_eq_true rfl), (Nat.le_of_ble_eq_true rfl)⟩ rfl) rfl (Nat.le_of_ble_eq_true rfl) ?_
                    show ab_fin _ _ _ _ 0 [(0, .ref 101)] [] _ _
                    refine ab_fin.s2 (i := .aload_n 0) (k := 1) (pc' := 1) (lv' := [(0, .ref 101)]) (st' := [.ref 101]) (by decide +kernel) rfl rfl ?_
                    refine ab_fin.getf (ix := 1000) (k := 110) (v := .int 0) (pc' := 4) (by decide +kernel) rfl (ab_ov_get (lt0 101 (by decide)) rfl) rfl rfl ?_
                    refine ab_fin.ret (i := .ireturn) (k := 1) (some (.int 0)) (by decide +kernel) rfl ?_
                    refine ab_bk.back (pc' := 636) (st' := [.int 0]) rfl rfl ?_
                    refine ab_fin.s2 (i := .iload 5) (k := 2) (pc' := 638) (lv' := [(6, .int 1), (5, .int 0), (4, .int 0), (3, .ref 3466), (2, .ref 101), (1, .ref 0), (0, .retAddr 9)]) (st' := [.int 0, .int 0]) (by decide +kernel) rfl rfl ?_
                    refine ab_fin.brT (c := (0 : Int32) = (0 : Int32)) (i := .if_icmp .eq 5) (off := 5) (t := 643) (r := []) (by decide +kernel) rfl (by decide +kernel) (by decide +kernel) ?_
                    refine ab_fin.s2 (i := .iload 5) (k := 2) (pc' := 645) (lv' := [(6, .int 1), (5, .int 0), (4, .int 0), (3, .ref 3466), (2, .ref 101), (1, .ref 0), (0, .retAddr 9)]) (st' := [.int 0]) (by decide +kernel) rfl rfl ?_
                    refine ab_fin.brF (c := ¬ (0 : Int32) = 0) (i := .ifCond .ne 15) (off := 15) (t := 660) (pc' := 648) (r := []) (by decide +kernel) rfl (by decide +kernel) rfl (by decide +kernel) ?_
                    refine ab_fin.s2 (i := .aload_n 3) (k := 1) (pc' := 649) (lv' := [(6, .int 1), (5, .int 0), (4, .int 0), (3, .ref 3466), (2, .ref 101), (1, .ref 0), (0, .retAddr 9)]) (st' := [.ref 3466]) (by decide +kernel) rfl rfl ?_
                    refine ab_fin.s1i (i := .iconst 0) (k := 1) (pc' := 650) (n := 0) (by decide +kernel) rfl (by decide +kernel) rfl ?_
                    refine ab_fin.lald (v := 1) (pc' := 651) (by decide +kernel) (ab_ov_get (lt0 3466 (by decide)) rfl) (ab_bd (n := 1) (by rw [List.length_set, List.length_replicate]) (by decide +kernel)) rfl rfl ?_
                    refine ab_fin.s2 (i := .iload 6) (k := 2) (pc' := 653) (lv' := [(6, .int 1), (5, .int 0), (4, .int 0), (3, .ref 3466), (2, .ref 101), (1, .ref 0), (0, .retAddr 9)]) (st' := [.int 1, .long 1]) (by decide +kernel) rfl rfl ?_
                    refine ab_fin.s1l (i := .i2l) (k := 1) (pc' := 654) (n := 1) (by decide +kernel) rfl (by decide +kernel) rfl ?_
                    refine ab_fin.s1i (i := .lcmp) (k := 1) (pc' := 655) (n := 0) (by decide +kernel) rfl (by decide +kernel) rfl ?_
                    refine ab_fin.brT (c := (0 : Int32) = 0) (i := .ifCond .eq 5) (off := 5) (t := 660) (r := []) (by decide +kernel) rfl (by decide +kernel) (by decide +kernel) ?_
                    refine ab_fin.s3 (i := .goto 430) (k := 3) (t := 1090) (st' := []) (by decide +kernel) (ab_goto (by decide +kernel)) ?_
                    refine ab_fin.inc (i := .iinc 4 6) (k := 3) (pc' := 1093) (j := 4) (n := 6) (lv' := [(6, .int 1), (5, .int 0), (3, .ref 3466), (2, .ref 101), (1, .ref 0), (0, .retAddr 9)]) (by decide +kernel) rfl (by decide +kernel) rfl ?_
                    refine ab_fin.s3 (i := .goto (-1070)) (k := 3) (t := 23) (st' := []) (by decide +kernel) (ab_goto (by decide +kernel)) ?_
                    refine ab_fin.s2 (i := .iload 4) (k := 2) (pc' := 25) (lv' := [(4, .int 6), (6, .int 1), (5, .int 0), (3, .ref 3466), (2, .ref 101), (1, .ref 0), (0, .retAddr 9)]) (st' := [.int 6]) (by decide +kernel) rfl rfl ?_
                    refine ab_fin.s2 (i := .aload_n 0) (k := 1) (pc' := 26) (lv' := [(4, .int 6), (6, .int 1), (5, .int 0), (3, .ref 3466), (2, .ref 101), (1, .ref 0), (0, .retAddr 9)]) (st' := [.retAddr 9, .int 6]) (by decide +kernel) rfl rfl ?_
                    refine ab_fin.s8 (i := .arraylength) (k := 1) (pc' := 27) (st' := [.int 6, .int 6]) (by decide +kernel) rfl rfl rfl rfl ?_
                    refine ab_fin.s1i (i := .bipush 6) (k := 2) (pc' := 29) (n := 6) (by decide +kernel) rfl (by decide +kernel) rfl ?_
                    refine ab_fin.s1i (i := .isub) (k := 1) (pc' := 30) (n := 0) (by decide +kernel) rfl (by decide +kernel) rfl ?_
                    refine ab_fin.brT (c := (0 : Int32) < (6 : Int32)) (i := .if_icmp .gt 1066) (off := 1066) (t := 1096) (r := []) (by decide +kernel) rfl (by decide +kernel) (by decide +kernel) ?_
                    refine ab_fin.s1i (i := .iconst 1) (k := 1) (pc' := 1097) (n := 1) (by decide +kernel) rfl (by decide +kernel) rfl ?_
                    refine ab_fin.ret (i := .ireturn) (k := 1) (some (.int 1)) (by decide +kernel) rfl ?_
                    refine ⟨rfl, ?_, ?_⟩
                    · rw [ab_ov_len, hl]; decide
                    · refine Nat.le_trans (ab_ov_z _ _) ?_
                      simp only [List.map, List.sum_cons, List.sum_nil, ab_z1, ab_len, List.length_set, List.length_replicate, List.length_cons, List.length_nil, p1_n101]
                      omega
                · rw [q27]
                  have q41 : (xs 2) = 0 ∨ (xs 2) = 1 ∨ (xs 2) = 2 := (by have l0 : (0 : Int32).toInt = 0 := rfl; have l1 : (1 : Int32).toInt = 1 := rfl; have l2 : (2 : Int32).toInt = 2 := rfl; have l3 : (3 : Int32).toInt = 3 := rfl; simp only [← Int32.toInt_inj, Int32.lt_iff_toInt_lt, Int32.le_iff_toInt_le, l0, l1, l2, l3] at q1 q2 q3 q4 q5 q6 q24 q27 ⊢; omega)
                  rcases q41 with q41 | q41 | q41
                  · rw [q41]
                    try rw [show ((((0 * (24 : Int32)) + (1 : Int32)) * (24 : Int32)) + 1) = (25 : Int32) by decide +kernel]
                    refine ab_fin.iald (v := 0) (pc' := 16) (by decide +kernel) (ab_ov_no f_7 rfl) (ab_bd (n := 1728) (by rw [p1_n7]) (by decide +kernel)) rfl rfl ?_
                    refine ab_fin.ret (i := .ireturn) (k := 1) (some (.int 0)) (by decide +kernel) rfl ?_
                    refine ab_bk.back (pc' := 69) (st' := [.int 0]) rfl rfl ?_
                    refine ab_fin.s3 (i := .goto 4) (k := 3) (t := 73) (st' := [.int 0]) (by decide +kernel) (ab_goto (by decide +kernel)) ?_
                    refine ab_fin.ret (i := .ireturn) (k := 1) (some (.int 0)) (by decide +kernel) rfl ?_
                    refine ab_bk.back (pc' := 10) (st' := [.int 0, .int 0, .ref 3466]) rfl rfl ?_
                    refine ab_fin.s1l (i := .i2l) (k := 1) (pc' := 11) (n := 0) (by decide +kernel) rfl (by decide +kernel) rfl ?_
                    refine ab_fin.last (h1 := ab_ov h [(3466, .inr (.inl (1, .inr (.inl ((List.replicate 1 0).set 0 (0))))))]) (pc' := 12) (by decide +kernel) (ab_ov_no f_3466 rfl) (ab_bd (n := 1) (by rw [List.length_replicate]) (by decide +kernel)) (ab_ov_set rfl) rfl ?_
                    refine ab_fin.s3 (i := .goto 11) (k := 3) (t := 23) (st' := []) (by decide +kernel) (ab_goto (by decide +kernel)) ?_
                    refine ab_fin.s1i (i := .iconst 0) (k := 1) (pc' := 24) (n := 0) (by decide +kernel) rfl (by decide +kernel) rfl ?_
                    refine ab_fin.ret (i := .ireturn) (k := 1) (some (.int 0)) (by decide +kernel) rfl ?_
                    refine ab_bk.back (pc' := 606) (st' := [.int 0]) rfl rfl ?_
                    refine ab_fin.s2 (i := .istore 5) (k := 2) (pc' := 608) (lv' := [(5, .int 0), (4, .int 0), (3, .ref 3466), (2, .ref 101), (1, .ref 0), (0, .retAddr 9)]) (st' := []) (by decide +kernel) rfl rfl ?_
                    refine ab_fin.s2 (i := .aload_n 2) (k := 1) (pc' := 609) (lv' := [(5, .int 0), (4, .int 0), (3, .ref 3466), (2, .ref 101), (1, .ref 0), (0, .retAddr 9)]) (st' := [.ref 101]) (by decide +kernel) rfl rfl ?_
                    refine ab_fin.s2 (i := .aload_n 0) (k := 1) (pc' := 610) (lv' := [(5, .int 0), (4, .int 0), (3, .ref 3466), (2, .ref 101), (1, .ref 0), (0, .retAddr 9)]) (st' := [.retAddr 9, .ref 101]) (by decide +kernel) rfl rfl ?_
                    refine ab_fin.s2 (i := .iload 4) (k := 2) (pc' := 612) (lv' := [(5, .int 0), (4, .int 0), (3, .ref 3466), (2, .ref 101), (1, .ref 0), (0, .retAddr 9)]) (st' := [.int 0, .retAddr 9, .ref 101]) (by decide +kernel) rfl rfl ?_
                    refine ab_fin.s1i (i := .iconst 1) (k := 1) (pc' := 613) (n := 1) (by decide +kernel) rfl (by decide +kernel) rfl ?_
                    refine ab_fin.s1i (i := .iadd) (k := 1) (pc' := 614) (n := 1) (by decide +kernel) rfl (by decide +kernel) rfl ?_
                    refine ab_fin.s8 (i := .iaload) (k := 1) (pc' := 615) (st' := [.int ((xs 1)), .ref 101]) (by decide +kernel) (ab_x0 rfl (by decide +kernel) rfl) rfl rfl rfl ?_
                    refine ab_fin.s2 (i := .aload_n 0) (k := 1) (pc' := 616) (lv' := [(5, .int 0), (4, .int 0), (3, .ref 3466), (2, .ref 101), (1, .ref 0), (0, .retAddr 9)]) (st' := [.retAddr 9, .int ((xs 1)), .ref 101]) (by decide +kernel) rfl rfl ?_
                    refine ab_fin.s2 (i := .iload 4) (k := 2) (pc' := 618) (lv' := [(5, .int 0), (4, .int 0), (3, .ref 3466), (2, .ref 101), (1, .ref 0), (0, .retAddr 9)]) (st' := [.int 0, .retAddr 9, .int ((xs 1)), .ref 101]) (by decide +kernel) rfl rfl ?_
                    refine ab_fin.s1i (i := .iconst 2) (k := 1) (pc' := 619) (n := 2) (by decide +kernel) rfl (by decide +kernel) rfl ?_
                    refine ab_fin.s1i (i := .iadd) (k := 1) (pc' := 620) (n := 2) (by decide +kernel) rfl (by decide +kernel) rfl ?_
                    refine ab_fin.s8 (i := .iaload) (k := 1) (pc' := 621) (st' := [.int ((xs 2)), .int ((xs 1)), .ref 101]) (by decide +kernel) (ab_x0 rfl (by decide +kernel) rfl) rfl rfl rfl ?_
                    refine ab_fin.s2 (i := .aload_n 0) (k := 1) (pc' := 622) (lv' := [(5, .int 0), (4, .int 0), (3, .ref 3466), (2, .ref 101), (1, .ref 0), (0, .retAddr 9)]) (st' := [.retAddr 9, .int ((xs 2)), .int ((xs 1)), .ref 101]) (by decide +kernel) rfl rfl ?_
                    refine ab_fin.s2 (i := .iload 4) (k := 2) (pc' := 624) (lv' := [(5, .int 0), (4, .int 0), (3, .ref 3466), (2, .ref 101), (1, .ref 0), (0, .retAddr 9)]) (st' := [.int 0, .retAddr 9, .int ((xs 2)), .int ((xs 1)), .ref 101]) (by decide +kernel) rfl rfl ?_
                    refine ab_fin.s1i (i := .iconst 3) (k := 1) (pc' := 625) (n := 3) (by decide +kernel) rfl (by decide +kernel) rfl ?_
                    refine ab_fin.s1i (i := .iadd) (k := 1) (pc' := 626) (n := 3) (by decide +kernel) rfl (by decide +kernel) rfl ?_
                    refine ab_fin.s8 (i := .iaload) (k := 1) (pc' := 627) (st' := [.int ((xs 3)), .int ((xs 2)), .int ((xs 1)), .ref 101]) (by decide +kernel) (ab_x0 rfl (by decide +kernel) rfl) rfl rfl rfl ?_
                    refine ab_fin.call (i := .invokevirtual 110) (k := 3) (y := 6003) (As := [.ref 101, .int ((xs 1)), .int ((xs 2)), .int ((xs 3))]) (rest := []) (M' := (mX23_row, [])) (by decide +kernel) (ab_cv rfl rfl (ab_ov_no f_101 rfl) ⟨(Nat.le_of_ble_eq_true rfl), (Nat.le_of_ble_eq_true rfl)⟩ rfl) rfl (Nat.le_of_ble_eq_true rfl) ?_
                    show ab_fin _ _ _ _ 0 [(0, .ref 101), (1, .int ((xs 1))), (2, .int ((xs 2))), (3, .int ((xs 3)))] [] _ _
                    refine ab_fin.s2 (i := .aload_n 0) (k := 1) (pc' := 1) (lv' := [(0, .ref 101), (1, .int ((xs 1))), (2, .int ((xs 2))), (3, .int ((xs 3)))]) (st' := [.ref 101]) (by decide +kernel) rfl rfl ?_
                    refine ab_fin.s1i (i := .iconst 0) (k := 1) (pc' := 2) (n := 0) (by decide +kernel) rfl (by decide +kernel) rfl ?_
                    refine ab_fin.putf (ix := 1000) (h1 := ab_ov h [(101, .inr (.inr (24, (p1_o101).set 110 (.int 0)))), (3466, .inr (.inl (1, .inr (.inl ((List.replicate 1 0).set 0 (0))))))]) (pc' := 5) (by decide +kernel) rfl (ab_ov_no f_101 rfl) (ab_klt (n := 115) (by rw [p1_n101]) (by decide)) rfl rfl (ab_ov_set rfl) rfl ?_
                    refine ab_fin.s2 (i := .aload_n 0) (k := 1) (pc' := 6) (lv' := [(0, .ref 101), (1, .int ((xs 1))), (2, .int ((xs 2))), (3, .int ((xs 3)))]) (st' := [.ref 101]) (by decide +kernel) rfl rfl ?_
                    refine ab_fin.s2 (i := .iload_n 1) (k := 1) (pc' := 7) (lv' := [(0, .ref 101), (1, .int ((xs 1))), (2, .int ((xs 2))), (3, .int ((xs 3)))]) (st' := [.int ((xs 1)), .ref 101]) (by decide +kernel) rfl rfl ?_
                    refine ab_fin.call (i := .invokevirtual 1018) (k := 3) (y := 6001) (As := [.ref 101, .int ((xs 1))]) (rest := []) (M' := (mX23_isKind, [])) (by decide +kernel) (ab_cv rfl rfl (ab_ov_get (lt0 101 (by decide)) rfl) ⟨(Nat.le_of_ble_eq_true rfl), (Nat.le_of_ble_eq_true rfl)⟩ rfl) rfl (Nat.le_of_ble_eq_true rfl) ?_
                    show ab_fin _ _ _ _ 0 [(0, .ref 101), (1, .int ((xs 1)))] [] _ _
                    refine ab_fin.s2 (i := .iload_n 1) (k := 1) (pc' := 1) (lv' := [(0, .ref 101), (1, .int ((xs 1)))]) (st' := [.int ((xs 1))]) (by decide +kernel) rfl rfl ?_
                    refine ab_fin.brF (c := (xs 1) < 0) (i := .ifCond .lt 15) (off := 15) (t := 16) (pc' := 4) (r := []) (by decide +kernel) rfl (by decide +kernel) rfl (by have l0 : (0 : Int32).toInt = 0 := rfl; have l1 : (1 : Int32).toInt = 1 := rfl; have l2 : (2 : Int32).toInt = 2 := rfl; have l3 : (3 : Int32).toInt = 3 := rfl; simp only [← Int32.toInt_inj, Int32.lt_iff_toInt_lt, Int32.le_iff_toInt_le, l0, l1, l2, l3] at q1 q2 q3 q4 q5 q6 q24 q27 q41 ⊢; omega) ?_
                    refine ab_fin.s2 (i := .iload_n 1) (k := 1) (pc' := 5) (lv' := [(0, .ref 101), (1, .int ((xs 1)))]) (st' := [.int ((xs 1))]) (by decide +kernel) rfl rfl ?_
                    refine ab_fin.s2 (i := .aload_n 0) (k := 1) (pc' := 6) (lv' := [(0, .ref 101), (1, .int ((xs 1)))]) (st' := [.ref 101, .int ((xs 1))]) (by decide +kernel) rfl rfl ?_
                    refine ab_fin.getf (ix := 13) (k := 4) (v := .int 3) (pc' := 9) (by decide +kernel) rfl (ab_ov_get (lt0 101 (by decide)) rfl) rfl rfl ?_
                    refine ab_fin.brF (c := (3 : Int32) ≤ (xs 1)) (i := .if_icmp .ge 7) (off := 7) (t := 16) (pc' := 12) (r := []) (by decide +kernel) rfl (by decide +kernel) rfl (by have l0 : (0 : Int32).toInt = 0 := rfl; have l1 : (1 : Int32).toInt = 1 := rfl; have l2 : (2 : Int32).toInt = 2 := rfl; have l3 : (3 : Int32).toInt = 3 := rfl; simp only [← Int32.toInt_inj, Int32.lt_iff_toInt_lt, Int32.le_iff_toInt_le, l0, l1, l2, l3] at q1 q2 q3 q4 q5 q6 q24 q27 q41 ⊢; omega) ?_
                    refine ab_fin.s1i (i := .iconst 1) (k := 1) (pc' := 13) (n := 1) (by decide +kernel) rfl (by decide +kernel) rfl ?_
                    refine ab_fin.s3 (i := .goto 4) (k := 3) (t := 17) (st' := [.int 1]) (by decide +kernel) (ab_goto (by decide +kernel)) ?_
                    refine ab_fin.ret (i := .ireturn) (k := 1) (some (.int 1)) (by decide +kernel) rfl ?_
                    refine ab_bk.back (pc' := 10) (st' := [.int 1]) rfl rfl ?_
                    refine ab_fin.brF (c := (1 : Int32) = 0) (i := .ifCond .eq 7) (off := 7) (t := 17) (pc' := 13) (r := []) (by decide +kernel) rfl (by decide +kernel) rfl (by decide +kernel) ?_
                    refine ab_fin.s2 (i := .iload_n 3) (k := 1) (pc' := 14) (lv' := [(0, .ref 101), (1, .int ((xs 1))), (2, .int ((xs 2))), (3, .int ((xs 3)))]) (st' := [.int ((xs 3))]) (by decide +kernel) rfl rfl ?_
                    refine ab_fin.brT (c := 0 ≤ (xs 3)) (i := .ifCond .ge 9) (off := 9) (t := 23) (r := []) (by decide +kernel) rfl (by decide +kernel) (by have l0 : (0 : Int32).toInt = 0 := rfl; have l1 : (1 : Int32).toInt = 1 := rfl; have l2 : (2 : Int32).toInt = 2 := rfl; have l3 : (3 : Int32).toInt = 3 := rfl; simp only [← Int32.toInt_inj, Int32.lt_iff_toInt_lt, Int32.le_iff_toInt_le, l0, l1, l2, l3] at q1 q2 q3 q4 q5 q6 q24 q27 q41 ⊢; omega) ?_
                    refine ab_fin.s2 (i := .iload_n 2) (k := 1) (pc' := 24) (lv' := [(0, .ref 101), (1, .int ((xs 1))), (2, .int ((xs 2))), (3, .int ((xs 3)))]) (st' := [.int ((xs 2))]) (by decide +kernel) rfl rfl ?_
                    refine ab_fin.brF (c := (xs 2) < 0) (i := .ifCond .lt 8) (off := 8) (t := 32) (pc' := 27) (r := []) (by decide +kernel) rfl (by decide +kernel) rfl (by have l0 : (0 : Int32).toInt = 0 := rfl; have l1 : (1 : Int32).toInt = 1 := rfl; have l2 : (2 : Int32).toInt = 2 := rfl; have l3 : (3 : Int32).toInt = 3 := rfl; simp only [← Int32.toInt_inj, Int32.lt_iff_toInt_lt, Int32.le_iff_toInt_le, l0, l1, l2, l3] at q1 q2 q3 q4 q5 q6 q24 q27 q41 ⊢; omega) ?_
                    refine ab_fin.s2 (i := .iload_n 2) (k := 1) (pc' := 28) (lv' := [(0, .ref 101), (1, .int ((xs 1))), (2, .int ((xs 2))), (3, .int ((xs 3)))]) (st' := [.int ((xs 2))]) (by decide +kernel) rfl rfl ?_
                    refine ab_fin.s1i (i := .iconst 2) (k := 1) (pc' := 29) (n := 2) (by decide +kernel) rfl (by decide +kernel) rfl ?_
                    refine ab_fin.brT (c := (xs 2) ≤ (2 : Int32)) (i := .if_icmp .le 9) (off := 9) (t := 38) (r := []) (by decide +kernel) rfl (by decide +kernel) (by have l0 : (0 : Int32).toInt = 0 := rfl; have l1 : (1 : Int32).toInt = 1 := rfl; have l2 : (2 : Int32).toInt = 2 := rfl; have l3 : (3 : Int32).toInt = 3 := rfl; simp only [← Int32.toInt_inj, Int32.lt_iff_toInt_lt, Int32.le_iff_toInt_le, l0, l1, l2, l3] at q1 q2 q3 q4 q5 q6 q24 q27 q41 ⊢; omega) ?_
                    refine ab_fin.s2 (i := .iload_n 3) (k := 1) (pc' := 39) (lv' := [(0, .ref 101), (1, .int ((xs 1))), (2, .int ((xs 2))), (3, .int ((xs 3)))]) (st' := [.int ((xs 3))]) (by decide +kernel) rfl rfl ?_
                    refine ab_fin.s2 (i := .aload_n 0) (k := 1) (pc' := 40) (lv' := [(0, .ref 101), (1, .int ((xs 1))), (2, .int ((xs 2))), (3, .int ((xs 3)))]) (st' := [.ref 101, .int ((xs 3))]) (by decide +kernel) rfl rfl ?_
                    refine ab_fin.getf (ix := 17) (k := 0) (v := .ref 102) (pc' := 43) (by decide +kernel) rfl (ab_ov_get (lt0 101 (by decide)) rfl) rfl rfl ?_
                    refine ab_fin.s2 (i := .iload_n 1) (k := 1) (pc' := 44) (lv' := [(0, .ref 101), (1, .int ((xs 1))), (2, .int ((xs 2))), (3, .int ((xs 3)))]) (st' := [.int ((xs 1)), .ref 102, .int ((xs 3))]) (by decide +kernel) rfl rfl ?_
                    have q43 : (xs 1) = 1 := (by have l0 : (0 : Int32).toInt = 0 := rfl; have l1 : (1 : Int32).toInt = 1 := rfl; have l2 : (2 : Int32).toInt = 2 := rfl; have l3 : (3 : Int32).toInt = 3 := rfl; simp only [← Int32.toInt_inj, Int32.lt_iff_toInt_lt, Int32.le_iff_toInt_le, l0, l1, l2, l3] at q1 q2 q3 q4 q5 q6 q24 q27 q41 ⊢; omega)
                    rw [q43]
                    refine ab_fin.aald (v := .ref 2303) (pc' := 45) (by decide +kernel) (ab_ov_no f_102 rfl) (by decide) rfl (ab_bd (n := 24) (by rw [p1_n102]) (by decide +kernel)) rfl rfl ?_
                    refine ab_fin.getf (ix := 79) (k := 5) (v := .ref 2311) (pc' := 48) (by decide +kernel) rfl (ab_ov_no f_2303 rfl) rfl rfl ?_
                    refine ab_fin.s2 (i := .iload_n 2) (k := 1) (pc' := 49) (lv' := [(0, .ref 101), (1, .int 1), (2, .int ((xs 2))), (3, .int ((xs 3)))]) (st' := [.int ((xs 2)), .ref 2311, .int ((xs 3))]) (by decide +kernel) rfl rfl ?_
                    have q44 : (xs 2) = 0 := (by have l0 : (0 : Int32).toInt = 0 := rfl; have l1 : (1 : Int32).toInt = 1 := rfl; have l2 : (2 : Int32).toInt = 2 := rfl; have l3 : (3 : Int32).toInt = 3 := rfl; simp only [← Int32.toInt_inj, Int32.lt_iff_toInt_lt, Int32.le_iff_toInt_le, l0, l1, l2, l3] at q1 q2 q3 q4 q5 q6 q24 q27 q41 q43 ⊢; omega)
                    rw [q44]
                    refine ab_fin.iald (v := 2) (pc' := 50) (by decide +kernel) (ab_ov_no f_2311 rfl) (ab_bd (n := 3) (by rw [List.length_replicate]) (by decide +kernel)) rfl rfl ?_
                    refine ab_fin.brF (c := (2 : Int32) ≤ (xs 3)) (i := .if_icmp .ge 19) (off := 19) (t := 69) (pc' := 53) (r := []) (by decide +kernel) rfl (by decide +kernel) rfl (by have l0 : (0 : Int32).toInt = 0 := rfl; have l1 : (1 : Int32).toInt = 1 := rfl; have l2 : (2 : Int32).toInt = 2 := rfl; have l3 : (3 : Int32).toInt = 3 := rfl; simp only [← Int32.toInt_inj, Int32.lt_iff_toInt_lt, Int32.le_iff_toInt_le, l0, l1, l2, l3] at q1 q2 q3 q4 q5 q6 q24 q27 q41 q43 q44 ⊢; omega) ?_
                    refine ab_fin.s2 (i := .aload_n 0) (k := 1) (pc' := 54) (lv' := [(0, .ref 101), (1, .int 1), (2, .int 0), (3, .int ((xs 3)))]) (st' := [.ref 101]) (by decide +kernel) rfl rfl ?_
                    refine ab_fin.getf (ix := 17) (k := 0) (v := .ref 102) (pc' := 57) (by decide +kernel) rfl (ab_ov_get (lt0 101 (by decide)) rfl) rfl rfl ?_
                    refine ab_fin.s2 (i := .iload_n 1) (k := 1) (pc' := 58) (lv' := [(0, .ref 101), (1, .int 1), (2, .int 0), (3, .int ((xs 3)))]) (st' := [.int 1, .ref 102]) (by decide +kernel) rfl rfl ?_
                    refine ab_fin.aald (v := .ref 2303) (pc' := 59) (by decide +kernel) (ab_ov_no f_102 rfl) (by decide) rfl (ab_bd (n := 24) (by rw [p1_n102]) (by decide +kernel)) rfl rfl ?_
                    refine ab_fin.getf (ix := 86) (k := 4) (v := .ref 2307) (pc' := 62) (by decide +kernel) rfl (ab_ov_no f_2303 rfl) rfl rfl ?_
                    refine ab_fin.s2 (i := .iload_n 2) (k := 1) (pc' := 63) (lv' := [(0, .ref 101), (1, .int 1), (2, .int 0), (3, .int ((xs 3)))]) (st' := [.int 0, .ref 2307]) (by decide +kernel) rfl rfl ?_
                    refine ab_fin.aald (v := .ref 2308) (pc' := 64) (by decide +kernel) (ab_ov_no f_2307 rfl) (by decide) rfl (ab_bd (n := 3) (by rw [p1_n2307]) (by decide +kernel)) rfl rfl ?_
                    refine ab_fin.s2 (i := .iload_n 3) (k := 1) (pc' := 65) (lv' := [(0, .ref 101), (1, .int 1), (2, .int 0), (3, .int ((xs 3)))]) (st' := [.int ((xs 3)), .ref 2308]) (by decide +kernel) rfl rfl ?_
                    have q45 : (xs 3) = 1 := (by have l0 : (0 : Int32).toInt = 0 := rfl; have l1 : (1 : Int32).toInt = 1 := rfl; have l2 : (2 : Int32).toInt = 2 := rfl; have l3 : (3 : Int32).toInt = 3 := rfl; simp only [← Int32.toInt_inj, Int32.lt_iff_toInt_lt, Int32.le_iff_toInt_le, l0, l1, l2, l3] at q1 q2 q3 q4 q5 q6 q24 q27 q41 q43 q44 ⊢; omega)
                    rw [q45]
                    refine ab_fin.iald (v := 0) (pc' := 66) (by decide +kernel) (ab_ov_no f_2308 rfl) (ab_bd (n := 24) (by rw [p1_n2308]) (by decide +kernel)) rfl rfl ?_
                    refine ab_fin.s3 (i := .goto 4) (k := 3) (t := 70) (st' := [.int 0]) (by decide +kernel) (ab_goto (by decide +kernel)) ?_
                    refine ab_fin.ret (i := .ireturn) (k := 1) (some (.int 0)) (by decide +kernel) rfl ?_
                    refine ab_bk.back (pc' := 630) (st' := [.int 0]) rfl rfl ?_
                    refine ab_fin.s2 (i := .istore 6) (k := 2) (pc' := 632) (lv' := [(6, .int 0), (5, .int 0), (4, .int 0), (3, .ref 3466), (2, .ref 101), (1, .ref 0), (0, .retAddr 9)]) (st' := []) (by decide +kernel) rfl rfl ?_
                    refine ab_fin.s2 (i := .aload_n 2) (k := 1) (pc' := 633) (lv' := [(6, .int 0), (5, .int 0), (4, .int 0), (3, .ref 3466), (2, .ref 101), (1, .ref 0), (0, .retAddr 9)]) (st' := [.ref 101]) (by decide +kernel) rfl rfl ?_
                    refine ab_fin.call (i := .invokevirtual 75) (k := 3) (y := 5992) (As := [.ref 101]) (rest := []) (M' := (mX23_thrown, [])) (by decide +kernel) (ab_cv rfl rfl (ab_ov_get (lt0 101 (by decide)) rfl) ⟨(Nat.le_of_ble_eq_true rfl), (Nat.le_of_ble_eq_true rfl)⟩ rfl) rfl (Nat.le_of_ble_eq_true rfl) ?_
                    show ab_fin _ _ _ _ 0 [(0, .ref 101)] [] _ _
                    refine ab_fin.s2 (i := .aload_n 0) (k := 1) (pc' := 1) (lv' := [(0, .ref 101)]) (st' := [.ref 101]) (by decide +kernel) rfl rfl ?_
                    refine ab_fin.getf (ix := 1000) (k := 110) (v := .int 0) (pc' := 4) (by decide +kernel) rfl (ab_ov_get (lt0 101 (by decide)) rfl) rfl rfl ?_
                    refine ab_fin.ret (i := .ireturn) (k := 1) (some (.int 0)) (by decide +kernel) rfl ?_
                    refine ab_bk.back (pc' := 636) (st' := [.int 0]) rfl rfl ?_
                    refine ab_fin.s2 (i := .iload 5) (k := 2) (pc' := 638) (lv' := [(6, .int 0), (5, .int 0), (4, .int 0), (3, .ref 3466), (2, .ref 101), (1, .ref 0), (0, .retAddr 9)]) (st' := [.int 0, .int 0]) (by decide +kernel) rfl rfl ?_
                    refine ab_fin.brT (c := (0 : Int32) = (0 : Int32)) (i := .if_icmp .eq 5) (off := 5) (t := 643) (r := []) (by decide +kernel) rfl (by decide +kernel) (by decide +kernel) ?_
                    refine ab_fin.s2 (i := .iload 5) (k := 2) (pc' := 645) (lv' := [(6, .int 0), (5, .int 0), (4, .int 0), (3, .ref 3466), (2, .ref 101), (1, .ref 0), (0, .retAddr 9)]) (st' := [.int 0]) (by decide +kernel) rfl rfl ?_
                    refine ab_fin.brF (c := ¬ (0 : Int32) = 0) (i := .ifCond .ne 15) (off := 15) (t := 660) (pc' := 648) (r := []) (by decide +kernel) rfl (by decide +kernel) rfl (by decide +kernel) ?_
                    refine ab_fin.s2 (i := .aload_n 3) (k := 1) (pc' := 649) (lv' := [(6, .int 0), (5, .int 0), (4, .int 0), (3, .ref 3466), (2, .ref 101), (1, .ref 0), (0, .retAddr 9)]) (st' := [.ref 3466]) (by decide +kernel) rfl rfl ?_
                    refine ab_fin.s1i (i := .iconst 0) (k := 1) (pc' := 650) (n := 0) (by decide +kernel) rfl (by decide +kernel) rfl ?_
                    refine ab_fin.lald (v := 0) (pc' := 651) (by decide +kernel) (ab_ov_get (lt0 3466 (by decide)) rfl) (ab_bd (n := 1) (by rw [List.length_set, List.length_replicate]) (by decide +kernel)) rfl rfl ?_
                    refine ab_fin.s2 (i := .iload 6) (k := 2) (pc' := 653) (lv' := [(6, .int 0), (5, .int 0), (4, .int 0), (3, .ref 3466), (2, .ref 101), (1, .ref 0), (0, .retAddr 9)]) (st' := [.int 0, .long 0]) (by decide +kernel) rfl rfl ?_
                    refine ab_fin.s1l (i := .i2l) (k := 1) (pc' := 654) (n := 0) (by decide +kernel) rfl (by decide +kernel) rfl ?_
                    refine ab_fin.s1i (i := .lcmp) (k := 1) (pc' := 655) (n := 0) (by decide +kernel) rfl (by decide +kernel) rfl ?_
                    refine ab_fin.brT (c := (0 : Int32) = 0) (i := .ifCond .eq 5) (off := 5) (t := 660) (r := []) (by decide +kernel) rfl (by decide +kernel) (by decide +kernel) ?_
                    refine ab_fin.s3 (i := .goto 430) (k := 3) (t := 1090) (st' := []) (by decide +kernel) (ab_goto (by decide +kernel)) ?_
                    refine ab_fin.inc (i := .iinc 4 6) (k := 3) (pc' := 1093) (j := 4) (n := 6) (lv' := [(6, .int 0), (5, .int 0), (3, .ref 3466), (2, .ref 101), (1, .ref 0), (0, .retAddr 9)]) (by decide +kernel) rfl (by decide +kernel) rfl ?_
                    refine ab_fin.s3 (i := .goto (-1070)) (k := 3) (t := 23) (st' := []) (by decide +kernel) (ab_goto (by decide +kernel)) ?_
                    refine ab_fin.s2 (i := .iload 4) (k := 2) (pc' := 25) (lv' := [(4, .int 6), (6, .int 0), (5, .int 0), (3, .ref 3466), (2, .ref 101), (1, .ref 0), (0, .retAddr 9)]) (st' := [.int 6]) (by decide +kernel) rfl rfl ?_
                    refine ab_fin.s2 (i := .aload_n 0) (k := 1) (pc' := 26) (lv' := [(4, .int 6), (6, .int 0), (5, .int 0), (3, .ref 3466), (2, .ref 101), (1, .ref 0), (0, .retAddr 9)]) (st' := [.retAddr 9, .int 6]) (by decide +kernel) rfl rfl ?_
                    refine ab_fin.s8 (i := .arraylength) (k := 1) (pc' := 27) (st' := [.int 6, .int 6]) (by decide +kernel) rfl rfl rfl rfl ?_
                    refine ab_fin.s1i (i := .bipush 6) (k := 2) (pc' := 29) (n := 6) (by decide +kernel) rfl (by decide +kernel) rfl ?_
                    refine ab_fin.s1i (i := .isub) (k := 1) (pc' := 30) (n := 0) (by decide +kernel) rfl (by decide +kernel) rfl ?_
                    refine ab_fin.brT (c := (0 : Int32) < (6 : Int32)) (i := .if_icmp .gt 1066) (off := 1066) (t := 1096) (r := []) (by decide +kernel) rfl (by decide +kernel) (by decide +kernel) ?_
                    refine ab_fin.s1i (i := .iconst 1) (k := 1) (pc' := 1097) (n := 1) (by decide +kernel) rfl (by decide +kernel) rfl ?_
                    refine ab_fin.ret (i := .ireturn) (k := 1) (some (.int 1)) (by decide +kernel) rfl ?_
                    refine ⟨rfl, ?_, ?_⟩
                    · rw [ab_ov_len, hl]; decide
                    · refine Nat.le_trans (ab_ov_z _ _) ?_
                      simp only [List.map, List.sum_cons, List.sum_nil, ab_z1, ab_len, List.length_set, List.length_replicate, List.length_cons, List.length_nil, p1_n101]
                      omega
                  · rw [q41]
                    try rw [show ((((1 * (24 : Int32)) + (1 : Int32)) * (24 : Int32)) + 1) = (601 : Int32) by decide +kernel]
                    refine ab_fin.iald (v := 0) (pc' := 16) (by decide +kernel) (ab_ov_no f_7 rfl) (ab_bd (n := 1728) (by rw [p1_n7]) (by decide +kernel)) rfl rfl ?_
                    refine ab_fin.ret (i := .ireturn) (k := 1) (some (.int 0)) (by decide +kernel) rfl ?_
                    refine ab_bk.back (pc' := 69) (st' := [.int 0]) rfl rfl ?_
                    refine ab_fin.s3 (i := .goto 4) (k := 3) (t := 73) (st' := [.int 0]) (by decide +kernel) (ab_goto (by decide +kernel)) ?_
                    refine ab_fin.ret (i := .ireturn) (k := 1) (some (.int 0)) (by decide +kernel) rfl ?_
                    refine ab_bk.back (pc' := 10) (st' := [.int 0, .int 0, .ref 3466]) rfl rfl ?_
                    refine ab_fin.s1l (i := .i2l) (k := 1) (pc' := 11) (n := 0) (by decide +kernel) rfl (by decide +kernel) rfl ?_
                    refine ab_fin.last (h1 := ab_ov h [(3466, .inr (.inl (1, .inr (.inl ((List.replicate 1 0).set 0 (0))))))]) (pc' := 12) (by decide +kernel) (ab_ov_no f_3466 rfl) (ab_bd (n := 1) (by rw [List.length_replicate]) (by decide +kernel)) (ab_ov_set rfl) rfl ?_
                    refine ab_fin.s3 (i := .goto 11) (k := 3) (t := 23) (st' := []) (by decide +kernel) (ab_goto (by decide +kernel)) ?_
                    refine ab_fin.s1i (i := .iconst 0) (k := 1) (pc' := 24) (n := 0) (by decide +kernel) rfl (by decide +kernel) rfl ?_
                    refine ab_fin.ret (i := .ireturn) (k := 1) (some (.int 0)) (by decide +kernel) rfl ?_
                    refine ab_bk.back (pc' := 606) (st' := [.int 0]) rfl rfl ?_
                    refine ab_fin.s2 (i := .istore 5) (k := 2) (pc' := 608) (lv' := [(5, .int 0), (4, .int 0), (3, .ref 3466), (2, .ref 101), (1, .ref 0), (0, .retAddr 9)]) (st' := []) (by decide +kernel) rfl rfl ?_
                    refine ab_fin.s2 (i := .aload_n 2) (k := 1) (pc' := 609) (lv' := [(5, .int 0), (4, .int 0), (3, .ref 3466), (2, .ref 101), (1, .ref 0), (0, .retAddr 9)]) (st' := [.ref 101]) (by decide +kernel) rfl rfl ?_
                    refine ab_fin.s2 (i := .aload_n 0) (k := 1) (pc' := 610) (lv' := [(5, .int 0), (4, .int 0), (3, .ref 3466), (2, .ref 101), (1, .ref 0), (0, .retAddr 9)]) (st' := [.retAddr 9, .ref 101]) (by decide +kernel) rfl rfl ?_
                    refine ab_fin.s2 (i := .iload 4) (k := 2) (pc' := 612) (lv' := [(5, .int 0), (4, .int 0), (3, .ref 3466), (2, .ref 101), (1, .ref 0), (0, .retAddr 9)]) (st' := [.int 0, .retAddr 9, .ref 101]) (by decide +kernel) rfl rfl ?_
                    refine ab_fin.s1i (i := .iconst 1) (k := 1) (pc' := 613) (n := 1) (by decide +kernel) rfl (by decide +kernel) rfl ?_
                    refine ab_fin.s1i (i := .iadd) (k := 1) (pc' := 614) (n := 1) (by decide +kernel) rfl (by decide +kernel) rfl ?_
                    refine ab_fin.s8 (i := .iaload) (k := 1) (pc' := 615) (st' := [.int ((xs 1)), .ref 101]) (by decide +kernel) (ab_x0 rfl (by decide +kernel) rfl) rfl rfl rfl ?_
                    refine ab_fin.s2 (i := .aload_n 0) (k := 1) (pc' := 616) (lv' := [(5, .int 0), (4, .int 0), (3, .ref 3466), (2, .ref 101), (1, .ref 0), (0, .retAddr 9)]) (st' := [.retAddr 9, .int ((xs 1)), .ref 101]) (by decide +kernel) rfl rfl ?_
                    refine ab_fin.s2 (i := .iload 4) (k := 2) (pc' := 618) (lv' := [(5, .int 0), (4, .int 0), (3, .ref 3466), (2, .ref 101), (1, .ref 0), (0, .retAddr 9)]) (st' := [.int 0, .retAddr 9, .int ((xs 1)), .ref 101]) (by decide +kernel) rfl rfl ?_
                    refine ab_fin.s1i (i := .iconst 2) (k := 1) (pc' := 619) (n := 2) (by decide +kernel) rfl (by decide +kernel) rfl ?_
                    refine ab_fin.s1i (i := .iadd) (k := 1) (pc' := 620) (n := 2) (by decide +kernel) rfl (by decide +kernel) rfl ?_
                    refine ab_fin.s8 (i := .iaload) (k := 1) (pc' := 621) (st' := [.int ((xs 2)), .int ((xs 1)), .ref 101]) (by decide +kernel) (ab_x0 rfl (by decide +kernel) rfl) rfl rfl rfl ?_
                    refine ab_fin.s2 (i := .aload_n 0) (k := 1) (pc' := 622) (lv' := [(5, .int 0), (4, .int 0), (3, .ref 3466), (2, .ref 101), (1, .ref 0), (0, .retAddr 9)]) (st' := [.retAddr 9, .int ((xs 2)), .int ((xs 1)), .ref 101]) (by decide +kernel) rfl rfl ?_
                    refine ab_fin.s2 (i := .iload 4) (k := 2) (pc' := 624) (lv' := [(5, .int 0), (4, .int 0), (3, .ref 3466), (2, .ref 101), (1, .ref 0), (0, .retAddr 9)]) (st' := [.int 0, .retAddr 9, .int ((xs 2)), .int ((xs 1)), .ref 101]) (by decide +kernel) rfl rfl ?_
                    refine ab_fin.s1i (i := .iconst 3) (k := 1) (pc' := 625) (n := 3) (by decide +kernel) rfl (by decide +kernel) rfl ?_
                    refine ab_fin.s1i (i := .iadd) (k := 1) (pc' := 626) (n := 3) (by decide +kernel) rfl (by decide +kernel) rfl ?_
                    refine ab_fin.s8 (i := .iaload) (k := 1) (pc' := 627) (st' := [.int ((xs 3)), .int ((xs 2)), .int ((xs 1)), .ref 101]) (by decide +kernel) (ab_x0 rfl (by decide +kernel) rfl) rfl rfl rfl ?_
                    refine ab_fin.call (i := .invokevirtual 110) (k := 3) (y := 6003) (As := [.ref 101, .int ((xs 1)), .int ((xs 2)), .int ((xs 3))]) (rest := []) (M' := (mX23_row, [])) (by decide +kernel) (ab_cv rfl rfl (ab_ov_no f_101 rfl) ⟨(Nat.le_of_ble_eq_true rfl), (Nat.le_of_ble_eq_true rfl)⟩ rfl) rfl (Nat.le_of_ble_eq_true rfl) ?_
                    show ab_fin _ _ _ _ 0 [(0, .ref 101), (1, .int ((xs 1))), (2, .int ((xs 2))), (3, .int ((xs 3)))] [] _ _
                    refine ab_fin.s2 (i := .aload_n 0) (k := 1) (pc' := 1) (lv' := [(0, .ref 101), (1, .int ((xs 1))), (2, .int ((xs 2))), (3, .int ((xs 3)))]) (st' := [.ref 101]) (by decide +kernel) rfl rfl ?_
                    refine ab_fin.s1i (i := .iconst 0) (k := 1) (pc' := 2) (n := 0) (by decide +kernel) rfl (by decide +kernel) rfl ?_
                    refine ab_fin.putf (ix := 1000) (h1 := ab_ov h [(101, .inr (.inr (24, (p1_o101).set 110 (.int 0)))), (3466, .inr (.inl (1, .inr (.inl ((List.replicate 1 0).set 0 (0))))))]) (pc' := 5) (by decide +kernel) rfl (ab_ov_no f_101 rfl) (ab_klt (n := 115) (by rw [p1_n101]) (by decide)) rfl rfl (ab_ov_set rfl) rfl ?_
                    refine ab_fin.s2 (i := .aload_n 0) (k := 1) (pc' := 6) (lv' := [(0, .ref 101), (1, .int ((xs 1))), (2, .int ((xs 2))), (3, .int ((xs 3)))]) (st' := [.ref 101]) (by decide +kernel) rfl rfl ?_
                    refine ab_fin.s2 (i := .iload_n 1) (k := 1) (pc' := 7) (lv' := [(0, .ref 101), (1, .int ((xs 1))), (2, .int ((xs 2))), (3, .int ((xs 3)))]) (st' := [.int ((xs 1)), .ref 101]) (by decide +kernel) rfl rfl ?_
                    refine ab_fin.call (i := .invokevirtual 1018) (k := 3) (y := 6001) (As := [.ref 101, .int ((xs 1))]) (rest := []) (M' := (mX23_isKind, [])) (by decide +kernel) (ab_cv rfl rfl (ab_ov_get (lt0 101 (by decide)) rfl) ⟨(Nat.le_of_ble_eq_true rfl), (Nat.le_of_ble_eq_true rfl)⟩ rfl) rfl (Nat.le_of_ble_eq_true rfl) ?_
                    show ab_fin _ _ _ _ 0 [(0, .ref 101), (1, .int ((xs 1)))] [] _ _
                    refine ab_fin.s2 (i := .iload_n 1) (k := 1) (pc' := 1) (lv' := [(0, .ref 101), (1, .int ((xs 1)))]) (st' := [.int ((xs 1))]) (by decide +kernel) rfl rfl ?_
                    refine ab_fin.brF (c := (xs 1) < 0) (i := .ifCond .lt 15) (off := 15) (t := 16) (pc' := 4) (r := []) (by decide +kernel) rfl (by decide +kernel) rfl (by have l0 : (0 : Int32).toInt = 0 := rfl; have l1 : (1 : Int32).toInt = 1 := rfl; have l2 : (2 : Int32).toInt = 2 := rfl; have l3 : (3 : Int32).toInt = 3 := rfl; simp only [← Int32.toInt_inj, Int32.lt_iff_toInt_lt, Int32.le_iff_toInt_le, l0, l1, l2, l3] at q1 q2 q3 q4 q5 q6 q24 q27 q41 ⊢; omega) ?_
                    refine ab_fin.s2 (i := .iload_n 1) (k := 1) (pc' := 5) (lv' := [(0, .ref 101), (1, .int ((xs 1)))]) (st' := [.int ((xs 1))]) (by decide +kernel) rfl rfl ?_
                    refine ab_fin.s2 (i := .aload_n 0) (k := 1) (pc' := 6) (lv' := [(0, .ref 101), (1, .int ((xs 1)))]) (st' := [.ref 101, .int ((xs 1))]) (by decide +kernel) rfl rfl ?_
                    refine ab_fin.getf (ix := 13) (k := 4) (v := .int 3) (pc' := 9) (by decide +kernel) rfl (ab_ov_get (lt0 101 (by decide)) rfl) rfl rfl ?_
                    refine ab_fin.brF (c := (3 : Int32) ≤ (xs 1)) (i := .if_icmp .ge 7) (off := 7) (t := 16) (pc' := 12) (r := []) (by decide +kernel) rfl (by decide +kernel) rfl (by have l0 : (0 : Int32).toInt = 0 := rfl; have l1 : (1 : Int32).toInt = 1 := rfl; have l2 : (2 : Int32).toInt = 2 := rfl; have l3 : (3 : Int32).toInt = 3 := rfl; simp only [← Int32.toInt_inj, Int32.lt_iff_toInt_lt, Int32.le_iff_toInt_le, l0, l1, l2, l3] at q1 q2 q3 q4 q5 q6 q24 q27 q41 ⊢; omega) ?_
                    refine ab_fin.s1i (i := .iconst 1) (k := 1) (pc' := 13) (n := 1) (by decide +kernel) rfl (by decide +kernel) rfl ?_
                    refine ab_fin.s3 (i := .goto 4) (k := 3) (t := 17) (st' := [.int 1]) (by decide +kernel) (ab_goto (by decide +kernel)) ?_
                    refine ab_fin.ret (i := .ireturn) (k := 1) (some (.int 1)) (by decide +kernel) rfl ?_
                    refine ab_bk.back (pc' := 10) (st' := [.int 1]) rfl rfl ?_
                    refine ab_fin.brF (c := (1 : Int32) = 0) (i := .ifCond .eq 7) (off := 7) (t := 17) (pc' := 13) (r := []) (by decide +kernel) rfl (by decide +kernel) rfl (by decide +kernel) ?_
                    refine ab_fin.s2 (i := .iload_n 3) (k := 1) (pc' := 14) (lv' := [(0, .ref 101), (1, .int ((xs 1))), (2, .int ((xs 2))), (3, .int ((xs 3)))]) (st' := [.int ((xs 3))]) (by decide +kernel) rfl rfl ?_
                    refine ab_fin.brT (c := 0 ≤ (xs 3)) (i := .ifCond .ge 9) (off := 9) (t := 23) (r := []) (by decide +kernel) rfl (by decide +kernel) (by have l0 : (0 : Int32).toInt = 0 := rfl; have l1 : (1 : Int32).toInt = 1 := rfl; have l2 : (2 : Int32).toInt = 2 := rfl; have l3 : (3 : Int32).toInt = 3 := rfl; simp only [← Int32.toInt_inj, Int32.lt_iff_toInt_lt, Int32.le_iff_toInt_le, l0, l1, l2, l3] at q1 q2 q3 q4 q5 q6 q24 q27 q41 ⊢; omega) ?_
                    refine ab_fin.s2 (i := .iload_n 2) (k := 1) (pc' := 24) (lv' := [(0, .ref 101), (1, .int ((xs 1))), (2, .int ((xs 2))), (3, .int ((xs 3)))]) (st' := [.int ((xs 2))]) (by decide +kernel) rfl rfl ?_
                    refine ab_fin.brF (c := (xs 2) < 0) (i := .ifCond .lt 8) (off := 8) (t := 32) (pc' := 27) (r := []) (by decide +kernel) rfl (by decide +kernel) rfl (by have l0 : (0 : Int32).toInt = 0 := rfl; have l1 : (1 : Int32).toInt = 1 := rfl; have l2 : (2 : Int32).toInt = 2 := rfl; have l3 : (3 : Int32).toInt = 3 := rfl; simp only [← Int32.toInt_inj, Int32.lt_iff_toInt_lt, Int32.le_iff_toInt_le, l0, l1, l2, l3] at q1 q2 q3 q4 q5 q6 q24 q27 q41 ⊢; omega) ?_
                    refine ab_fin.s2 (i := .iload_n 2) (k := 1) (pc' := 28) (lv' := [(0, .ref 101), (1, .int ((xs 1))), (2, .int ((xs 2))), (3, .int ((xs 3)))]) (st' := [.int ((xs 2))]) (by decide +kernel) rfl rfl ?_
                    refine ab_fin.s1i (i := .iconst 2) (k := 1) (pc' := 29) (n := 2) (by decide +kernel) rfl (by decide +kernel) rfl ?_
                    refine ab_fin.brT (c := (xs 2) ≤ (2 : Int32)) (i := .if_icmp .le 9) (off := 9) (t := 38) (r := []) (by decide +kernel) rfl (by decide +kernel) (by have l0 : (0 : Int32).toInt = 0 := rfl; have l1 : (1 : Int32).toInt = 1 := rfl; have l2 : (2 : Int32).toInt = 2 := rfl; have l3 : (3 : Int32).toInt = 3 := rfl; simp only [← Int32.toInt_inj, Int32.lt_iff_toInt_lt, Int32.le_iff_toInt_le, l0, l1, l2, l3] at q1 q2 q3 q4 q5 q6 q24 q27 q41 ⊢; omega) ?_
                    refine ab_fin.s2 (i := .iload_n 3) (k := 1) (pc' := 39) (lv' := [(0, .ref 101), (1, .int ((xs 1))), (2, .int ((xs 2))), (3, .int ((xs 3)))]) (st' := [.int ((xs 3))]) (by decide +kernel) rfl rfl ?_
                    refine ab_fin.s2 (i := .aload_n 0) (k := 1) (pc' := 40) (lv' := [(0, .ref 101), (1, .int ((xs 1))), (2, .int ((xs 2))), (3, .int ((xs 3)))]) (st' := [.ref 101, .int ((xs 3))]) (by decide +kernel) rfl rfl ?_
                    refine ab_fin.getf (ix := 17) (k := 0) (v := .ref 102) (pc' := 43) (by decide +kernel) rfl (ab_ov_get (lt0 101 (by decide)) rfl) rfl rfl ?_
                    refine ab_fin.s2 (i := .iload_n 1) (k := 1) (pc' := 44) (lv' := [(0, .ref 101), (1, .int ((xs 1))), (2, .int ((xs 2))), (3, .int ((xs 3)))]) (st' := [.int ((xs 1)), .ref 102, .int ((xs 3))]) (by decide +kernel) rfl rfl ?_
                    have q47 : (xs 1) = 1 := (by have l0 : (0 : Int32).toInt = 0 := rfl; have l1 : (1 : Int32).toInt = 1 := rfl; have l2 : (2 : Int32).toInt = 2 := rfl; have l3 : (3 : Int32).toInt = 3 := rfl; simp only [← Int32.toInt_inj, Int32.lt_iff_toInt_lt, Int32.le_iff_toInt_le, l0, l1, l2, l3] at q1 q2 q3 q4 q5 q6 q24 q27 q41 ⊢; omega)
                    rw [q47]
                    refine ab_fin.aald (v := .ref 2303) (pc' := 45) (by decide +kernel) (ab_ov_no f_102 rfl) (by decide) rfl (ab_bd (n := 24) (by rw [p1_n102]) (by decide +kernel)) rfl rfl ?_
                    refine ab_fin.getf (ix := 79) (k := 5) (v := .ref 2311) (pc' := 48) (by decide +kernel) rfl (ab_ov_no f_2303 rfl) rfl rfl ?_
                    refine ab_fin.s2 (i := .iload_n 2) (k := 1) (pc' := 49) (lv' := [(0, .ref 101), (1, .int 1), (2, .int ((xs 2))), (3, .int ((xs 3)))]) (st' := [.int ((xs 2)), .ref 2311, .int ((xs 3))]) (by decide +kernel) rfl rfl ?_
                    have q48 : (xs 2) = 1 := (by have l0 : (0 : Int32).toInt = 0 := rfl; have l1 : (1 : Int32).toInt = 1 := rfl; have l2 : (2 : Int32).toInt = 2 := rfl; have l3 : (3 : Int32).toInt = 3 := rfl; simp only [← Int32.toInt_inj, Int32.lt_iff_toInt_lt, Int32.le_iff_toInt_le, l0, l1, l2, l3] at q1 q2 q3 q4 q5 q6 q24 q27 q41 q47 ⊢; omega)
                    rw [q48]
                    refine ab_fin.iald (v := 2) (pc' := 50) (by decide +kernel) (ab_ov_no f_2311 rfl) (ab_bd (n := 3) (by rw [List.length_replicate]) (by decide +kernel)) rfl rfl ?_
                    refine ab_fin.brF (c := (2 : Int32) ≤ (xs 3)) (i := .if_icmp .ge 19) (off := 19) (t := 69) (pc' := 53) (r := []) (by decide +kernel) rfl (by decide +kernel) rfl (by have l0 : (0 : Int32).toInt = 0 := rfl; have l1 : (1 : Int32).toInt = 1 := rfl; have l2 : (2 : Int32).toInt = 2 := rfl; have l3 : (3 : Int32).toInt = 3 := rfl; simp only [← Int32.toInt_inj, Int32.lt_iff_toInt_lt, Int32.le_iff_toInt_le, l0, l1, l2, l3] at q1 q2 q3 q4 q5 q6 q24 q27 q41 q47 q48 ⊢; omega) ?_
                    refine ab_fin.s2 (i := .aload_n 0) (k := 1) (pc' := 54) (lv' := [(0, .ref 101), (1, .int 1), (2, .int 1), (3, .int ((xs 3)))]) (st' := [.ref 101]) (by decide +kernel) rfl rfl ?_
                    refine ab_fin.getf (ix := 17) (k := 0) (v := .ref 102) (pc' := 57) (by decide +kernel) rfl (ab_ov_get (lt0 101 (by decide)) rfl) rfl rfl ?_
                    refine ab_fin.s2 (i := .iload_n 1) (k := 1) (pc' := 58) (lv' := [(0, .ref 101), (1, .int 1), (2, .int 1), (3, .int ((xs 3)))]) (st' := [.int 1, .ref 102]) (by decide +kernel) rfl rfl ?_
                    refine ab_fin.aald (v := .ref 2303) (pc' := 59) (by decide +kernel) (ab_ov_no f_102 rfl) (by decide) rfl (ab_bd (n := 24) (by rw [p1_n102]) (by decide +kernel)) rfl rfl ?_
                    refine ab_fin.getf (ix := 86) (k := 4) (v := .ref 2307) (pc' := 62) (by decide +kernel) rfl (ab_ov_no f_2303 rfl) rfl rfl ?_
                    refine ab_fin.s2 (i := .iload_n 2) (k := 1) (pc' := 63) (lv' := [(0, .ref 101), (1, .int 1), (2, .int 1), (3, .int ((xs 3)))]) (st' := [.int 1, .ref 2307]) (by decide +kernel) rfl rfl ?_
                    refine ab_fin.aald (v := .ref 2309) (pc' := 64) (by decide +kernel) (ab_ov_no f_2307 rfl) (by decide) rfl (ab_bd (n := 3) (by rw [p1_n2307]) (by decide +kernel)) rfl rfl ?_
                    refine ab_fin.s2 (i := .iload_n 3) (k := 1) (pc' := 65) (lv' := [(0, .ref 101), (1, .int 1), (2, .int 1), (3, .int ((xs 3)))]) (st' := [.int ((xs 3)), .ref 2309]) (by decide +kernel) rfl rfl ?_
                    have q49 : (xs 3) = 1 := (by have l0 : (0 : Int32).toInt = 0 := rfl; have l1 : (1 : Int32).toInt = 1 := rfl; have l2 : (2 : Int32).toInt = 2 := rfl; have l3 : (3 : Int32).toInt = 3 := rfl; simp only [← Int32.toInt_inj, Int32.lt_iff_toInt_lt, Int32.le_iff_toInt_le, l0, l1, l2, l3] at q1 q2 q3 q4 q5 q6 q24 q27 q41 q47 q48 ⊢; omega)
                    rw [q49]
                    refine ab_fin.iald (v := 0) (pc' := 66) (by decide +kernel) (ab_ov_no f_2309 rfl) (ab_bd (n := 24) (by rw [p1_n2309]) (by decide +kernel)) rfl rfl ?_
                    refine ab_fin.s3 (i := .goto 4) (k := 3) (t := 70) (st' := [.int 0]) (by decide +kernel) (ab_goto (by decide +kernel)) ?_
                    refine ab_fin.ret (i := .ireturn) (k := 1) (some (.int 0)) (by decide +kernel) rfl ?_
                    refine ab_bk.back (pc' := 630) (st' := [.int 0]) rfl rfl ?_
                    refine ab_fin.s2 (i := .istore 6) (k := 2) (pc' := 632) (lv' := [(6, .int 0), (5, .int 0), (4, .int 0), (3, .ref 3466), (2, .ref 101), (1, .ref 0), (0, .retAddr 9)]) (st' := []) (by decide +kernel) rfl rfl ?_
                    refine ab_fin.s2 (i := .aload_n 2) (k := 1) (pc' := 633) (lv' := [(6, .int 0), (5, .int 0), (4, .int 0), (3, .ref 3466), (2, .ref 101), (1, .ref 0), (0, .retAddr 9)]) (st' := [.ref 101]) (by decide +kernel) rfl rfl ?_
                    refine ab_fin.call (i := .invokevirtual 75) (k := 3) (y := 5992) (As := [.ref 101]) (rest := []) (M' := (mX23_thrown, [])) (by decide +kernel) (ab_cv rfl rfl (ab_ov_get (lt0 101 (by decide)) rfl) ⟨(Nat.le_of_ble_eq_true rfl), (Nat.le_of_ble_eq_true rfl)⟩ rfl) rfl (Nat.le_of_ble_eq_true rfl) ?_
                    show ab_fin _ _ _ _ 0 [(0, .ref 101)] [] _ _
                    refine ab_fin.s2 (i := .aload_n 0) (k := 1) (pc' := 1) (lv' := [(0, .ref 101)]) (st' := [.ref 101]) (by decide +kernel) rfl rfl ?_
                    refine ab_fin.getf (ix := 1000) (k := 110) (v := .int 0) (pc' := 4) (by decide +kernel) rfl (ab_ov_get (lt0 101 (by decide)) rfl) rfl rfl ?_
                    refine ab_fin.ret (i := .ireturn) (k := 1) (some (.int 0)) (by decide +kernel) rfl ?_
                    refine ab_bk.back (pc' := 636) (st' := [.int 0]) rfl rfl ?_
                    refine ab_fin.s2 (i := .iload 5) (k := 2) (pc' := 638) (lv' := [(6, .int 0), (5, .int 0), (4, .int 0), (3, .ref 3466), (2, .ref 101), (1, .ref 0), (0, .retAddr 9)]) (st' := [.int 0, .int 0]) (by decide +kernel) rfl rfl ?_
                    refine ab_fin.brT (c := (0 : Int32) = (0 : Int32)) (i := .if_icmp .eq 5) (off := 5) (t := 643) (r := []) (by decide +kernel) rfl (by decide +kernel) (by decide +kernel) ?_
                    refine ab_fin.s2 (i := .iload 5) (k := 2) (pc' := 645) (lv' := [(6, .int 0), (5, .int 0), (4, .int 0), (3, .ref 3466), (2, .ref 101), (1, .ref 0), (0, .retAddr 9)]) (st' := [.int 0]) (by decide +kernel) rfl rfl ?_
                    refine ab_fin.brF (c := ¬ (0 : Int32) = 0) (i := .ifCond .ne 15) (off := 15) (t := 660) (pc' := 648) (r := []) (by decide +kernel) rfl (by decide +kernel) rfl (by decide +kernel) ?_
                    refine ab_fin.s2 (i := .aload_n 3) (k := 1) (pc' := 649) (lv' := [(6, .int 0), (5, .int 0), (4, .int 0), (3, .ref 3466), (2, .ref 101), (1, .ref 0), (0, .retAddr 9)]) (st' := [.ref 3466]) (by decide +kernel) rfl rfl ?_
                    refine ab_fin.s1i (i := .iconst 0) (k := 1) (pc' := 650) (n := 0) (by decide +kernel) rfl (by decide +kernel) rfl ?_
                    refine ab_fin.lald (v := 0) (pc' := 651) (by decide +kernel) (ab_ov_get (lt0 3466 (by decide)) rfl) (ab_bd (n := 1) (by rw [List.length_set, List.length_replicate]) (by decide +kernel)) rfl rfl ?_
                    refine ab_fin.s2 (i := .iload 6) (k := 2) (pc' := 653) (lv' := [(6, .int 0), (5, .int 0), (4, .int 0), (3, .ref 3466), (2, .ref 101), (1, .ref 0), (0, .retAddr 9)]) (st' := [.int 0, .long 0]) (by decide +kernel) rfl rfl ?_
                    refine ab_fin.s1l (i := .i2l) (k := 1) (pc' := 654) (n := 0) (by decide +kernel) rfl (by decide +kernel) rfl ?_
                    refine ab_fin.s1i (i := .lcmp) (k := 1) (pc' := 655) (n := 0) (by decide +kernel) rfl (by decide +kernel) rfl ?_
                    refine ab_fin.brT (c := (0 : Int32) = 0) (i := .ifCond .eq 5) (off := 5) (t := 660) (r := []) (by decide +kernel) rfl (by decide +kernel) (by decide +kernel) ?_
                    refine ab_fin.s3 (i := .goto 430) (k := 3) (t := 1090) (st' := []) (by decide +kernel) (ab_goto (by decide +kernel)) ?_
                    refine ab_fin.inc (i := .iinc 4 6) (k := 3) (pc' := 1093) (j := 4) (n := 6) (lv' := [(6, .int 0), (5, .int 0), (3, .ref 3466), (2, .ref 101), (1, .ref 0), (0, .retAddr 9)]) (by decide +kernel) rfl (by decide +kernel) rfl ?_
                    refine ab_fin.s3 (i := .goto (-1070)) (k := 3) (t := 23) (st' := []) (by decide +kernel) (ab_goto (by decide +kernel)) ?_
                    refine ab_fin.s2 (i := .iload 4) (k := 2) (pc' := 25) (lv' := [(4, .int 6), (6, .int 0), (5, .int 0), (3, .ref 3466), (2, .ref 101), (1, .ref 0), (0, .retAddr 9)]) (st' := [.int 6]) (by decide +kernel) rfl rfl ?_
                    refine ab_fin.s2 (i := .aload_n 0) (k := 1) (pc' := 26) (lv' := [(4, .int 6), (6, .int 0), (5, .int 0), (3, .ref 3466), (2, .ref 101), (1, .ref 0), (0, .retAddr 9)]) (st' := [.retAddr 9, .int 6]) (by decide +kernel) rfl rfl ?_
                    refine ab_fin.s8 (i := .arraylength) (k := 1) (pc' := 27) (st' := [.int 6, .int 6]) (by decide +kernel) rfl rfl rfl rfl ?_
                    refine ab_fin.s1i (i := .bipush 6) (k := 2) (pc' := 29) (n := 6) (by decide +kernel) rfl (by decide +kernel) rfl ?_
                    refine ab_fin.s1i (i := .isub) (k := 1) (pc' := 30) (n := 0) (by decide +kernel) rfl (by decide +kernel) rfl ?_
                    refine ab_fin.brT (c := (0 : Int32) < (6 : Int32)) (i := .if_icmp .gt 1066) (off := 1066) (t := 1096) (r := []) (by decide +kernel) rfl (by decide +kernel) (by decide +kernel) ?_
                    refine ab_fin.s1i (i := .iconst 1) (k := 1) (pc' := 1097) (n := 1) (by decide +kernel) rfl (by decide +kernel) rfl ?_
                    refine ab_fin.ret (i := .ireturn) (k := 1) (some (.int 1)) (by decide +kernel) rfl ?_
                    refine ⟨rfl, ?_, ?_⟩
                    · rw [ab_ov_len, hl]; decide
                    · refine Nat.le_trans (ab_ov_z _ _) ?_
                      simp only [List.map, List.sum_cons, List.sum_nil, ab_z1, ab_len, List.length_set, List.length_replicate, List.length_cons, List.length_nil, p1_n101]
                      omega
                  · rw [q41]
                    try rw [show ((((2 * (24 : Int32)) + (1 : Int32)) * (24 : Int32)) + 1) = (1177 : Int32) by decide +kernel]
                    refine ab_fin.iald (v := 0) (pc' := 16) (by decide +kernel) (ab_ov_no f_7 rfl) (ab_bd (n := 1728) (by rw [p1_n7]) (by decide +kernel)) rfl rfl ?_
                    refine ab_fin.ret (i := .ireturn) (k := 1) (some (.int 0)) (by decide +kernel) rfl ?_
                    refine ab_bk.back (pc' := 69) (st' := [.int 0]) rfl rfl ?_
                    refine ab_fin.s3 (i := .goto 4) (k := 3) (t := 73) (st' := [.int 0]) (by decide +kernel) (ab_goto (by decide +kernel)) ?_
                    refine ab_fin.ret (i := .ireturn) (k := 1) (some (.int 0)) (by decide +kernel) rfl ?_
                    refine ab_bk.back (pc' := 10) (st' := [.int 0, .int 0, .ref 3466]) rfl rfl ?_
                    refine ab_fin.s1l (i := .i2l) (k := 1) (pc' := 11) (n := 0) (by decide +kernel) rfl (by decide +kernel) rfl ?_
                    refine ab_fin.last (h1 := ab_ov h [(3466, .inr (.inl (1, .inr (.inl ((List.replicate 1 0).set 0 (0))))))]) (pc' := 12) (by decide +kernel) (ab_ov_no f_3466 rfl) (ab_bd (n := 1) (by rw [List.length_replicate]) (by decide +kernel)) (ab_ov_set rfl) rfl ?_
                    refine ab_fin.s3 (i := .goto 11) (k := 3) (t := 23) (st' := []) (by decide +kernel) (ab_goto (by decide +kernel)) ?_
                    refine ab_fin.s1i (i := .iconst 0) (k := 1) (pc' := 24) (n := 0) (by decide +kernel) rfl (by decide +kernel) rfl ?_
                    refine ab_fin.ret (i := .ireturn) (k := 1) (some (.int 0)) (by decide +kernel) rfl ?_
                    refine ab_bk.back (pc' := 606) (st' := [.int 0]) rfl rfl ?_
                    refine ab_fin.s2 (i := .istore 5) (k := 2) (pc' := 608) (lv' := [(5, .int 0), (4, .int 0), (3, .ref 3466), (2, .ref 101), (1, .ref 0), (0, .retAddr 9)]) (st' := []) (by decide +kernel) rfl rfl ?_
                    refine ab_fin.s2 (i := .aload_n 2) (k := 1) (pc' := 609) (lv' := [(5, .int 0), (4, .int 0), (3, .ref 3466), (2, .ref 101), (1, .ref 0), (0, .retAddr 9)]) (st' := [.ref 101]) (by decide +kernel) rfl rfl ?_
                    refine ab_fin.s2 (i := .aload_n 0) (k := 1) (pc' := 610) (lv' := [(5, .int 0), (4, .int 0), (3, .ref 3466), (2, .ref 101), (1, .ref 0), (0, .retAddr 9)]) (st' := [.retAddr 9, .ref 101]) (by decide +kernel) rfl rfl ?_
                    refine ab_fin.s2 (i := .iload 4) (k := 2) (pc' := 612) (lv' := [(5, .int 0), (4, .int 0), (3, .ref 3466), (2, .ref 101), (1, .ref 0), (0, .retAddr 9)]) (st' := [.int 0, .retAddr 9, .ref 101]) (by decide +kernel) rfl rfl ?_
                    refine ab_fin.s1i (i := .iconst 1) (k := 1) (pc' := 613) (n := 1) (by decide +kernel) rfl (by decide +kernel) rfl ?_
                    refine ab_fin.s1i (i := .iadd) (k := 1) (pc' := 614) (n := 1) (by decide +kernel) rfl (by decide +kernel) rfl ?_
                    refine ab_fin.s8 (i := .iaload) (k := 1) (pc' := 615) (st' := [.int ((xs 1)), .ref 101]) (by decide +kernel) (ab_x0 rfl (by decide +kernel) rfl) rfl rfl rfl ?_
                    refine ab_fin.s2 (i := .aload_n 0) (k := 1) (pc' := 616) (lv' := [(5, .int 0), (4, .int 0), (3, .ref 3466), (2, .ref 101), (1, .ref 0), (0, .retAddr 9)]) (st' := [.retAddr 9, .int ((xs 1)), .ref 101]) (by decide +kernel) rfl rfl ?_
                    refine ab_fin.s2 (i := .iload 4) (k := 2) (pc' := 618) (lv' := [(5, .int 0), (4, .int 0), (3, .ref 3466), (2, .ref 101), (1, .ref 0), (0, .retAddr 9)]) (st' := [.int 0, .retAddr 9, .int ((xs 1)), .ref 101]) (by decide +kernel) rfl rfl ?_
                    refine ab_fin.s1i (i := .iconst 2) (k := 1) (pc' := 619) (n := 2) (by decide +kernel) rfl (by decide +kernel) rfl ?_
                    refine ab_fin.s1i (i := .iadd) (k := 1) (pc' := 620) (n := 2) (by decide +kernel) rfl (by decide +kernel) rfl ?_
                    refine ab_fin.s8 (i := .iaload) (k := 1) (pc' := 621) (st' := [.int ((xs 2)), .int ((xs 1)), .ref 101]) (by decide +kernel) (ab_x0 rfl (by decide +kernel) rfl) rfl rfl rfl ?_
                    refine ab_fin.s2 (i := .aload_n 0) (k := 1) (pc' := 622) (lv' := [(5, .int 0), (4, .int 0), (3, .ref 3466), (2, .ref 101), (1, .ref 0), (0, .retAddr 9)]) (st' := [.retAddr 9, .int ((xs 2)), .int ((xs 1)), .ref 101]) (by decide +kernel) rfl rfl ?_
                    refine ab_fin.s2 (i := .iload 4) (k := 2) (pc' := 624) (lv' := [(5, .int 0), (4, .int 0), (3, .ref 3466), (2, .ref 101), (1, .ref 0), (0, .retAddr 9)]) (st' := [.int 0, .retAddr 9, .int ((xs 2)), .int ((xs 1)), .ref 101]) (by decide +kernel) rfl rfl ?_
                    refine ab_fin.s1i (i := .iconst 3) (k := 1) (pc' := 625) (n := 3) (by decide +kernel) rfl (by decide +kernel) rfl ?_
                    refine ab_fin.s1i (i := .iadd) (k := 1) (pc' := 626) (n := 3) (by decide +kernel) rfl (by decide +kernel) rfl ?_
                    refine ab_fin.s8 (i := .iaload) (k := 1) (pc' := 627) (st' := [.int ((xs 3)), .int ((xs 2)), .int ((xs 1)), .ref 101]) (by decide +kernel) (ab_x0 rfl (by decide +kernel) rfl) rfl rfl rfl ?_
                    refine ab_fin.call (i := .invokevirtual 110) (k := 3) (y := 6003) (As := [.ref 101, .int ((xs 1)), .int ((xs 2)), .int ((xs 3))]) (rest := []) (M' := (mX23_row, [])) (by decide +kernel) (ab_cv rfl rfl (ab_ov_no f_101 rfl) ⟨(Nat.le_of_ble_eq_true rfl), (Nat.le_of_ble_eq_true rfl)⟩ rfl) rfl (Nat.le_of_ble_eq_true rfl) ?_
                    show ab_fin _ _ _ _ 0 [(0, .ref 101), (1, .int ((xs 1))), (2, .int ((xs 2))), (3, .int ((xs 3)))] [] _ _
                    refine ab_fin.s2 (i := .aload_n 0) (k := 1) (pc' := 1) (lv' := [(0, .ref 101), (1, .int ((xs 1))), (2, .int ((xs 2))), (3, .int ((xs 3)))]) (st' := [.ref 101]) (by decide +kernel) rfl rfl ?_
                    refine ab_fin.s1i (i := .iconst 0) (k := 1) (pc' := 2) (n := 0) (by decide +kernel) rfl (by decide +kernel) rfl ?_
                    refine ab_fin.putf (ix := 1000) (h1 := ab_ov h [(101, .inr (.inr (24, (p1_o101).set 110 (.int 0)))), (3466, .inr (.inl (1, .inr (.inl ((List.replicate 1 0).set 0 (0))))))]) (pc' := 5) (by decide +kernel) rfl (ab_ov_no f_101 rfl) (ab_klt (n := 115) (by rw [p1_n101]) (by decide)) rfl rfl (ab_ov_set rfl) rfl ?_
                    refine ab_fin.s2 (i := .aload_n 0) (k := 1) (pc' := 6) (lv' := [(0, .ref 101), (1, .int ((xs 1))), (2, .int ((xs 2))), (3, .int ((xs 3)))]) (st' := [.ref 101]) (by decide +kernel) rfl rfl ?_
                    refine ab_fin.s2 (i := .iload_n 1) (k := 1) (pc' := 7) (lv' := [(0, .ref 101), (1, .int ((xs 1))), (2, .int ((xs 2))), (3, .int ((xs 3)))]) (st' := [.int ((xs 1)), .ref 101]) (by decide +kernel) rfl rfl ?_
                    refine ab_fin.call (i := .invokevirtual 1018) (k := 3) (y := 6001) (As := [.ref 101, .int ((xs 1))]) (rest := []) (M' := (mX23_isKind, [])) (by decide +kernel) (ab_cv rfl rfl (ab_ov_get (lt0 101 (by decide)) rfl) ⟨(Nat.le_of_ble_eq_true rfl), (Nat.le_of_ble_eq_true rfl)⟩ rfl) rfl (Nat.le_of_ble_eq_true rfl) ?_
                    show ab_fin _ _ _ _ 0 [(0, .ref 101), (1, .int ((xs 1)))] [] _ _
                    refine ab_fin.s2 (i := .iload_n 1) (k := 1) (pc' := 1) (lv' := [(0, .ref 101), (1, .int ((xs 1)))]) (st' := [.int ((xs 1))]) (by decide +kernel) rfl rfl ?_
                    refine ab_fin.brF (c := (xs 1) < 0) (i := .ifCond .lt 15) (off := 15) (t := 16) (pc' := 4) (r := []) (by decide +kernel) rfl (by decide +kernel) rfl (by have l0 : (0 : Int32).toInt = 0 := rfl; have l1 : (1 : Int32).toInt = 1 := rfl; have l2 : (2 : Int32).toInt = 2 := rfl; have l3 : (3 : Int32).toInt = 3 := rfl; simp only [← Int32.toInt_inj, Int32.lt_iff_toInt_lt, Int32.le_iff_toInt_le, l0, l1, l2, l3] at q1 q2 q3 q4 q5 q6 q24 q27 q41 ⊢; omega) ?_
                    refine ab_fin.s2 (i := .iload_n 1) (k := 1) (pc' := 5) (lv' := [(0, .ref 101), (1, .int ((xs 1)))]) (st' := [.int ((xs 1))]) (by decide +kernel) rfl rfl ?_
                    refine ab_fin.s2 (i := .aload_n 0) (k := 1) (pc' := 6) (lv' := [(0, .ref 101), (1, .int ((xs 1)))]) (st' := [.ref 101, .int ((xs 1))]) (by decide +kernel) rfl rfl ?_
                    refine ab_fin.getf (ix := 13) (k := 4) (v := .int 3) (pc' := 9) (by decide +kernel) rfl (ab_ov_get (lt0 101 (by decide)) rfl) rfl rfl ?_
                    refine ab_fin.brF (c := (3 : Int32) ≤ (xs 1)) (i := .if_icmp .ge 7) (off := 7) (t := 16) (pc' := 12) (r := []) (by decide +kernel) rfl (by decide +kernel) rfl (by have l0 : (0 : Int32).toInt = 0 := rfl; have l1 : (1 : Int32).toInt = 1 := rfl; have l2 : (2 : Int32).toInt = 2 := rfl; have l3 : (3 : Int32).toInt = 3 := rfl; simp only [← Int32.toInt_inj, Int32.lt_iff_toInt_lt, Int32.le_iff_toInt_le, l0, l1, l2, l3] at q1 q2 q3 q4 q5 q6 q24 q27 q41 ⊢; omega) ?_
                    refine ab_fin.s1i (i := .iconst 1) (k := 1) (pc' := 13) (n := 1) (by decide +kernel) rfl (by decide +kernel) rfl ?_
                    refine ab_fin.s3 (i := .goto 4) (k := 3) (t := 17) (st' := [.int 1]) (by decide +kernel) (ab_goto (by decide +kernel)) ?_
                    refine ab_fin.ret (i := .ireturn) (k := 1) (some (.int 1)) (by decide +kernel) rfl ?_
                    refine ab_bk.back (pc' := 10) (st' := [.int 1]) rfl rfl ?_
                    refine ab_fin.brF (c := (1 : Int32) = 0) (i := .ifCond .eq 7) (off := 7) (t := 17) (pc' := 13) (r := []) (by decide +kernel) rfl (by decide +kernel) rfl (by decide +kernel) ?_
                    refine ab_fin.s2 (i := .iload_n 3) (k := 1) (pc' := 14) (lv' := [(0, .ref 101), (1, .int ((xs 1))), (2, .int ((xs 2))), (3, .int ((xs 3)))]) (st' := [.int ((xs 3))]) (by decide +kernel) rfl rfl ?_
                    refine ab_fin.brT (c := 0 ≤ (xs 3)) (i := .ifCond .ge 9) (off := 9) (t := 23) (r := []) (by decide +kernel) rfl (by decide +kernel) (by have l0 : (0 : Int32).toInt = 0 := rfl; have l1 : (1 : Int32).toInt = 1 := rfl; have l2 : (2 : Int32).toInt = 2 := rfl; have l3 : (3 : Int32).toInt = 3 := rfl; simp only [← Int32.toInt_inj, Int32.lt_iff_toInt_lt, Int32.le_iff_toInt_le, l0, l1, l2, l3] at q1 q2 q3 q4 q5 q6 q24 q27 q41 ⊢; omega) ?_
                    refine ab_fin.s2 (i := .iload_n 2) (k := 1) (pc' := 24) (lv' := [(0, .ref 101), (1, .int ((xs 1))), (2, .int ((xs 2))), (3, .int ((xs 3)))]) (st' := [.int ((xs 2))]) (by decide +kernel) rfl rfl ?_
                    refine ab_fin.brF (c := (xs 2) < 0) (i := .ifCond .lt 8) (off := 8) (t := 32) (pc' := 27) (r := []) (by decide +kernel) rfl (by decide +kernel) rfl (by have l0 : (0 : Int32).toInt = 0 := rfl; have l1 : (1 : Int32).toInt = 1 := rfl; have l2 : (2 : Int32).toInt = 2 := rfl; have l3 : (3 : Int32).toInt = 3 := rfl; simp only [← Int32.toInt_inj, Int32.lt_iff_toInt_lt, Int32.le_iff_toInt_le, l0, l1, l2, l3] at q1 q2 q3 q4 q5 q6 q24 q27 q41 ⊢; omega) ?_
                    refine ab_fin.s2 (i := .iload_n 2) (k := 1) (pc' := 28) (lv' := [(0, .ref 101), (1, .int ((xs 1))), (2, .int ((xs 2))), (3, .int ((xs 3)))]) (st' := [.int ((xs 2))]) (by decide +kernel) rfl rfl ?_
                    refine ab_fin.s1i (i := .iconst 2) (k := 1) (pc' := 29) (n := 2) (by decide +kernel) rfl (by decide +kernel) rfl ?_
                    refine ab_fin.brT (c := (xs 2) ≤ (2 : Int32)) (i := .if_icmp .le 9) (off := 9) (t := 38) (r := []) (by decide +kernel) rfl (by decide +kernel) (by have l0 : (0 : Int32).toInt = 0 := rfl; have l1 : (1 : Int32).toInt = 1 := rfl; have l2 : (2 : Int32).toInt = 2 := rfl; have l3 : (3 : Int32).toInt = 3 := rfl; simp only [← Int32.toInt_inj, Int32.lt_iff_toInt_lt, Int32.le_iff_toInt_le, l0, l1, l2, l3] at q1 q2 q3 q4 q5 q6 q24 q27 q41 ⊢; omega) ?_
                    refine ab_fin.s2 (i := .iload_n 3) (k := 1) (pc' := 39) (lv' := [(0, .ref 101), (1, .int ((xs 1))), (2, .int ((xs 2))), (3, .int ((xs 3)))]) (st' := [.int ((xs 3))]) (by decide +kernel) rfl rfl ?_
                    refine ab_fin.s2 (i := .aload_n 0) (k := 1) (pc' := 40) (lv' := [(0, .ref 101), (1, .int ((xs 1))), (2, .int ((xs 2))), (3, .int ((xs 3)))]) (st' := [.ref 101, .int ((xs 3))]) (by decide +kernel) rfl rfl ?_
                    refine ab_fin.getf (ix := 17) (k := 0) (v := .ref 102) (pc' := 43) (by decide +kernel) rfl (ab_ov_get (lt0 101 (by decide)) rfl) rfl rfl ?_
                    refine ab_fin.s2 (i := .iload_n 1) (k := 1) (pc' := 44) (lv' := [(0, .ref 101), (1, .int ((xs 1))), (2, .int ((xs 2))), (3, .int ((xs 3)))]) (st' := [.int ((xs 1)), .ref 102, .int ((xs 3))]) (by decide +kernel) rfl rfl ?_
                    have q51 : (xs 1) = 1 := (by have l0 : (0 : Int32).toInt = 0 := rfl; have l1 : (1 : Int32).toInt = 1 := rfl; have l2 : (2 : Int32).toInt = 2 := rfl; have l3 : (3 : Int32).toInt = 3 := rfl; simp only [← Int32.toInt_inj, Int32.lt_iff_toInt_lt, Int32.le_iff_toInt_le, l0, l1, l2, l3] at q1 q2 q3 q4 q5 q6 q24 q27 q41 ⊢; omega)
                    rw [q51]
                    refine ab_fin.aald (v := .ref 2303) (pc' := 45) (by decide +kernel) (ab_ov_no f_102 rfl) (by decide) rfl (ab_bd (n := 24) (by rw [p1_n102]) (by decide +kernel)) rfl rfl ?_
                    refine ab_fin.getf (ix := 79) (k := 5) (v := .ref 2311) (pc' := 48) (by decide +kernel) rfl (ab_ov_no f_2303 rfl) rfl rfl ?_
                    refine ab_fin.s2 (i := .iload_n 2) (k := 1) (pc' := 49) (lv' := [(0, .ref 101), (1, .int 1), (2, .int ((xs 2))), (3, .int ((xs 3)))]) (st' := [.int ((xs 2)), .ref 2311, .int ((xs 3))]) (by decide +kernel) rfl rfl ?_
                    have q52 : (xs 2) = 2 := (by have l0 : (0 : Int32).toInt = 0 := rfl; have l1 : (1 : Int32).toInt = 1 := rfl; have l2 : (2 : Int32).toInt = 2 := rfl; have l3 : (3 : Int32).toInt = 3 := rfl; simp only [← Int32.toInt_inj, Int32.lt_iff_toInt_lt, Int32.le_iff_toInt_le, l0, l1, l2, l3] at q1 q2 q3 q4 q5 q6 q24 q27 q41 q51 ⊢; omega)
                    rw [q52]
                    refine ab_fin.iald (v := 2) (pc' := 50) (by decide +kernel) (ab_ov_no f_2311 rfl) (ab_bd (n := 3) (by rw [List.length_replicate]) (by decide +kernel)) rfl rfl ?_
                    refine ab_fin.brF (c := (2 : Int32) ≤ (xs 3)) (i := .if_icmp .ge 19) (off := 19) (t := 69) (pc' := 53) (r := []) (by decide +kernel) rfl (by decide +kernel) rfl (by have l0 : (0 : Int32).toInt = 0 := rfl; have l1 : (1 : Int32).toInt = 1 := rfl; have l2 : (2 : Int32).toInt = 2 := rfl; have l3 : (3 : Int32).toInt = 3 := rfl; simp only [← Int32.toInt_inj, Int32.lt_iff_toInt_lt, Int32.le_iff_toInt_le, l0, l1, l2, l3] at q1 q2 q3 q4 q5 q6 q24 q27 q41 q51 q52 ⊢; omega) ?_
                    refine ab_fin.s2 (i := .aload_n 0) (k := 1) (pc' := 54) (lv' := [(0, .ref 101), (1, .int 1), (2, .int 2), (3, .int ((xs 3)))]) (st' := [.ref 101]) (by decide +kernel) rfl rfl ?_
                    refine ab_fin.getf (ix := 17) (k := 0) (v := .ref 102) (pc' := 57) (by decide +kernel) rfl (ab_ov_get (lt0 101 (by decide)) rfl) rfl rfl ?_
                    refine ab_fin.s2 (i := .iload_n 1) (k := 1) (pc' := 58) (lv' := [(0, .ref 101), (1, .int 1), (2, .int 2), (3, .int ((xs 3)))]) (st' := [.int 1, .ref 102]) (by decide +kernel) rfl rfl ?_
                    refine ab_fin.aald (v := .ref 2303) (pc' := 59) (by decide +kernel) (ab_ov_no f_102 rfl) (by decide) rfl (ab_bd (n := 24) (by rw [p1_n102]) (by decide +kernel)) rfl rfl ?_
                    refine ab_fin.getf (ix := 86) (k := 4) (v := .ref 2307) (pc' := 62) (by decide +kernel) rfl (ab_ov_no f_2303 rfl) rfl rfl ?_
                    refine ab_fin.s2 (i := .iload_n 2) (k := 1) (pc' := 63) (lv' := [(0, .ref 101), (1, .int 1), (2, .int 2), (3, .int ((xs 3)))]) (st' := [.int 2, .ref 2307]) (by decide +kernel) rfl rfl ?_
                    refine ab_fin.aald (v := .ref 2310) (pc' := 64) (by decide +kernel) (ab_ov_no f_2307 rfl) (by decide) rfl (ab_bd (n := 3) (by rw [p1_n2307]) (by decide +kernel)) rfl rfl ?_
                    refine ab_fin.s2 (i := .iload_n 3) (k := 1) (pc' := 65) (lv' := [(0, .ref 101), (1, .int 1), (2, .int 2), (3, .int ((xs 3)))]) (st' := [.int ((xs 3)), .ref 2310]) (by decide +kernel) rfl rfl ?_
                    have q53 : (xs 3) = 1 := (by have l0 : (0 : Int32).toInt = 0 := rfl; have l1 : (1 : Int32).toInt = 1 := rfl; have l2 : (2 : Int32).toInt = 2 := rfl; have l3 : (3 : Int32).toInt = 3 := rfl; simp only [← Int32.toInt_inj, Int32.lt_iff_toInt_lt, Int32.le_iff_toInt_le, l0, l1, l2, l3] at q1 q2 q3 q4 q5 q6 q24 q27 q41 q51 q52 ⊢; omega)
                    rw [q53]
                    refine ab_fin.iald (v := 0) (pc' := 66) (by decide +kernel) (ab_ov_no f_2310 rfl) (ab_bd (n := 24) (by rw [p1_n2310]) (by decide +kernel)) rfl rfl ?_
                    refine ab_fin.s3 (i := .goto 4) (k := 3) (t := 70) (st' := [.int 0]) (by decide +kernel) (ab_goto (by decide +kernel)) ?_
                    refine ab_fin.ret (i := .ireturn) (k := 1) (some (.int 0)) (by decide +kernel) rfl ?_
                    refine ab_bk.back (pc' := 630) (st' := [.int 0]) rfl rfl ?_
                    refine ab_fin.s2 (i := .istore 6) (k := 2) (pc' := 632) (lv' := [(6, .int 0), (5, .int 0), (4, .int 0), (3, .ref 3466), (2, .ref 101), (1, .ref 0), (0, .retAddr 9)]) (st' := []) (by decide +kernel) rfl rfl ?_
                    refine ab_fin.s2 (i := .aload_n 2) (k := 1) (pc' := 633) (lv' := [(6, .int 0), (5, .int 0), (4, .int 0), (3, .ref 3466), (2, .ref 101), (1, .ref 0), (0, .retAddr 9)]) (st' := [.ref 101]) (by decide +kernel) rfl rfl ?_
                    refine ab_fin.call (i := .invokevirtual 75) (k := 3) (y := 5992) (As := [.ref 101]) (rest := []) (M' := (mX23_thrown, [])) (by decide +kernel) (ab_cv rfl rfl (ab_ov_get (lt0 101 (by decide)) rfl) ⟨(Nat.le_of_ble_eq_true rfl), (Nat.le_of_ble_eq_true rfl)⟩ rfl) rfl (Nat.le_of_ble_eq_true rfl) ?_
                    show ab_fin _ _ _ _ 0 [(0, .ref 101)] [] _ _
                    refine ab_fin.s2 (i := .aload_n 0) (k := 1) (pc' := 1) (lv' := [(0, .ref 101)]) (st' := [.ref 101]) (by decide +kernel) rfl rfl ?_
                    refine ab_fin.getf (ix := 1000) (k := 110) (v := .int 0) (pc' := 4) (by decide +kernel) rfl (ab_ov_get (lt0 101 (by decide)) rfl) rfl rfl ?_
                    refine ab_fin.ret (i := .ireturn) (k := 1) (some (.int 0)) (by decide +kernel) rfl ?_
                    refine ab_bk.back (pc' := 636) (st' := [.int 0]) rfl rfl ?_
                    refine ab_fin.s2 (i := .iload 5) (k := 2) (pc' := 638) (lv' := [(6, .int 0), (5, .int 0), (4, .int 0), (3, .ref 3466), (2, .ref 101), (1, .ref 0), (0, .retAddr 9)]) (st' := [.int 0, .int 0]) (by decide +kernel) rfl rfl ?_
                    refine ab_fin.brT (c := (0 : Int32) = (0 : Int32)) (i := .if_icmp .eq 5) (off := 5) (t := 643) (r := []) (by decide +kernel) rfl (by decide +kernel) (by decide +kernel) ?_
                    refine ab_fin.s2 (i := .iload 5) (k := 2) (pc' := 645) (lv' := [(6, .int 0), (5, .int 0), (4, .int 0), (3, .ref 3466), (2, .ref 101), (1, .ref 0), (0, .retAddr 9)]) (st' := [.int 0]) (by decide +kernel) rfl rfl ?_
                    refine ab_fin.brF (c := ¬ (0 : Int32) = 0) (i := .ifCond .ne 15) (off := 15) (t := 660) (pc' := 648) (r := []) (by decide +kernel) rfl (by decide +kernel) rfl (by decide +kernel) ?_
                    refine ab_fin.s2 (i := .aload_n 3) (k := 1) (pc' := 649) (lv' := [(6, .int 0), (5, .int 0), (4, .int 0), (3, .ref 3466), (2, .ref 101), (1, .ref 0), (0, .retAddr 9)]) (st' := [.ref 3466]) (by decide +kernel) rfl rfl ?_
                    refine ab_fin.s1i (i := .iconst 0) (k := 1) (pc' := 650) (n := 0) (by decide +kernel) rfl (by decide +kernel) rfl ?_
                    refine ab_fin.lald (v := 0) (pc' := 651) (by decide +kernel) (ab_ov_get (lt0 3466 (by decide)) rfl) (ab_bd (n := 1) (by rw [List.length_set, List.length_replicate]) (by decide +kernel)) rfl rfl ?_
                    refine ab_fin.s2 (i := .iload 6) (k := 2) (pc' := 653) (lv' := [(6, .int 0), (5, .int 0), (4, .int 0), (3, .ref 3466), (2, .ref 101), (1, .ref 0), (0, .retAddr 9)]) (st' := [.int 0, .long 0]) (by decide +kernel) rfl rfl ?_
                    refine ab_fin.s1l (i := .i2l) (k := 1) (pc' := 654) (n := 0) (by decide +kernel) rfl (by decide +kernel) rfl ?_
                    refine ab_fin.s1i (i := .lcmp) (k := 1) (pc' := 655) (n := 0) (by decide +kernel) rfl (by decide +kernel) rfl ?_
                    refine ab_fin.brT (c := (0 : Int32) = 0) (i := .ifCond .eq 5) (off := 5) (t := 660) (r := []) (by decide +kernel) rfl (by decide +kernel) (by decide +kernel) ?_
                    refine ab_fin.s3 (i := .goto 430) (k := 3) (t := 1090) (st' := []) (by decide +kernel) (ab_goto (by decide +kernel)) ?_
                    refine ab_fin.inc (i := .iinc 4 6) (k := 3) (pc' := 1093) (j := 4) (n := 6) (lv' := [(6, .int 0), (5, .int 0), (3, .ref 3466), (2, .ref 101), (1, .ref 0), (0, .retAddr 9)]) (by decide +kernel) rfl (by decide +kernel) rfl ?_
                    refine ab_fin.s3 (i := .goto (-1070)) (k := 3) (t := 23) (st' := []) (by decide +kernel) (ab_goto (by decide +kernel)) ?_
                    refine ab_fin.s2 (i := .iload 4) (k := 2) (pc' := 25) (lv' := [(4, .int 6), (6, .int 0), (5, .int 0), (3, .ref 3466), (2, .ref 101), (1, .ref 0), (0, .retAddr 9)]) (st' := [.int 6]) (by decide +kernel) rfl rfl ?_
                    refine ab_fin.s2 (i := .aload_n 0) (k := 1) (pc' := 26) (lv' := [(4, .int 6), (6, .int 0), (5, .int 0), (3, .ref 3466), (2, .ref 101), (1, .ref 0), (0, .retAddr 9)]) (st' := [.retAddr 9, .int 6]) (by decide +kernel) rfl rfl ?_
                    refine ab_fin.s8 (i := .arraylength) (k := 1) (pc' := 27) (st' := [.int 6, .int 6]) (by decide +kernel) rfl rfl rfl rfl ?_
                    refine ab_fin.s1i (i := .bipush 6) (k := 2) (pc' := 29) (n := 6) (by decide +kernel) rfl (by decide +kernel) rfl ?_
                    refine ab_fin.s1i (i := .isub) (k := 1) (pc' := 30) (n := 0) (by decide +kernel) rfl (by decide +kernel) rfl ?_
                    refine ab_fin.brT (c := (0 : Int32) < (6 : Int32)) (i := .if_icmp .gt 1066) (off := 1066) (t := 1096) (r := []) (by decide +kernel) rfl (by decide +kernel) (by decide +kernel) ?_
                    refine ab_fin.s1i (i := .iconst 1) (k := 1) (pc' := 1097) (n := 1) (by decide +kernel) rfl (by decide +kernel) rfl ?_
                    refine ab_fin.ret (i := .ireturn) (k := 1) (some (.int 1)) (by decide +kernel) rfl ?_
                    refine ⟨rfl, ?_, ?_⟩
                    · rw [ab_ov_len, hl]; decide
                    · refine Nat.le_trans (ab_ov_z _ _) ?_
                      simp only [List.map, List.sum_cons, List.sum_nil, ab_z1, ab_len, List.length_set, List.length_replicate, List.length_cons, List.length_nil, p1_n101]
                      omega
            · rw [q6]
              refine ab_fin.iald (v := 2) (pc' := 53) (by decide +kernel) (ab_ov_no f_5 rfl) (ab_bd (n := 24) (by rw [p1_n5]) (by decide +kernel)) rfl rfl ?_
              refine ab_fin.br (c := (2 : Int32) ≤ (xs 3)) (i := .if_icmp .ge 19) (off := 19) (t := 72) (pc' := 56) (r := []) (by decide +kernel) rfl (by decide +kernel) rfl (fun q54 => ?_) (fun q54 => ?_)
              · refine ab_fin.s1i (i := .iconst (-1)) (k := 1) (pc' := 73) (n := (-1)) (by decide +kernel) rfl (by decide +kernel) rfl ?_
                refine ab_fin.ret (i := .ireturn) (k := 1) (some (.int (-1))) (by decide +kernel) rfl ?_
                refine ab_bk.back (pc' := 10) (st' := [.int (-1), .int 0, .ref 3466]) rfl rfl ?_
                refine ab_fin.s1l (i := .i2l) (k := 1) (pc' := 11) (n := (-1)) (by decide +kernel) rfl (by decide +kernel) rfl ?_
                refine ab_fin.last (h1 := ab_ov h [(3466, .inr (.inl (1, .inr (.inl ((List.replicate 1 0).set 0 ((-1)))))))]) (pc' := 12) (by decide +kernel) (ab_ov_no f_3466 rfl) (ab_bd (n := 1) (by rw [List.length_replicate]) (by decide +kernel)) (ab_ov_set rfl) rfl ?_
                refine ab_fin.s3 (i := .goto 11) (k := 3) (t := 23) (st' := []) (by decide +kernel) (ab_goto (by decide +kernel)) ?_
                refine ab_fin.s1i (i := .iconst 0) (k := 1) (pc' := 24) (n := 0) (by decide +kernel) rfl (by decide +kernel) rfl ?_
                refine ab_fin.ret (i := .ireturn) (k := 1) (some (.int 0)) (by decide +kernel) rfl ?_
                refine ab_bk.back (pc' := 606) (st' := [.int 0]) rfl rfl ?_
                refine ab_fin.s2 (i := .istore 5) (k := 2) (pc' := 608) (lv' := [(5, .int 0), (4, .int 0), (3, .ref 3466), (2, .ref 101), (1, .ref 0), (0, .retAddr 9)]) (st' := []) (by decide +kernel) rfl rfl ?_
                refine ab_fin.s2 (i := .aload_n 2) (k := 1) (pc' := 609) (lv' := [(5, .int 0), (4, .int 0), (3, .ref 3466), (2, .ref 101), (1, .ref 0), (0, .retAddr 9)]) (st' := [.ref 101]) (by decide +kernel) rfl rfl ?_
                refine ab_fin.s2 (i := .aload_n 0) (k := 1) (pc' := 610) (lv' := [(5, .int 0), (4, .int 0), (3, .ref 3466), (2, .ref 101), (1, .ref 0), (0, .retAddr 9)]) (st' := [.retAddr 9, .ref 101]) (by decide +kernel) rfl rfl ?_
                refine ab_fin.s2 (i := .iload 4) (k := 2) (pc' := 612) (lv' := [(5, .int 0), (4, .int 0), (3, .ref 3466), (2, .ref 101), (1, .ref 0), (0, .retAddr 9)]) (st' := [.int 0, .retAddr 9, .ref 101]) (by decide +kernel) rfl rfl ?_
                refine ab_fin.s1i (i := .iconst 1) (k := 1) (pc' := 613) (n := 1) (by decide +kernel) rfl (by decide +kernel) rfl ?_
                refine ab_fin.s1i (i := .iadd) (k := 1) (pc' := 614) (n := 1) (by decide +kernel) rfl (by decide +kernel) rfl ?_
                refine ab_fin.s8 (i := .iaload) (k := 1) (pc' := 615) (st' := [.int ((xs 1)), .ref 101]) (by decide +kernel) (ab_x0 rfl (by decide +kernel) rfl) rfl rfl rfl ?_
                refine ab_fin.s2 (i := .aload_n 0) (k := 1) (pc' := 616) (lv' := [(5, .int 0), (4, .int 0), (3, .ref 3466), (2, .ref 101), (1, .ref 0), (0, .retAddr 9)]) (st' := [.retAddr 9, .int ((xs 1)), .ref 101]) (by decide +kernel) rfl rfl ?_
                refine ab_fin.s2 (i := .iload 4) (k := 2) (pc' := 618) (lv' := [(5, .int 0), (4, .int 0), (3, .ref 3466), (2, .ref 101), (1, .ref 0), (0, .retAddr 9)]) (st' := [.int 0, .retAddr 9, .int ((xs 1)), .ref 101]) (by decide +kernel) rfl rfl ?_
                refine ab_fin.s1i (i := .iconst 2) (k := 1) (pc' := 619) (n := 2) (by decide +kernel) rfl (by decide +kernel) rfl ?_
                refine ab_fin.s1i (i := .iadd) (k := 1) (pc' := 620) (n := 2) (by decide +kernel) rfl (by decide +kernel) rfl ?_
                refine ab_fin.s8 (i := .iaload) (k := 1) (pc' := 621) (st' := [.int ((xs 2)), .int ((xs 1)), .ref 101]) (by decide +kernel) (ab_x0 rfl (by decide +kernel) rfl) rfl rfl rfl ?_
                refine ab_fin.s2 (i := .aload_n 0) (k := 1) (pc' := 622) (lv' := [(5, .int 0), (4, .int 0), (3, .ref 3466), (2, .ref 101), (1, .ref 0), (0, .retAddr 9)]) (st' := [.retAddr 9, .int ((xs 2)), .int ((xs 1)), .ref 101]) (by decide +kernel) rfl rfl ?_
                refine ab_fin.s2 (i := .iload 4) (k := 2) (pc' := 624) (lv' := [(5, .int 0), (4, .int 0), (3, .ref 3466), (2, .ref 101), (1, .ref 0), (0, .retAddr 9)]) (st' := [.int 0, .retAddr 9, .int ((xs 2)), .int ((xs 1)), .ref 101]) (by decide +kernel) rfl rfl ?_
                refine ab_fin.s1i (i := .iconst 3) (k := 1) (pc' := 625) (n := 3) (by decide +kernel) rfl (by decide +kernel) rfl ?_
                refine ab_fin.s1i (i := .iadd) (k := 1) (pc' := 626) (n := 3) (by decide +kernel) rfl (by decide +kernel) rfl ?_
                refine ab_fin.s8 (i := .iaload) (k := 1) (pc' := 627) (st' := [.int ((xs 3)), .int ((xs 2)), .int ((xs 1)), .ref 101]) (by decide +kernel) (ab_x0 rfl (by decide +kernel) rfl) rfl rfl rfl ?_
                refine ab_fin.call (i := .invokevirtual 110) (k := 3) (y := 6003) (As := [.ref 101, .int ((xs 1)), .int ((xs 2)), .int ((xs 3))]) (rest := []) (M' := (mX23_row, [])) (by decide +kernel) (ab_cv rfl rfl (ab_ov_no f_101 rfl) ⟨(Nat.le_of_ble_eq_true rfl), (Nat.le_of_ble_eq_true rfl)⟩ rfl) rfl (Nat.le_of_ble_eq_true rfl) ?_
                show ab_fin _ _ _ _ 0 [(0, .ref 101), (1, .int ((xs 1))), (2, .int ((xs 2))), (3, .int ((xs 3)))] [] _ _
                refine ab_fin.s2 (i := .aload_n 0) (k := 1) (pc' := 1) (lv' := [(0, .ref 101), (1, .int ((xs 1))), (2, .int ((xs 2))), (3, .int ((xs 3)))]) (st' := [.ref 101]) (by decide +kernel) rfl rfl ?_
                refine ab_fin.s1i (i := .iconst 0) (k := 1) (pc' := 2) (n := 0) (by decide +kernel) rfl (by decide +kernel) rfl ?_
                refine ab_fin.putf (ix := 1000) (h1 := ab_ov h [(101, .inr (.inr (24, (p1_o101).set 110 (.int 0)))), (3466, .inr (.inl (1, .inr (.inl ((List.replicate 1 0).set 0 ((-1)))))))]) (pc' := 5) (by decide +kernel) rfl (ab_ov_no f_101 rfl) (ab_klt (n := 115) (by rw [p1_n101]) (by decide)) rfl rfl (ab_ov_set rfl) rfl ?_
                refine ab_fin.s2 (i := .aload_n 0) (k := 1) (pc' := 6) (lv' := [(0, .ref 101), (1, .int ((xs 1))), (2, .int ((xs 2))), (3, .int ((xs 3)))]) (st' := [.ref 101]) (by decide +kernel) rfl rfl ?_
                refine ab_fin.s2 (i := .iload_n 1) (k := 1) (pc' := 7) (lv' := [(0, .ref 101), (1, .int ((xs 1))), (2, .int ((xs 2))), (3, .int ((xs 3)))]) (st' := [.int ((xs 1)), .ref 101]) (by decide +kernel) rfl rfl ?_
                refine ab_fin.call (i := .invokevirtual 1018) (k := 3) (y := 6001) (As := [.ref 101, .int ((xs 1))]) (rest := []) (M' := (mX23_isKind, [])) (by decide +kernel) (ab_cv rfl rfl (ab_ov_get (lt0 101 (by decide)) rfl) ⟨(Nat.le_of_ble_eq_true rfl), (Nat.le_of_ble_eq_true rfl)⟩ rfl) rfl (Nat.le_of_ble_eq_true rfl) ?_
                show ab_fin _ _ _ _ 0 [(0, .ref 101), (1, .int ((xs 1)))] [] _ _
                refine ab_fin.s2 (i := .iload_n 1) (k := 1) (pc' := 1) (lv' := [(0, .ref 101), (1, .int ((xs 1)))]) (st' := [.int ((xs 1))]) (by decide +kernel) rfl rfl ?_
                refine ab_fin.brF (c := (xs 1) < 0) (i := .ifCond .lt 15) (off := 15) (t := 16) (pc' := 4) (r := []) (by decide +kernel) rfl (by decide +kernel) rfl (by have l0 : (0 : Int32).toInt = 0 := rfl; have l2 : (2 : Int32).toInt = 2 := rfl; have l3 : (3 : Int32).toInt = 3 := rfl; simp only [← Int32.toInt_inj, Int32.lt_iff_toInt_lt, Int32.le_iff_toInt_le, l0, l2, l3] at q1 q2 q3 q4 q5 q6 q54 ⊢; omega) ?_
                refine ab_fin.s2 (i := .iload_n 1) (k := 1) (pc' := 5) (lv' := [(0, .ref 101), (1, .int ((xs 1)))]) (st' := [.int ((xs 1))]) (by decide +kernel) rfl rfl ?_
                refine ab_fin.s2 (i := .aload_n 0) (k := 1) (pc' := 6) (lv' := [(0, .ref 101), (1, .int ((xs 1)))]) (st' := [.ref 101, .int ((xs 1))]) (by decide +kernel) rfl rfl ?_
                refine ab_fin.getf (ix := 13) (k := 4) (v := .int 3) (pc' := 9) (by decide +kernel) rfl (ab_ov_get (lt0 101 (by decide)) rfl) rfl rfl ?_
                refine ab_fin.brF (c := (3 : Int32) ≤ (xs 1)) (i := .if_icmp .ge 7) (off := 7) (t := 16) (pc' := 12) (r := []) (by decide +kernel) rfl (by decide +kernel) rfl (by have l0 : (0 : Int32).toInt = 0 := rfl; have l2 : (2 : Int32).toInt = 2 := rfl; have l3 : (3 : Int32).toInt = 3 := rfl; simp only [← Int32.toInt_inj, Int32.lt_iff_toInt_lt, Int32.le_iff_toInt_le, l0, l2, l3] at q1 q2 q3 q4 q5 q6 q54 ⊢; omega) ?_
                refine ab_fin.s1i (i := .iconst 1) (k := 1) (pc' := 13) (n := 1) (by decide +kernel) rfl (by decide +kernel) rfl ?_
                refine ab_fin.s3 (i := .goto 4) (k := 3) (t := 17) (st' := [.int 1]) (by decide +kernel) (ab_goto (by decide +kernel)) ?_
                refine ab_fin.ret (i := .ireturn) (k := 1) (some (.int 1)) (by decide +kernel) rfl ?_
                refine ab_bk.back (pc' := 10) (st' := [.int 1]) rfl rfl ?_
                refine ab_fin.brF (c := (1 : Int32) = 0) (i := .ifCond .eq 7) (off := 7) (t := 17) (pc' := 13) (r := []) (by decide +kernel) rfl (by decide +kernel) rfl (by decide +kernel) ?_
                refine ab_fin.s2 (i := .iload_n 3) (k := 1) (pc' := 14) (lv' := [(0, .ref 101), (1, .int ((xs 1))), (2, .int ((xs 2))), (3, .int ((xs 3)))]) (st' := [.int ((xs 3))]) (by decide +kernel) rfl rfl ?_
                refine ab_fin.brT (c := 0 ≤ (xs 3)) (i := .ifCond .ge 9) (off := 9) (t := 23) (r := []) (by decide +kernel) rfl (by decide +kernel) (by have l0 : (0 : Int32).toInt = 0 := rfl; have l2 : (2 : Int32).toInt = 2 := rfl; have l3 : (3 : Int32).toInt = 3 := rfl; simp only [← Int32.toInt_inj, Int32.lt_iff_toInt_lt, Int32.le_iff_toInt_le, l0, l2, l3] at q1 q2 q3 q4 q5 q6 q54 ⊢; omega) ?_
                refine ab_fin.s2 (i := .iload_n 2) (k := 1) (pc' := 24) (lv' := [(0, .ref 101), (1, .int ((xs 1))), (2, .int ((xs 2))), (3, .int ((xs 3)))]) (st' := [.int ((xs 2))]) (by decide +kernel) rfl rfl ?_
                refine ab_fin.brF (c := (xs 2) < 0) (i := .ifCond .lt 8) (off := 8) (t := 32) (pc' := 27) (r := []) (by decide +kernel) rfl (by decide +kernel) rfl (by have l0 : (0 : Int32).toInt = 0 := rfl; have l2 : (2 : Int32).toInt = 2 := rfl; have l3 : (3 : Int32).toInt = 3 := rfl; simp only [← Int32.toInt_inj, Int32.lt_iff_toInt_lt, Int32.le_iff_toInt_le, l0, l2, l3] at q1 q2 q3 q4 q5 q6 q54 ⊢; omega) ?_
                refine ab_fin.s2 (i := .iload_n 2) (k := 1) (pc' := 28) (lv' := [(0, .ref 101), (1, .int ((xs 1))), (2, .int ((xs 2))), (3, .int ((xs 3)))]) (st' := [.int ((xs 2))]) (by decide +kernel) rfl rfl ?_
                refine ab_fin.s1i (i := .iconst 2) (k := 1) (pc' := 29) (n := 2) (by decide +kernel) rfl (by decide +kernel) rfl ?_
                refine ab_fin.brT (c := (xs 2) ≤ (2 : Int32)) (i := .if_icmp .le 9) (off := 9) (t := 38) (r := []) (by decide +kernel) rfl (by decide +kernel) (by have l0 : (0 : Int32).toInt = 0 := rfl; have l2 : (2 : Int32).toInt = 2 := rfl; have l3 : (3 : Int32).toInt = 3 := rfl; simp only [← Int32.toInt_inj, Int32.lt_iff_toInt_lt, Int32.le_iff_toInt_le, l0, l2, l3] at q1 q2 q3 q4 q5 q6 q54 ⊢; omega) ?_
                refine ab_fin.s2 (i := .iload_n 3) (k := 1) (pc' := 39) (lv' := [(0, .ref 101), (1, .int ((xs 1))), (2, .int ((xs 2))), (3, .int ((xs 3)))]) (st' := [.int ((xs 3))]) (by decide +kernel) rfl rfl ?_
                refine ab_fin.s2 (i := .aload_n 0) (k := 1) (pc' := 40) (lv' := [(0, .ref 101), (1, .int ((xs 1))), (2, .int ((xs 2))), (3, .int ((xs 3)))]) (st' := [.ref 101, .int ((xs 3))]) (by decide +kernel) rfl rfl ?_
                refine ab_fin.getf (ix := 17) (k := 0) (v := .ref 102) (pc' := 43) (by decide +kernel) rfl (ab_ov_get (lt0 101 (by decide)) rfl) rfl rfl ?_
                refine ab_fin.s2 (i := .iload_n 1) (k := 1) (pc' := 44) (lv' := [(0, .ref 101), (1, .int ((xs 1))), (2, .int ((xs 2))), (3, .int ((xs 3)))]) (st' := [.int ((xs 1)), .ref 102, .int ((xs 3))]) (by decide +kernel) rfl rfl ?_
                have q55 : (xs 1) = 2 := (by have l0 : (0 : Int32).toInt = 0 := rfl; have l2 : (2 : Int32).toInt = 2 := rfl; have l3 : (3 : Int32).toInt = 3 := rfl; simp only [← Int32.toInt_inj, Int32.lt_iff_toInt_lt, Int32.le_iff_toInt_le, l0, l2, l3] at q1 q2 q3 q4 q5 q6 q54 ⊢; omega)
                rw [q55]
                refine ab_fin.aald (v := .ref 2312) (pc' := 45) (by decide +kernel) (ab_ov_no f_102 rfl) (by decide) rfl (ab_bd (n := 24) (by rw [p1_n102]) (by decide +kernel)) rfl rfl ?_
                refine ab_fin.getf (ix := 79) (k := 5) (v := .ref 2320) (pc' := 48) (by decide +kernel) rfl (ab_ov_no f_2312 rfl) rfl rfl ?_
                refine ab_fin.s2 (i := .iload_n 2) (k := 1) (pc' := 49) (lv' := [(0, .ref 101), (1, .int 2), (2, .int ((xs 2))), (3, .int ((xs 3)))]) (st' := [.int ((xs 2)), .ref 2320, .int ((xs 3))]) (by decide +kernel) rfl rfl ?_
                have q56 : (xs 2) = 0 ∨ (xs 2) = 1 ∨ (xs 2) = 2 := (by have l0 : (0 : Int32).toInt = 0 := rfl; have l1 : (1 : Int32).toInt = 1 := rfl; have l2 : (2 : Int32).toInt = 2 := rfl; have l3 : (3 : Int32).toInt = 3 := rfl; simp only [← Int32.toInt_inj, Int32.lt_iff_toInt_lt, Int32.le_iff_toInt_le, l0, l1, l2, l3] at q1 q2 q3 q4 q5 q6 q54 q55 ⊢; omega)
                rcases q56 with q56 | q56 | q56
                · rw [q56]
                  refine ab_fin.iald (v := 2) (pc' := 50) (by decide +kernel) (ab_ov_no f_2320 rfl) (ab_bd (n := 3) (by rw [List.length_replicate]) (by decide +kernel)) rfl rfl ?_
                  refine ab_fin.brT (c := (2 : Int32) ≤ (xs 3)) (i := .if_icmp .ge 19) (off := 19) (t := 69) (r := []) (by decide +kernel) rfl (by decide +kernel) (by have l0 : (0 : Int32).toInt = 0 := rfl; have l2 : (2 : Int32).toInt = 2 := rfl; have l3 : (3 : Int32).toInt = 3 := rfl; simp only [← Int32.toInt_inj, Int32.lt_iff_toInt_lt, Int32.le_iff_toInt_le, l0, l2, l3] at q1 q2 q3 q4 q5 q6 q54 q55 q56 ⊢; omega) ?_
                  refine ab_fin.s1i (i := .iconst (-1)) (k := 1) (pc' := 70) (n := (-1)) (by decide +kernel) rfl (by decide +kernel) rfl ?_
                  refine ab_fin.ret (i := .ireturn) (k := 1) (some (.int (-1))) (by decide +kernel) rfl ?_
                  refine ab_bk.back (pc' := 630) (st' := [.int (-1)]) rfl rfl ?_
                  refine ab_fin.s2 (i := .istore 6) (k := 2) (pc' := 632) (lv' := [(6, .int (-1)), (5, .int 0), (4, .int 0), (3, .ref 3466), (2, .ref 101), (1, .ref 0), (0, .retAddr 9)]) (st' := []) (by decide +kernel) rfl rfl ?_
                  refine ab_fin.s2 (i := .aload_n 2) (k := 1) (pc' := 633) (lv' := [(6, .int (-1)), (5, .int 0), (4, .int 0), (3, .ref 3466), (2, .ref 101), (1, .ref 0), (0, .retAddr 9)]) (st' := [.ref 101]) (by decide +kernel) rfl rfl ?_
                  refine ab_fin.call (i := .invokevirtual 75) (k := 3) (y := 5992) (As := [.ref 101]) (rest := []) (M' := (mX23_thrown, [])) (by decide +kernel) (ab_cv rfl rfl (ab_ov_get (lt0 101 (by decide)) rfl) ⟨(Nat.le_of_ble_eq_true rfl), (Nat.le_of_ble_eq_true rfl)⟩ rfl) rfl (Nat.le_of_ble_eq_true rfl) ?_
                  show ab_fin _ _ _ _ 0 [(0, .ref 101)] [] _ _
                  refine ab_fin.s2 (i := .aload_n 0) (k := 1) (pc' := 1) (lv' := [(0, .ref 101)]) (st' := [.ref 101]) (by decide +kernel) rfl rfl ?_
                  refine ab_fin.getf (ix := 1000) (k := 110) (v := .int 0) (pc' := 4) (by decide +kernel) rfl (ab_ov_get (lt0 101 (by decide)) rfl) rfl rfl ?_
                  refine ab_fin.ret (i := .ireturn) (k := 1) (some (.int 0)) (by decide +kernel) rfl ?_
                  refine ab_bk.back (pc' := 636) (st' := [.int 0]) rfl rfl ?_
                  refine ab_fin.s2 (i := .iload 5) (k := 2) (pc' := 638) (lv' := [(6, .int (-1)), (5, .int 0), (4, .int 0), (3, .ref 3466), (2, .ref 101), (1, .ref 0), (0, .retAddr 9)]) (st' := [.int 0, .int 0]) (by decide +kernel) rfl rfl ?_
                  refine ab_fin.brT (c := (0 : Int32) = (0 : Int32)) (i := .if_icmp .eq 5) (off := 5) (t := 643) (r := []) (by decide +kernel) rfl (by decide +kernel) (by decide +kernel) ?_
                  refine ab_fin.s2 (i := .iload 5) (k := 2) (pc' := 645) (lv' := [(6, .int (-1)), (5, .int 0), (4, .int 0), (3, .ref 3466), (2, .ref 101), (1, .ref 0), (0, .retAddr 9)]) (st' := [.int 0]) (by decide +kernel) rfl rfl ?_
                  refine ab_fin.brF (c := ¬ (0 : Int32) = 0) (i := .ifCond .ne 15) (off := 15) (t := 660) (pc' := 648) (r := []) (by decide +kernel) rfl (by decide +kernel) rfl (by decide +kernel) ?_
                  refine ab_fin.s2 (i := .aload_n 3) (k := 1) (pc' := 649) (lv' := [(6, .int (-1)), (5, .int 0), (4, .int 0), (3, .ref 3466), (2, .ref 101), (1, .ref 0), (0, .retAddr 9)]) (st' := [.ref 3466]) (by decide +kernel) rfl rfl ?_
                  refine ab_fin.s1i (i := .iconst 0) (k := 1) (pc' := 650) (n := 0) (by decide +kernel) rfl (by decide +kernel) rfl ?_
                  refine ab_fin.lald (v := (-1)) (pc' := 651) (by decide +kernel) (ab_ov_get (lt0 3466 (by decide)) rfl) (ab_bd (n := 1) (by rw [List.length_set, List.length_replicate]) (by decide +kernel)) rfl rfl ?_
                  refine ab_fin.s2 (i := .iload 6) (k := 2) (pc' := 653) (lv' := [(6, .int (-1)), (5, .int 0), (4, .int 0), (3, .ref 3466), (2, .ref 101), (1, .ref 0), (0, .retAddr 9)]) (st' := [.int (-1), .long (-1)]) (by decide +kernel) rfl rfl ?_
                  refine ab_fin.s1l (i := .i2l) (k := 1) (pc' := 654) (n := (-1)) (by decide +kernel) rfl (by decide +kernel) rfl ?_
                  refine ab_fin.s1i (i := .lcmp) (k := 1) (pc' := 655) (n := 0) (by decide +kernel) rfl (by decide +kernel) rfl ?_
                  refine ab_fin.brT (c := (0 : Int32) = 0) (i := .ifCond .eq 5) (off := 5) (t := 660) (r := []) (by decide +kernel) rfl (by decide +kernel) (by decide +kernel) ?_
                  refine ab_fin.s3 (i := .goto 430) (k := 3) (t := 1090) (st' := []) (by decide +kernel) (ab_goto (by decide +kernel)) ?_
                  refine ab_fin.inc (i := .iinc 4 6) (k := 3) (pc' := 1093) (j := 4) (n := 6) (lv' := [(6, .int (-1)), (5, .int 0), (3, .ref 3466), (2, .ref 101), (1, .ref 0), (0, .retAddr 9)]) (by decide +kernel) rfl (by decide +kernel) rfl ?_
                  refine ab_fin.s3 (i := .goto (-1070)) (k := 3) (t := 23) (st' := []) (by decide +kernel) (ab_goto (by decide +kernel)) ?_
                  refine ab_fin.s2 (i := .iload 4) (k := 2) (pc' := 25) (lv' := [(4, .int 6), (6, .int (-1)), (5, .int 0), (3, .ref 3466), (2, .ref 101), (1, .ref 0), (0, .retAddr 9)]) (st' := [.int 6]) (by decide +kernel) rfl rfl ?_
                  refine ab_fin.s2 (i := .aload_n 0) (k := 1) (pc' := 26) (lv' := [(4, .int 6), (6, .int (-1)), (5, .int 0), (3, .ref 3466), (2, .ref 101), (1, .ref 0), (0, .retAddr 9)]) (st' := [.retAddr 9, .int 6]) (by decide +kernel) rfl rfl ?_
                  refine ab_fin.s8 (i := .arraylength) (k := 1) (pc' := 27) (st' := [.int 6, .int 6]) (by decide +kernel) rfl rfl rfl rfl ?_
                  refine ab_fin.s1i (i := .bipush 6) (k := 2) (pc' := 29) (n := 6) (by decide +kernel) rfl (by decide +kernel) rfl ?_
                  refine ab_fin.s1i (i := .isub) (k := 1) (pc' := 30) (n := 0) (by decide +kernel) rfl (by decide +kernel) rfl ?_
                  refine ab_fin.brT (c := (0 : Int32) < (6 : Int32)) (i := .if_icmp .gt 1066) (off := 1066) (t := 1096) (r := []) (by decide +kernel) rfl (by decide +kernel) (by decide +kernel) ?_
                  refine ab_fin.s1i (i := .iconst 1) (k := 1) (pc' := 1097) (n := 1) (by decide +kernel) rfl (by decide +kernel) rfl ?_
                  refine ab_fin.ret (i := .ireturn) (k := 1) (some (.int 1)) (by decide +kernel) rfl ?_
                  refine ⟨rfl, ?_, ?_⟩
                  · rw [ab_ov_len, hl]; decide
                  · refine Nat.le_trans (ab_ov_z _ _) ?_
                    simp only [List.map, List.sum_cons, List.sum_nil, ab_z1, ab_len, List.length_set, List.length_replicate, List.length_cons, List.length_nil, p1_n101]
                    omega
                · rw [q56]
                  refine ab_fin.iald (v := 2) (pc' := 50) (by decide +kernel) (ab_ov_no f_2320 rfl) (ab_bd (n := 3) (by rw [List.length_replicate]) (by decide +kernel)) rfl rfl ?_
                  refine ab_fin.brT (c := (2 : Int32) ≤ (xs 3)) (i := .if_icmp .ge 19) (off := 19) (t := 69) (r := []) (by decide +kernel) rfl (by decide +kernel) (by have l0 : (0 : Int32).toInt = 0 := rfl; have l1 : (1 : Int32).toInt = 1 := rfl; have l2 : (2 : Int32).toInt = 2 := rfl; have l3 : (3 : Int32).toInt = 3 := rfl; simp only [← Int32.toInt_inj, Int32.lt_iff_toInt_lt, Int32.le_iff_toInt_le, l0, l1, l2, l3] at q1 q2 q3 q4 q5 q6 q54 q55 q56 ⊢; omega) ?_
                  refine ab_fin.s1i (i := .iconst (-1)) (k := 1) (pc' := 70) (n := (-1)) (by decide +kernel) rfl (by decide +kernel) rfl ?_
                  refine ab_fin.ret (i := .ireturn) (k := 1) (some (.int (-1))) (by decide +kernel) rfl ?_
                  refine ab_bk.back (pc' := 630) (st' := [.int (-1)]) rfl rfl ?_
                  refine ab_fin.s2 (i := .istore 6) (k := 2) (pc' := 632) (lv' := [(6, .int (-1)), (5, .int 0), (4, .int 0), (3, .ref 3466), (2, .ref 101), (1, .ref 0), (0, .retAddr 9)]) (st' := []) (by decide +kernel) rfl rfl ?_
                  refine ab_fin.s2 (i := .aload_n 2) (k := 1) (pc' := 633) (lv' := [(6, .int (-1)), (5, .int 0), (4, .int 0), (3, .ref 3466), (2, .ref 101), (1, .ref 0), (0, .retAddr 9)]) (st' := [.ref 101]) (by decide +kernel) rfl rfl ?_
                  refine ab_fin.call (i := .invokevirtual 75) (k := 3) (y := 5992) (As := [.ref 101]) (rest := []) (M' := (mX23_thrown, [])) (by decide +kernel) (ab_cv rfl rfl (ab_ov_get (lt0 101 (by decide)) rfl) ⟨(Nat.le_of_ble_eq_true rfl), (Nat.le_of_ble_eq_true rfl)⟩ rfl) rfl (Nat.le_of_ble_eq_true rfl) ?_
                  show ab_fin _ _ _ _ 0 [(0, .ref 101)] [] _ _
                  refine ab_fin.s2 (i := .aload_n 0) (k := 1) (pc' := 1) (lv' := [(0, .ref 101)]) (st' := [.ref 101]) (by decide +kernel) rfl rfl ?_
                  refine ab_fin.getf (ix := 1000) (k := 110) (v := .int 0) (pc' := 4) (by decide +kernel) rfl (ab_ov_get (lt0 101 (by decide)) rfl) rfl rfl ?_
                  refine ab_fin.ret (i := .ireturn) (k := 1) (some (.int 0)) (by decide +kernel) rfl ?_
                  refine ab_bk.back (pc' := 636) (st' := [.int 0]) rfl rfl ?_
                  refine ab_fin.s2 (i := .iload 5) (k := 2) (pc' := 638) (lv' := [(6, .int (-1)), (5, .int 0), (4, .int 0), (3, .ref 3466), (2, .ref 101), (1, .ref 0), (0, .retAddr 9)]) (st' := [.int 0, .int 0]) (by decide +kernel) rfl rfl ?_
                  refine ab_fin.brT (c := (0 : Int32) = (0 : Int32)) (i := .if_icmp .eq 5) (off := 5) (t := 643) (r := []) (by decide +kernel) rfl (by decide +kernel) (by decide +kernel) ?_
                  refine ab_fin.s2 (i := .iload 5) (k := 2) (pc' := 645) (lv' := [(6, .int (-1)), (5, .int 0), (4, .int 0), (3, .ref 3466), (2, .ref 101), (1, .ref 0), (0, .retAddr 9)]) (st' := [.int 0]) (by decide +kernel) rfl rfl ?_
                  refine ab_fin.brF (c := ¬ (0 : Int32) = 0) (i := .ifCond .ne 15) (off := 15) (t := 660) (pc' := 648) (r := []) (by decide +kernel) rfl (by decide +kernel) rfl (by decide +kernel) ?_
                  refine ab_fin.s2 (i := .aload_n 3) (k := 1) (pc' := 649) (lv' := [(6, .int (-1)), (5, .int 0), (4, .int 0), (3, .ref 3466), (2, .ref 101), (1, .ref 0), (0, .retAddr 9)]) (st' := [.ref 3466]) (by decide +kernel) rfl rfl ?_
                  refine ab_fin.s1i (i := .iconst 0) (k := 1) (pc' := 650) (n := 0) (by decide +kernel) rfl (by decide +kernel) rfl ?_
                  refine ab_fin.lald (v := (-1)) (pc' := 651) (by decide +kernel) (ab_ov_get (lt0 3466 (by decide)) rfl) (ab_bd (n := 1) (by rw [List.length_set, List.length_replicate]) (by decide +kernel)) rfl rfl ?_
                  refine ab_fin.s2 (i := .iload 6) (k := 2) (pc' := 653) (lv' := [(6, .int (-1)), (5, .int 0), (4, .int 0), (3, .ref 3466), (2, .ref 101), (1, .ref 0), (0, .retAddr 9)]) (st' := [.int (-1), .long (-1)]) (by decide +kernel) rfl rfl ?_
                  refine ab_fin.s1l (i := .i2l) (k := 1) (pc' := 654) (n := (-1)) (by decide +kernel) rfl (by decide +kernel) rfl ?_
                  refine ab_fin.s1i (i := .lcmp) (k := 1) (pc' := 655) (n := 0) (by decide +kernel) rfl (by decide +kernel) rfl ?_
                  refine ab_fin.brT (c := (0 : Int32) = 0) (i := .ifCond .eq 5) (off := 5) (t := 660) (r := []) (by decide +kernel) rfl (by decide +kernel) (by decide +kernel) ?_
                  refine ab_fin.s3 (i := .goto 430) (k := 3) (t := 1090) (st' := []) (by decide +kernel) (ab_goto (by decide +kernel)) ?_
                  refine ab_fin.inc (i := .iinc 4 6) (k := 3) (pc' := 1093) (j := 4) (n := 6) (lv' := [(6, .int (-1)), (5, .int 0), (3, .ref 3466), (2, .ref 101), (1, .ref 0), (0, .retAddr 9)]) (by decide +kernel) rfl (by decide +kernel) rfl ?_
                  refine ab_fin.s3 (i := .goto (-1070)) (k := 3) (t := 23) (st' := []) (by decide +kernel) (ab_goto (by decide +kernel)) ?_
                  refine ab_fin.s2 (i := .iload 4) (k := 2) (pc' := 25) (lv' := [(4, .int 6), (6, .int (-1)), (5, .int 0), (3, .ref 3466), (2, .ref 101), (1, .ref 0), (0, .retAddr 9)]) (st' := [.int 6]) (by decide +kernel) rfl rfl ?_
                  refine ab_fin.s2 (i := .aload_n 0) (k := 1) (pc' := 26) (lv' := [(4, .int 6), (6, .int (-1)), (5, .int 0), (3, .ref 3466), (2, .ref 101), (1, .ref 0), (0, .retAddr 9)]) (st' := [.retAddr 9, .int 6]) (by decide +kernel) rfl rfl ?_
                  refine ab_fin.s8 (i := .arraylength) (k := 1) (pc' := 27) (st' := [.int 6, .int 6]) (by decide +kernel) rfl rfl rfl rfl ?_
                  refine ab_fin.s1i (i := .bipush 6) (k := 2) (pc' := 29) (n := 6) (by decide +kernel) rfl (by decide +kernel) rfl ?_
                  refine ab_fin.s1i (i := .isub) (k := 1) (pc' := 30) (n := 0) (by decide +kernel) rfl (by decide +kernel) rfl ?_
                  refine ab_fin.brT (c := (0 : Int32) < (6 : Int32)) (i := .if_icmp .gt 1066) (off := 1066) (t := 1096) (r := []) (by decide +kernel) rfl (by decide +kernel) (by decide +kernel) ?_
                  refine ab_fin.s1i (i := .iconst 1) (k := 1) (pc' := 1097) (n := 1) (by decide +kernel) rfl (by decide +kernel) rfl ?_
                  refine ab_fin.ret (i := .ireturn) (k := 1) (some (.int 1)) (by decide +kernel) rfl ?_
                  refine ⟨rfl, ?_, ?_⟩
                  · rw [ab_ov_len, hl]; decide
                  · refine Nat.le_trans (ab_ov_z _ _) ?_
                    simp only [List.map, List.sum_cons, List.sum_nil, ab_z1, ab_len, List.length_set, List.length_replicate, List.length_cons, List.length_nil, p1_n101]
                    omega
                · rw [q56]
                  refine ab_fin.iald (v := 2) (pc' := 50) (by decide +kernel) (ab_ov_no f_2320 rfl) (ab_bd (n := 3) (by rw [List.length_replicate]) (by decide +kernel)) rfl rfl ?_
                  refine ab_fin.brT (c := (2 : Int32) ≤ (xs 3)) (i := .if_icmp .ge 19) (off := 19) (t := 69) (r := []) (by decide +kernel) rfl (by decide +kernel) (by have l0 : (0 : Int32).toInt = 0 := rfl; have l2 : (2 : Int32).toInt = 2 := rfl; have l3 : (3 : Int32).toInt = 3 := rfl; simp only [← Int32.toInt_inj, Int32.lt_iff_toInt_lt, Int32.le_iff_toInt_le, l0, l2, l3] at q1 q2 q3 q4 q5 q6 q54 q55 q56 ⊢; omega) ?_
                  refine ab_fin.s1i (i := .iconst (-1)) (k := 1) (pc' := 70) (n := (-1)) (by decide +kernel) rfl (by decide +kernel) rfl ?_
                  refine ab_fin.ret (i := .ireturn) (k := 1) (some (.int (-1))) (by decide +kernel) rfl ?_
                  refine ab_bk.back (pc' := 630) (st' := [.int (-1)]) rfl rfl ?_
                  refine ab_fin.s2 (i := .istore 6) (k := 2) (pc' := 632) (lv' := [(6, .int (-1)), (5, .int 0), (4, .int 0), (3, .ref 3466), (2, .ref 101), (1, .ref 0), (0, .retAddr 9)]) (st' := []) (by decide +kernel) rfl rfl ?_
                  refine ab_fin.s2 (i := .aload_n 2) (k := 1) (pc' := 633) (lv' := [(6, .int (-1)), (5, .int 0), (4, .int 0), (3, .ref 3466), (2, .ref 101), (1, .ref 0), (0, .retAddr 9)]) (st' := [.ref 101]) (by decide +kernel) rfl rfl ?_
                  refine ab_fin.call (i := .invokevirtual 75) (k := 3) (y := 5992) (As := [.ref 101]) (rest := []) (M' := (mX23_thrown, [])) (by decide +kernel) (ab_cv rfl rfl (ab_ov_get (lt0 101 (by decide)) rfl) ⟨(Nat.le_of_ble_eq_true rfl), (Nat.le_of_ble_eq_true rfl)⟩ rfl) rfl (Nat.le_of_ble_eq_true rfl) ?_
                  show ab_fin _ _ _ _ 0 [(0, .ref 101)] [] _ _
                  refine ab_fin.s2 (i := .aload_n 0) (k := 1) (pc' := 1) (lv' := [(0, .ref 101)]) (st' := [.ref 101]) (by decide +kernel) rfl rfl ?_
                  refine ab_fin.getf (ix := 1000) (k := 110) (v := .int 0) (pc' := 4) (by decide +kernel) rfl (ab_ov_get (lt0 101 (by decide)) rfl) rfl rfl ?_
                  refine ab_fin.ret (i := .ireturn) (k := 1) (some (.int 0)) (by decide +kernel) rfl ?_
                  refine ab_bk.back (pc' := 636) (st' := [.int 0]) rfl rfl ?_
                  refine ab_fin.s2 (i := .iload 5) (k := 2) (pc' := 638) (lv' := [(6, .int (-1)), (5, .int 0), (4, .int 0), (3, .ref 3466), (2, .ref 101), (1, .ref 0), (0, .retAddr 9)]) (st' := [.int 0, .int 0]) (by decide +kernel) rfl rfl ?_
                  refine ab_fin.brT (c := (0 : Int32) = (0 : Int32)) (i := .if_icmp .eq 5) (off := 5) (t := 643) (r := []) (by decide +kernel) rfl (by decide +kernel) (by decide +kernel) ?_
                  refine ab_fin.s2 (i := .iload 5) (k := 2) (pc' := 645) (lv' := [(6, .int (-1)), (5, .int 0), (4, .int 0), (3, .ref 3466), (2, .ref 101), (1, .ref 0), (0, .retAddr 9)]) (st' := [.int 0]) (by decide +kernel) rfl rfl ?_
                  refine ab_fin.brF (c := ¬ (0 : Int32) = 0) (i := .ifCond .ne 15) (off := 15) (t := 660) (pc' := 648) (r := []) (by decide +kernel) rfl (by decide +kernel) rfl (by decide +kernel) ?_
                  refine ab_fin.s2 (i := .aload_n 3) (k := 1) (pc' := 649) (lv' := [(6, .int (-1)), (5, .int 0), (4, .int 0), (3, .ref 3466), (2, .ref 101), (1, .ref 0), (0, .retAddr 9)]) (st' := [.ref 3466]) (by decide +kernel) rfl rfl ?_
                  refine ab_fin.s1i (i := .iconst 0) (k := 1) (pc' := 650) (n := 0) (by decide +kernel) rfl (by decide +kernel) rfl ?_
                  refine ab_fin.lald (v := (-1)) (pc' := 651) (by decide +kernel) (ab_ov_get (lt0 3466 (by decide)) rfl) (ab_bd (n := 1) (by rw [List.length_set, List.length_replicate]) (by decide +kernel)) rfl rfl ?_
                  refine ab_fin.s2 (i := .iload 6) (k := 2) (pc' := 653) (lv' := [(6, .int (-1)), (5, .int 0), (4, .int 0), (3, .ref 3466), (2, .ref 101), (1, .ref 0), (0, .retAddr 9)]) (st' := [.int (-1), .long (-1)]) (by decide +kernel) rfl rfl ?_
                  refine ab_fin.s1l (i := .i2l) (k := 1) (pc' := 654) (n := (-1)) (by decide +kernel) rfl (by decide +kernel) rfl ?_
                  refine ab_fin.s1i (i := .lcmp) (k := 1) (pc' := 655) (n := 0) (by decide +kernel) rfl (by decide +kernel) rfl ?_
                  refine ab_fin.brT (c := (0 : Int32) = 0) (i := .ifCond .eq 5) (off := 5) (t := 660) (r := []) (by decide +kernel) rfl (by decide +kernel) (by decide +kernel) ?_
                  refine ab_fin.s3 (i := .goto 430) (k := 3) (t := 1090) (st' := []) (by decide +kernel) (ab_goto (by decide +kernel)) ?_
                  refine ab_fin.inc (i := .iinc 4 6) (k := 3) (pc' := 1093) (j := 4) (n := 6) (lv' := [(6, .int (-1)), (5, .int 0), (3, .ref 3466), (2, .ref 101), (1, .ref 0), (0, .retAddr 9)]) (by decide +kernel) rfl (by decide +kernel) rfl ?_
                  refine ab_fin.s3 (i := .goto (-1070)) (k := 3) (t := 23) (st' := []) (by decide +kernel) (ab_goto (by decide +kernel)) ?_
                  refine ab_fin.s2 (i := .iload 4) (k := 2) (pc' := 25) (lv' := [(4, .int 6), (6, .int (-1)), (5, .int 0), (3, .ref 3466), (2, .ref 101), (1, .ref 0), (0, .retAddr 9)]) (st' := [.int 6]) (by decide +kernel) rfl rfl ?_
                  refine ab_fin.s2 (i := .aload_n 0) (k := 1) (pc' := 26) (lv' := [(4, .int 6), (6, .int (-1)), (5, .int 0), (3, .ref 3466), (2, .ref 101), (1, .ref 0), (0, .retAddr 9)]) (st' := [.retAddr 9, .int 6]) (by decide +kernel) rfl rfl ?_
                  refine ab_fin.s8 (i := .arraylength) (k := 1) (pc' := 27) (st' := [.int 6, .int 6]) (by decide +kernel) rfl rfl rfl rfl ?_
                  refine ab_fin.s1i (i := .bipush 6) (k := 2) (pc' := 29) (n := 6) (by decide +kernel) rfl (by decide +kernel) rfl ?_
                  refine ab_fin.s1i (i := .isub) (k := 1) (pc' := 30) (n := 0) (by decide +kernel) rfl (by decide +kernel) rfl ?_
                  refine ab_fin.brT (c := (0 : Int32) < (6 : Int32)) (i := .if_icmp .gt 1066) (off := 1066) (t := 1096) (r := []) (by decide +kernel) rfl (by decide +kernel) (by decide +kernel) ?_
                  refine ab_fin.s1i (i := .iconst 1) (k := 1) (pc' := 1097) (n := 1) (by decide +kernel) rfl (by decide +kernel) rfl ?_
                  refine ab_fin.ret (i := .ireturn) (k := 1) (some (.int 1)) (by decide +kernel) rfl ?_
                  refine ⟨rfl, ?_, ?_⟩
                  · rw [ab_ov_len, hl]; decide
                  · refine Nat.le_trans (ab_ov_z _ _) ?_
                    simp only [List.map, List.sum_cons, List.sum_nil, ab_z1, ab_len, List.length_set, List.length_replicate, List.length_cons, List.length_nil, p1_n101]
                    omega
              · refine ab_fin.s2 (i := .aload_n 0) (k := 1) (pc' := 57) (lv' := [(0, .ref 0), (1, .int 2), (2, .int ((xs 2))), (3, .int ((xs 3)))]) (st' := [.ref 0]) (by decide +kernel) rfl rfl ?_
                refine ab_fin.getf (ix := 10) (k := 0) (v := .ref 1) (pc' := 60) (by decide +kernel) rfl (ab_ov_no f_0 rfl) rfl rfl ?_
                refine ab_fin.getf (ix := 160) (k := 0) (v := .ref 2) (pc' := 63) (by decide +kernel) rfl (ab_ov_no f_1 rfl) rfl rfl ?_
                refine ab_fin.s2 (i := .iload_n 2) (k := 1) (pc' := 64) (lv' := [(0, .ref 0), (1, .int 2), (2, .int ((xs 2))), (3, .int ((xs 3)))]) (st' := [.int ((xs 2)), .ref 2]) (by decide +kernel) rfl rfl ?_
                refine ab_fin.s2 (i := .iload_n 1) (k := 1) (pc' := 65) (lv' := [(0, .ref 0), (1, .int 2), (2, .int ((xs 2))), (3, .int ((xs 3)))]) (st' := [.int 2, .int ((xs 2)), .ref 2]) (by decide +kernel) rfl rfl ?_
                refine ab_fin.s2 (i := .iload_n 3) (k := 1) (pc' := 66) (lv' := [(0, .ref 0), (1, .int 2), (2, .int ((xs 2))), (3, .int ((xs 3)))]) (st' := [.int ((xs 3)), .int 2, .int ((xs 2)), .ref 2]) (by decide +kernel) rfl rfl ?_
                refine ab_fin.call (i := .invokevirtual 173) (k := 3) (y := 514) (As := [.ref 2, .int ((xs 2)), .int 2, .int ((xs 3))]) (rest := []) (M' := (mX2_inRow, [])) (by decide +kernel) (ab_cv rfl rfl (ab_ov_no f_2 rfl) ⟨(Nat.le_of_ble_eq_true rfl), (Nat.le_of_ble_eq_true rfl)⟩ rfl) rfl (Nat.le_of_ble_eq_true rfl) ?_
                show ab_fin _ _ _ _ 0 [(0, .ref 2), (1, .int ((xs 2))), (2, .int 2), (3, .int ((xs 3)))] [] _ _
                refine ab_fin.s2 (i := .aload_n 0) (k := 1) (pc' := 1) (lv' := [(0, .ref 2), (1, .int ((xs 2))), (2, .int 2), (3, .int ((xs 3)))]) (st' := [.ref 2]) (by decide +kernel) rfl rfl ?_
                refine ab_fin.getf (ix := 25) (k := 5) (v := .ref 7) (pc' := 4) (by decide +kernel) rfl (ab_ov_no f_2 rfl) rfl rfl ?_
                refine ab_fin.s2 (i := .iload_n 1) (k := 1) (pc' := 5) (lv' := [(0, .ref 2), (1, .int ((xs 2))), (2, .int 2), (3, .int ((xs 3)))]) (st' := [.int ((xs 2)), .ref 7]) (by decide +kernel) rfl rfl ?_
                refine ab_fin.s1i (i := .bipush 24) (k := 2) (pc' := 7) (n := 24) (by decide +kernel) rfl (by decide +kernel) rfl ?_
                refine ab_fin.s1 (i := .imul) (k := 1) (pc' := 8) (st' := [.int (((xs 2) * (24 : Int32))), .ref 7]) (by decide +kernel) rfl rfl ?_
                refine ab_fin.s2 (i := .iload_n 2) (k := 1) (pc' := 9) (lv' := [(0, .ref 2), (1, .int ((xs 2))), (2, .int 2), (3, .int ((xs 3)))]) (st' := [.int 2, .int (((xs 2) * (24 : Int32))), .ref 7]) (by decide +kernel) rfl rfl ?_
                refine ab_fin.s1 (i := .iadd) (k := 1) (pc' := 10) (st' := [.int ((((xs 2) * (24 : Int32)) + (2 : Int32))), .ref 7]) (by decide +kernel) rfl rfl ?_
                refine ab_fin.s1i (i := .bipush 24) (k := 2) (pc' := 12) (n := 24) (by decide +kernel) rfl (by decide +kernel) rfl ?_
                refine ab_fin.s1 (i := .imul) (k := 1) (pc' := 13) (st' := [.int (((((xs 2) * (24 : Int32)) + (2 : Int32)) * (24 : Int32))), .ref 7]) (by decide +kernel) rfl rfl ?_
                refine ab_fin.s2 (i := .iload_n 3) (k := 1) (pc' := 14) (lv' := [(0, .ref 2), (1, .int ((xs 2))), (2, .int 2), (3, .int ((xs 3)))]) (st' := [.int ((xs 3)), .int (((((xs 2) * (24 : Int32)) + (2 : Int32)) * (24 : Int32))), .ref 7]) (by decide +kernel) rfl rfl ?_
                refine ab_fin.s1 (i := .iadd) (k := 1) (pc' := 15) (st' := [.int ((((((xs 2) * (24 : Int32)) + (2 : Int32)) * (24 : Int32)) + (xs 3))), .ref 7]) (by decide +kernel) rfl rfl ?_
                have q57 : (xs 3) = 0 ∨ (xs 3) = 1 := (by have l0 : (0 : Int32).toInt = 0 := rfl; have l1 : (1 : Int32).toInt = 1 := rfl; have l2 : (2 : Int32).toInt = 2 := rfl; have l3 : (3 : Int32).toInt = 3 := rfl; simp only [← Int32.toInt_inj, Int32.lt_iff_toInt_lt, Int32.le_iff_toInt_le, l0, l1, l2, l3] at q1 q2 q3 q4 q5 q6 q54 ⊢; omega)
                rcases q57 with q57 | q57
                · rw [q57]
                  have q58 : (xs 2) = 0 ∨ (xs 2) = 1 ∨ (xs 2) = 2 := (by have l0 : (0 : Int32).toInt = 0 := rfl; have l1 : (1 : Int32).toInt = 1 := rfl; have l2 : (2 : Int32).toInt = 2 := rfl; have l3 : (3 : Int32).toInt = 3 := rfl; simp only [← Int32.toInt_inj, Int32.lt_iff_toInt_lt, Int32.le_iff_toInt_le, l0, l1, l2, l3] at q1 q2 q3 q4 q5 q6 q54 q57 ⊢; omega)
                  rcases q58 with q58 | q58 | q58
                  · rw [q58]
                    try rw [show ((((0 * (24 : Int32)) + (2 : Int32)) * (24 : Int32)) + 0) = (48 : Int32) by decide +kernel]
                    refine ab_fin.iald (v := 2) (pc' := 16) (by decide +kernel) (ab_ov_no f_7 rfl) (ab_bd (n := 1728) (by rw [p1_n7]) (by decide +kernel)) rfl rfl ?_
                    refine ab_fin.ret (i := .ireturn) (k := 1) (some (.int 2)) (by decide +kernel) rfl ?_
                    refine ab_bk.back (pc' := 69) (st' := [.int 2]) rfl rfl ?_
                    refine ab_fin.s3 (i := .goto 4) (k := 3) (t := 73) (st' := [.int 2]) (by decide +kernel) (ab_goto (by decide +kernel)) ?_
                    refine ab_fin.ret (i := .ireturn) (k := 1) (some (.int 2)) (by decide +kernel) rfl ?_
                    refine ab_bk.back (pc' := 10) (st' := [.int 2, .int 0, .ref 3466]) rfl rfl ?_
                    refine ab_fin.s1l (i := .i2l) (k := 1) (pc' := 11) (n := 2) (by decide +kernel) rfl (by decide +kernel) rfl ?_
                    refine ab_fin.last (h1 := ab_ov h [(3466, .inr (.inl (1, .inr (.inl ((List.replicate 1 0).set 0 (2))))))]) (pc' := 12) (by decide +kernel) (ab_ov_no f_3466 rfl) (ab_bd (n := 1) (by rw [List.length_replicate]) (by decide +kernel)) (ab_ov_set rfl) rfl ?_
                    refine ab_fin.s3 (i := .goto 11) (k := 3) (t := 23) (st' := []) (by decide +kernel) (ab_goto (by decide +kernel)) ?_
                    refine ab_fin.s1i (i := .iconst 0) (k := 1) (pc' := 24) (n := 0) (by decide +kernel) rfl (by decide +kernel) rfl ?_
                    refine ab_fin.ret (i := .ireturn) (k := 1) (some (.int 0)) (by decide +kernel) rfl ?_
                    refine ab_bk.back (pc' := 606) (st' := [.int 0]) rfl rfl ?_
                    refine ab_fin.s2 (i := .istore 5) (k := 2) (pc' := 608) (lv' := [(5, .int 0), (4, .int 0), (3, .ref 3466), (2, .ref 101), (1, .ref 0), (0, .retAddr 9)]) (st' := []) (by decide +kernel) rfl rfl ?_
                    refine ab_fin.s2 (i := .aload_n 2) (k := 1) (pc' := 609) (lv' := [(5, .int 0), (4, .int 0), (3, .ref 3466), (2, .ref 101), (1, .ref 0), (0, .retAddr 9)]) (st' := [.ref 101]) (by decide +kernel) rfl rfl ?_
                    refine ab_fin.s2 (i := .aload_n 0) (k := 1) (pc' := 610) (lv' := [(5, .int 0), (4, .int 0), (3, .ref 3466), (2, .ref 101), (1, .ref 0), (0, .retAddr 9)]) (st' := [.retAddr 9, .ref 101]) (by decide +kernel) rfl rfl ?_
                    refine ab_fin.s2 (i := .iload 4) (k := 2) (pc' := 612) (lv' := [(5, .int 0), (4, .int 0), (3, .ref 3466), (2, .ref 101), (1, .ref 0), (0, .retAddr 9)]) (st' := [.int 0, .retAddr 9, .ref 101]) (by decide +kernel) rfl rfl ?_
                    refine ab_fin.s1i (i := .iconst 1) (k := 1) (pc' := 613) (n := 1) (by decide +kernel) rfl (by decide +kernel) rfl ?_
                    refine ab_fin.s1i (i := .iadd) (k := 1) (pc' := 614) (n := 1) (by decide +kernel) rfl (by decide +kernel) rfl ?_
                    refine ab_fin.s8 (i := .iaload) (k := 1) (pc' := 615) (st' := [.int ((xs 1)), .ref 101]) (by decide +kernel) (ab_x0 rfl (by decide +kernel) rfl) rfl rfl rfl ?_
                    refine ab_fin.s2 (i := .aload_n 0) (k := 1) (pc' := 616) (lv' := [(5, .int 0), (4, .int 0), (3, .ref 3466), (2, .ref 101), (1, .ref 0), (0, .retAddr 9)]) (st' := [.retAddr 9, .int ((xs 1)), .ref 101]) (by decide +kernel) rfl rfl ?_
                    refine ab_fin.s2 (i := .iload 4) (k := 2) (pc' := 618) (lv' := [(5, .int 0), (4, .int 0), (3, .ref 3466), (2, .ref 101), (1, .ref 0), (0, .retAddr 9)]) (st' := [.int 0, .retAddr 9, .int ((xs 1)), .ref 101]) (by decide +kernel) rfl rfl ?_
                    refine ab_fin.s1i (i := .iconst 2) (k := 1) (pc' := 619) (n := 2) (by decide +kernel) rfl (by decide +kernel) rfl ?_
                    refine ab_fin.s1i (i := .iadd) (k := 1) (pc' := 620) (n := 2) (by decide +kernel) rfl (by decide +kernel) rfl ?_
                    refine ab_fin.s8 (i := .iaload) (k := 1) (pc' := 621) (st' := [.int ((xs 2)), .int ((xs 1)), .ref 101]) (by decide +kernel) (ab_x0 rfl (by decide +kernel) rfl) rfl rfl rfl ?_
                    refine ab_fin.s2 (i := .aload_n 0) (k := 1) (pc' := 622) (lv' := [(5, .int 0), (4, .int 0), (3, .ref 3466), (2, .ref 101), (1, .ref 0), (0, .retAddr 9)]) (st' := [.retAddr 9, .int ((xs 2)), .int ((xs 1)), .ref 101]) (by decide +kernel) rfl rfl ?_
                    refine ab_fin.s2 (i := .iload 4) (k := 2) (pc' := 624) (lv' := [(5, .int 0), (4, .int 0), (3, .ref 3466), (2, .ref 101), (1, .ref 0), (0, .retAddr 9)]) (st' := [.int 0, .retAddr 9, .int ((xs 2)), .int ((xs 1)), .ref 101]) (by decide +kernel) rfl rfl ?_
                    refine ab_fin.s1i (i := .iconst 3) (k := 1) (pc' := 625) (n := 3) (by decide +kernel) rfl (by decide +kernel) rfl ?_
                    refine ab_fin.s1i (i := .iadd) (k := 1) (pc' := 626) (n := 3) (by decide +kernel) rfl (by decide +kernel) rfl ?_
                    refine ab_fin.s8 (i := .iaload) (k := 1) (pc' := 627) (st' := [.int ((xs 3)), .int ((xs 2)), .int ((xs 1)), .ref 101]) (by decide +kernel) (ab_x0 rfl (by decide +kernel) rfl) rfl rfl rfl ?_
                    refine ab_fin.call (i := .invokevirtual 110) (k := 3) (y := 6003) (As := [.ref 101, .int ((xs 1)), .int ((xs 2)), .int ((xs 3))]) (rest := []) (M' := (mX23_row, [])) (by decide +kernel) (ab_cv rfl rfl (ab_ov_no f_101 rfl) ⟨(Nat.le_of_ble_eq_true rfl), (Nat.le_of_ble_eq_true rfl)⟩ rfl) rfl (Nat.le_of_ble_eq_true rfl) ?_
                    show ab_fin _ _ _ _ 0 [(0, .ref 101), (1, .int ((xs 1))), (2, .int ((xs 2))), (3, .int ((xs 3)))] [] _ _
                    refine ab_fin.s2 (i := .aload_n 0) (k := 1) (pc' := 1) (lv' := [(0, .ref 101), (1, .int ((xs 1))), (2, .int ((xs 2))), (3, .int ((xs 3)))]) (st' := [.ref 101]) (by decide +kernel) rfl rfl ?_
                    refine ab_fin.s1i (i := .iconst 0) (k := 1) (pc' := 2) (n := 0) (by decide +kernel) rfl (by decide +kernel) rfl ?_
                    refine ab_fin.putf (ix := 1000) (h1 := ab_ov h [(101, .inr (.inr (24, (p1_o101).set 110 (.int 0)))), (3466, .inr (.inl (1, .inr (.inl ((List.replicate 1 0).set 0 (2))))))]) (pc' := 5) (by decide +kernel) rfl (ab_ov_no f_101 rfl) (ab_klt (n := 115) (by rw [p1_n101]) (by decide)) rfl rfl (ab_ov_set rfl) rfl ?_
                    refine ab_fin.s2 (i := .aload_n 0) (k := 1) (pc' := 6) (lv' := [(0, .ref 101), (1, .int ((xs 1))), (2, .int ((xs 2))), (3, .int ((xs 3)))]) (st' := [.ref 101]) (by decide +kernel) rfl rfl ?_
                    refine ab_fin.s2 (i := .iload_n 1) (k := 1) (pc' := 7) (lv' := [(0, .ref 101), (1, .int ((xs 1))), (2, .int ((xs 2))), (3, .int ((xs 3)))]) (st' := [.int ((xs 1)), .ref 101]) (by decide +kernel) rfl rfl ?_
                    refine ab_fin.call (i := .invokevirtual 1018) (k := 3) (y := 6001) (As := [.ref 101, .int ((xs 1))]) (rest := []) (M' := (mX23_isKind, [])) (by decide +kernel) (ab_cv rfl rfl (ab_ov_get (lt0 101 (by decide)) rfl) ⟨(Nat.le_of_ble_eq_true rfl), (Nat.le_of_ble_eq_true rfl)⟩ rfl) rfl (Nat.le_of_ble_eq_true rfl) ?_
                    show ab_fin _ _ _ _ 0 [(0, .ref 101), (1, .int ((xs 1)))] [] _ _
                    refine ab_fin.s2 (i := .iload_n 1) (k := 1) (pc' := 1) (lv' := [(0, .ref 101), (1, .int ((xs 1)))]) (st' := [.int ((xs 1))]) (by decide +kernel) rfl rfl ?_
                    refine ab_fin.brF (c := (xs 1) < 0) (i := .ifCond .lt 15) (off := 15) (t := 16) (pc' := 4) (r := []) (by decide +kernel) rfl (by decide +kernel) rfl (by have l0 : (0 : Int32).toInt = 0 := rfl; have l2 : (2 : Int32).toInt = 2 := rfl; have l3 : (3 : Int32).toInt = 3 := rfl; simp only [← Int32.toInt_inj, Int32.lt_iff_toInt_lt, Int32.le_iff_toInt_le, l0, l2, l3] at q1 q2 q3 q4 q5 q6 q54 q57 q58 ⊢; omega) ?_
                    refine ab_fin.s2 (i := .iload_n 1) (k := 1) (pc' := 5) (lv' := [(0, .ref 101), (1, .int ((xs 1)))]) (st' := [.int ((xs 1))]) (by decide +kernel) rfl rfl ?_
                    refine ab_fin.s2 (i := .aload_n 0) (k := 1) (pc' := 6) (lv' := [(0, .ref 101), (1, .int ((xs 1)))]) (st' := [.ref 101, .int ((xs 1))]) (by decide +kernel) rfl rfl ?_
                    refine ab_fin.getf (ix := 13) (k := 4) (v := .int 3) (pc' := 9) (by decide +kernel) rfl (ab_ov_get (lt0 101 (by decide)) rfl) rfl rfl ?_
                    refine ab_fin.brF (c := (3 : Int32) ≤ (xs 1)) (i := .if_icmp .ge 7) (off := 7) (t := 16) (pc' := 12) (r := []) (by decide +kernel) rfl (by decide +kernel) rfl (by have l0 : (0 : Int32).toInt = 0 := rfl; have l2 : (2 : Int32).toInt = 2 := rfl; have l3 : (3 : Int32).toInt = 3 := rfl; simp only [← Int32.toInt_inj, Int32.lt_iff_toInt_lt, Int32.le_iff_toInt_le, l0, l2, l3] at q1 q2 q3 q4 q5 q6 q54 q57 q58 ⊢; omega) ?_
                    refine ab_fin.s1i (i := .iconst 1) (k := 1) (pc' := 13) (n := 1) (by decide +kernel) rfl (by decide +kernel) rfl ?_
                    refine ab_fin.s3 (i := .goto 4) (k := 3) (t := 17) (st' := [.int 1]) (by decide +kernel) (ab_goto (by decide +kernel)) ?_
                    refine ab_fin.ret (i := .ireturn) (k := 1) (some (.int 1)) (by decide +kernel) rfl ?_
                    refine ab_bk.back (pc' := 10) (st' := [.int 1]) rfl rfl ?_
                    refine ab_fin.brF (c := (1 : Int32) = 0) (i := .ifCond .eq 7) (off := 7) (t := 17) (pc' := 13) (r := []) (by decide +kernel) rfl (by decide +kernel) rfl (by decide +kernel) ?_
                    refine ab_fin.s2 (i := .iload_n 3) (k := 1) (pc' := 14) (lv' := [(0, .ref 101), (1, .int ((xs 1))), (2, .int ((xs 2))), (3, .int ((xs 3)))]) (st' := [.int ((xs 3))]) (by decide +kernel) rfl rfl ?_
                    refine ab_fin.brT (c := 0 ≤ (xs 3)) (i := .ifCond .ge 9) (off := 9) (t := 23) (r := []) (by decide +kernel) rfl (by decide +kernel) (by have l0 : (0 : Int32).toInt = 0 := rfl; have l2 : (2 : Int32).toInt = 2 := rfl; have l3 : (3 : Int32).toInt = 3 := rfl; simp only [← Int32.toInt_inj, Int32.lt_iff_toInt_lt, Int32.le_iff_toInt_le, l0, l2, l3] at q1 q2 q3 q4 q5 q6 q54 q57 q58 ⊢; omega) ?_
                    refine ab_fin.s2 (i := .iload_n 2) (k := 1) (pc' := 24) (lv' := [(0, .ref 101), (1, .int ((xs 1))), (2, .int ((xs 2))), (3, .int ((xs 3)))]) (st' := [.int ((xs 2))]) (by decide +kernel) rfl rfl ?_
                    refine ab_fin.brF (c := (xs 2) < 0) (i := .ifCond .lt 8) (off := 8) (t := 32) (pc' := 27) (r := []) (by decide +kernel) rfl (by decide +kernel) rfl (by have l0 : (0 : Int32).toInt = 0 := rfl; have l2 : (2 : Int32).toInt = 2 := rfl; have l3 : (3 : Int32).toInt = 3 := rfl; simp only [← Int32.toInt_inj, Int32.lt_iff_toInt_lt, Int32.le_iff_toInt_le, l0, l2, l3] at q1 q2 q3 q4 q5 q6 q54 q57 q58 ⊢; omega) ?_
                    refine ab_fin.s2 (i := .iload_n 2) (k := 1) (pc' := 28) (lv' := [(0, .ref 101), (1, .int ((xs 1))), (2, .int ((xs 2))), (3, .int ((xs 3)))]) (st' := [.int ((xs 2))]) (by decide +kernel) rfl rfl ?_
                    refine ab_fin.s1i (i := .iconst 2) (k := 1) (pc' := 29) (n := 2) (by decide +kernel) rfl (by decide +kernel) rfl ?_
                    refine ab_fin.brT (c := (xs 2) ≤ (2 : Int32)) (i := .if_icmp .le 9) (off := 9) (t := 38) (r := []) (by decide +kernel) rfl (by decide +kernel) (by have l0 : (0 : Int32).toInt = 0 := rfl; have l2 : (2 : Int32).toInt = 2 := rfl; have l3 : (3 : Int32).toInt = 3 := rfl; simp only [← Int32.toInt_inj, Int32.lt_iff_toInt_lt, Int32.le_iff_toInt_le, l0, l2, l3] at q1 q2 q3 q4 q5 q6 q54 q57 q58 ⊢; omega) ?_
                    refine ab_fin.s2 (i := .iload_n 3) (k := 1) (pc' := 39) (lv' := [(0, .ref 101), (1, .int ((xs 1))), (2, .int ((xs 2))), (3, .int ((xs 3)))]) (st' := [.int ((xs 3))]) (by decide +kernel) rfl rfl ?_
                    refine ab_fin.s2 (i := .aload_n 0) (k := 1) (pc' := 40) (lv' := [(0, .ref 101), (1, .int ((xs 1))), (2, .int ((xs 2))), (3, .int ((xs 3)))]) (st' := [.ref 101, .int ((xs 3))]) (by decide +kernel) rfl rfl ?_
                    refine ab_fin.getf (ix := 17) (k := 0) (v := .ref 102) (pc' := 43) (by decide +kernel) rfl (ab_ov_get (lt0 101 (by decide)) rfl) rfl rfl ?_
                    refine ab_fin.s2 (i := .iload_n 1) (k := 1) (pc' := 44) (lv' := [(0, .ref 101), (1, .int ((xs 1))), (2, .int ((xs 2))), (3, .int ((xs 3)))]) (st' := [.int ((xs 1)), .ref 102, .int ((xs 3))]) (by decide +kernel) rfl rfl ?_
                    have q60 : (xs 1) = 2 := (by have l0 : (0 : Int32).toInt = 0 := rfl; have l2 : (2 : Int32).toInt = 2 := rfl; have l3 : (3 : Int32).toInt = 3 := rfl; simp only [← Int32.toInt_inj, Int32.lt_iff_toInt_lt, Int32.le_iff_toInt_le, l0, l2, l3] at q1 q2 q3 q4 q5 q6 q54 q57 q58 ⊢; omega)
                    rw [q60]
                    refine ab_fin.aald (v := .ref 2312) (pc' := 45) (by decide +kernel) (ab_ov_no f_102 rfl) (by decide) rfl (ab_bd (n := 24) (by rw [p1_n102]) (by decide +kernel)) rfl rfl ?_
                    refine ab_fin.getf (ix := 79) (k := 5) (v := .ref 2320) (pc' := 48) (by decide +kernel) rfl (ab_ov_no f_2312 rfl) rfl rfl ?_
                    refine ab_fin.s2 (i := .iload_n 2) (k := 1) (pc' := 49) (lv' := [(0, .ref 101), (1, .int 2), (2, .int ((xs 2))), (3, .int ((xs 3)))]) (st' := [.int ((xs 2)), .ref 2320, .int ((xs 3))]) (by decide +kernel) rfl rfl ?_
                    have q61 : (xs 2) = 0 := (by have l0 : (0 : Int32).toInt = 0 := rfl; have l2 : (2 : Int32).toInt = 2 := rfl; have l3 : (3 : Int32).toInt = 3 := rfl; simp only [← Int32.toInt_inj, Int32.lt_iff_toInt_lt, Int32.le_iff_toInt_le, l0, l2, l3] at q1 q2 q3 q4 q5 q6 q54 q57 q58 q60 ⊢; omega)
                    rw [q61]
                    refine ab_fin.iald (v := 2) (pc' := 50) (by decide +kernel) (ab_ov_no f_2320 rfl) (ab_bd (n := 3) (by rw [List.length_replicate]) (by decide +kernel)) rfl rfl ?_
                    refine ab_fin.brF (c := (2 : Int32) ≤ (xs 3)) (i := .if_icmp .ge 19) (off := 19) (t := 69) (pc' := 53) (r := []) (by decide +kernel) rfl (by decide +kernel) rfl (by have l0 : (0 : Int32).toInt = 0 := rfl; have l2 : (2 : Int32).toInt = 2 := rfl; have l3 : (3 : Int32).toInt = 3 := rfl; simp only [← Int32.toInt_inj, Int32.lt_iff_toInt_lt, Int32.le_iff_toInt_le, l0, l2, l3] at q1 q2 q3 q4 q5 q6 q54 q57 q58 q60 q61 ⊢; omega) ?_
                    refine ab_fin.s2 (i := .aload_n 0) (k := 1) (pc' := 54) (lv' := [(0, .ref 101), (1, .int 2), (2, .int 0), (3, .int ((xs 3)))]) (st' := [.ref 101]) (by decide +kernel) rfl rfl ?_
                    refine ab_fin.getf (ix := 17) (k := 0) (v := .ref 102) (pc' := 57) (by decide +kernel) rfl (ab_ov_get (lt0 101 (by decide)) rfl) rfl rfl ?_
                    refine ab_fin.s2 (i := .iload_n 1) (k := 1) (pc' := 58) (lv' := [(0, .ref 101), (1, .int 2), (2, .int 0), (3, .int ((xs 3)))]) (st' := [.int 2, .ref 102]) (by decide +kernel) rfl rfl ?_
                    refine ab_fin.aald (v := .ref 2312) (pc' := 59) (by decide +kernel) (ab_ov_no f_102 rfl) (by decide) rfl (ab_bd (n := 24) (by rw [p1_n102]) (by decide +kernel)) rfl rfl ?_
                    refine ab_fin.getf (ix := 86) (k := 4) (v := .ref 2316) (pc' := 62) (by decide +kernel) rfl (ab_ov_no f_2312 rfl) rfl rfl ?_
                    refine ab_fin.s2 (i := .iload_n 2) (k := 1) (pc' := 63) (lv' := [(0, .ref 101), (1, .int 2), (2, .int 0), (3, .int ((xs 3)))]) (st' := [.int 0, .ref 2316]) (by decide +kernel) rfl rfl ?_
                    refine ab_fin.aald (v := .ref 2317) (pc' := 64) (by decide +kernel) (ab_ov_no f_2316 rfl) (by decide) rfl (ab_bd (n := 3) (by rw [p1_n2316]) (by decide +kernel)) rfl rfl ?_
                    refine ab_fin.s2 (i := .iload_n 3) (k := 1) (pc' := 65) (lv' := [(0, .ref 101), (1, .int 2), (2, .int 0), (3, .int ((xs 3)))]) (st' := [.int ((xs 3)), .ref 2317]) (by decide +kernel) rfl rfl ?_
                    have q62 : (xs 3) = 0 := (by have l0 : (0 : Int32).toInt = 0 := rfl; have l2 : (2 : Int32).toInt = 2 := rfl; have l3 : (3 : Int32).toInt = 3 := rfl; simp only [← Int32.toInt_inj, Int32.lt_iff_toInt_lt, Int32.le_iff_toInt_le, l0, l2, l3] at q1 q2 q3 q4 q5 q6 q54 q57 q58 q60 q61 ⊢; omega)
                    rw [q62]
                    refine ab_fin.iald (v := 2) (pc' := 66) (by decide +kernel) (ab_ov_no f_2317 rfl) (ab_bd (n := 24) (by rw [p1_n2317]) (by decide +kernel)) rfl rfl ?_
                    refine ab_fin.s3 (i := .goto 4) (k := 3) (t := 70) (st' := [.int 2]) (by decide +kernel) (ab_goto (by decide +kernel)) ?_
                    refine ab_fin.ret (i := .ireturn) (k := 1) (some (.int 2)) (by decide +kernel) rfl ?_
                    refine ab_bk.back (pc' := 630) (st' := [.int 2]) rfl rfl ?_
                    refine ab_fin.s2 (i := .istore 6) (k := 2) (pc' := 632) (lv' := [(6, .int 2), (5, .int 0), (4, .int 0), (3, .ref 3466), (2, .ref 101), (1, .ref 0), (0, .retAddr 9)]) (st' := []) (by decide +kernel) rfl rfl ?_
                    refine ab_fin.s2 (i := .aload_n 2) (k := 1) (pc' := 633) (lv' := [(6, .int 2), (5, .int 0), (4, .int 0), (3, .ref 3466), (2, .ref 101), (1, .ref 0), (0, .retAddr 9)]) (st' := [.ref 101]) (by decide +kernel) rfl rfl ?_
                    refine ab_fin.call (i := .invokevirtual 75) (k := 3) (y := 5992) (As := [.ref 101]) (rest := []) (M' := (mX23_thrown, [])) (by decide +kernel) (ab_cv rfl rfl (ab_ov_get (lt0 101 (by decide)) rfl) ⟨(Nat.le_of_ble_eq_true rfl), (Nat.le_of_ble_eq_true rfl)⟩ rfl) rfl (Nat.le_of_ble_eq_true rfl) ?_
                    show ab_fin _ _ _ _ 0 [(0, .ref 101)] [] _ _
                    refine ab_fin.s2 (i := .aload_n 0) (k := 1) (pc' := 1) (lv' := [(0, .ref 101)]) (st' := [.ref 101]) (by decide +kernel) rfl rfl ?_
                    refine ab_fin.getf (ix := 1000) (k := 110) (v := .int 0) (pc' := 4) (by decide +kernel) rfl (ab_ov_get (lt0 101 (by decide)) rfl) rfl rfl ?_
                    refine ab_fin.ret (i := .ireturn) (k := 1) (some (.int 0)) (by decide +kernel) rfl ?_
                    refine ab_bk.back (pc' := 636) (st' := [.int 0]) rfl rfl ?_
                    refine ab_fin.s2 (i := .iload 5) (k := 2) (pc' := 638) (lv' := [(6, .int 2), (5, .int 0), (4, .int 0), (3, .ref 3466), (2, .ref 101), (1, .ref 0), (0, .retAddr 9)]) (st' := [.int 0, .int 0]) (by decide +kernel) rfl rfl ?_
                    refine ab_fin.brT (c := (0 : Int32) = (0 : Int32)) (i := .if_icmp .eq 5) (off := 5) (t := 643) (r := []) (by decide +kernel) rfl (by decide +kernel) (by decide +kernel) ?_
                    refine ab_fin.s2 (i := .iload 5) (k := 2) (pc' := 645) (lv' := [(6, .int 2), (5, .int 0), (4, .int 0), (3, .ref 3466), (2, .ref 101), (1, .ref 0), (0, .retAddr 9)]) (st' := [.int 0]) (by decide +kernel) rfl rfl ?_
                    refine ab_fin.brF (c := ¬ (0 : Int32) = 0) (i := .ifCond .ne 15) (off := 15) (t := 660) (pc' := 648) (r := []) (by decide +kernel) rfl (by decide +kernel) rfl (by decide +kernel) ?_
                    refine ab_fin.s2 (i := .aload_n 3) (k := 1) (pc' := 649) (lv' := [(6, .int 2), (5, .int 0), (4, .int 0), (3, .ref 3466), (2, .ref 101), (1, .ref 0), (0, .retAddr 9)]) (st' := [.ref 3466]) (by decide +kernel) rfl rfl ?_
                    refine ab_fin.s1i (i := .iconst 0) (k := 1) (pc' := 650) (n := 0) (by decide +kernel) rfl (by decide +kernel) rfl ?_
                    refine ab_fin.lald (v := 2) (pc' := 651) (by decide +kernel) (ab_ov_get (lt0 3466 (by decide)) rfl) (ab_bd (n := 1) (by rw [List.length_set, List.length_replicate]) (by decide +kernel)) rfl rfl ?_
                    refine ab_fin.s2 (i := .iload 6) (k := 2) (pc' := 653) (lv' := [(6, .int 2), (5, .int 0), (4, .int 0), (3, .ref 3466), (2, .ref 101), (1, .ref 0), (0, .retAddr 9)]) (st' := [.int 2, .long 2]) (by decide +kernel) rfl rfl ?_
                    refine ab_fin.s1l (i := .i2l) (k := 1) (pc' := 654) (n := 2) (by decide +kernel) rfl (by decide +kernel) rfl ?_
                    refine ab_fin.s1i (i := .lcmp) (k := 1) (pc' := 655) (n := 0) (by decide +kernel) rfl (by decide +kernel) rfl ?_
                    refine ab_fin.brT (c := (0 : Int32) = 0) (i := .ifCond .eq 5) (off := 5) (t := 660) (r := []) (by decide +kernel) rfl (by decide +kernel) (by decide +kernel) ?_
                    refine ab_fin.s3 (i := .goto 430) (k := 3) (t := 1090) (st' := []) (by decide +kernel) (ab_goto (by decide +kernel)) ?_
                    refine ab_fin.inc (i := .iinc 4 6) (k := 3) (pc' := 1093) (j := 4) (n := 6) (lv' := [(6, .int 2), (5, .int 0), (3, .ref 3466), (2, .ref 101), (1, .ref 0), (0, .retAddr 9)]) (by decide +kernel) rfl (by decide +kernel) rfl ?_
                    refine ab_fin.s3 (i := .goto (-1070)) (k := 3) (t := 23) (st' := []) (by decide +kernel) (ab_goto (by decide +kernel)) ?_
                    refine ab_fin.s2 (i := .iload 4) (k := 2) (pc' := 25) (lv' := [(4, .int 6), (6, .int 2), (5, .int 0), (3, .ref 3466), (2, .ref 101), (1, .ref 0), (0, .retAddr 9)]) (st' := [.int 6]) (by decide +kernel) rfl rfl ?_
                    refine ab_fin.s2 (i := .aload_n 0) (k := 1) (pc' := 26) (lv' := [(4, .int 6), (6, .int 2), (5, .int 0), (3, .ref 3466), (2, .ref 101), (1, .ref 0), (0, .retAddr 9)]) (st' := [.retAddr 9, .int 6]) (by decide +kernel) rfl rfl ?_
                    refine ab_fin.s8 (i := .arraylength) (k := 1) (pc' := 27) (st' := [.int 6, .int 6]) (by decide +kernel) rfl rfl rfl rfl ?_
                    refine ab_fin.s1i (i := .bipush 6) (k := 2) (pc' := 29) (n := 6) (by decide +kernel) rfl (by decide +kernel) rfl ?_
                    refine ab_fin.s1i (i := .isub) (k := 1) (pc' := 30) (n := 0) (by decide +kernel) rfl (by decide +kernel) rfl ?_
                    refine ab_fin.brT (c := (0 : Int32) < (6 : Int32)) (i := .if_icmp .gt 1066) (off := 1066) (t := 1096) (r := []) (by decide +kernel) rfl (by decide +kernel) (by decide +kernel) ?_
                    refine ab_fin.s1i (i := .iconst 1) (k := 1) (pc' := 1097) (n := 1) (by decide +kernel) rfl (by decide +kernel) rfl ?_
                    refine ab_fin.ret (i := .ireturn) (k := 1) (some (.int 1)) (by decide +kernel) rfl ?_
                    refine ⟨rfl, ?_, ?_⟩
                    · rw [ab_ov_len, hl]; decide
                    · refine Nat.le_trans (ab_ov_z _ _) ?_
                      simp only [List.map, List.sum_cons, List.sum_nil, ab_z1, ab_len, List.length_set, List.length_replicate, List.length_cons, List.length_nil, p1_n101]
                      omega
                  · rw [q58]
                    try rw [show ((((1 * (24 : Int32)) + (2 : Int32)) * (24 : Int32)) + 0) = (624 : Int32) by decide +kernel]
                    refine ab_fin.iald (v := 2) (pc' := 16) (by decide +kernel) (ab_ov_no f_7 rfl) (ab_bd (n := 1728) (by rw [p1_n7]) (by decide +kernel)) rfl rfl ?_
                    refine ab_fin.ret (i := .ireturn) (k := 1) (some (.int 2)) (by decide +kernel) rfl ?_
                    refine ab_bk.back (pc' := 69) (st' := [.int 2]) rfl rfl ?_
                    refine ab_fin.s3 (i := .goto 4) (k := 3) (t := 73) (st' := [.int 2]) (by decide +kernel) (ab_goto (by decide +kernel)) ?_
                    refine ab_fin.ret (i := .ireturn) (k := 1) (some (.int 2)) (by decide +kernel) rfl ?_
                    refine ab_bk.back (pc' := 10) (st' := [.int 2, .int 0, .ref 3466]) rfl rfl ?_
                    refine ab_fin.s1l (i := .i2l) (k := 1) (pc' := 11) (n := 2) (by decide +kernel) rfl (by decide +kernel) rfl ?_
                    refine ab_fin.last (h1 := ab_ov h [(3466, .inr (.inl (1, .inr (.inl ((List.replicate 1 0).set 0 (2))))))]) (pc' := 12) (by decide +kernel) (ab_ov_no f_3466 rfl) (ab_bd (n := 1) (by rw [List.length_replicate]) (by decide +kernel)) (ab_ov_set rfl) rfl ?_
                    refine ab_fin.s3 (i := .goto 11) (k := 3) (t := 23) (st' := []) (by decide +kernel) (ab_goto (by decide +kernel)) ?_
                    refine ab_fin.s1i (i := .iconst 0) (k := 1) (pc' := 24) (n := 0) (by decide +kernel) rfl (by decide +kernel) rfl ?_
                    refine ab_fin.ret (i := .ireturn) (k := 1) (some (.int 0)) (by decide +kernel) rfl ?_
                    refine ab_bk.back (pc' := 606) (st' := [.int 0]) rfl rfl ?_
                    refine ab_fin.s2 (i := .istore 5) (k := 2) (pc' := 608) (lv' := [(5, .int 0), (4, .int 0), (3, .ref 3466), (2, .ref 101), (1, .ref 0), (0, .retAddr 9)]) (st' := []) (by decide +kernel) rfl rfl ?_
                    refine ab_fin.s2 (i := .aload_n 2) (k := 1) (pc' := 609) (lv' := [(5, .int 0), (4, .int 0), (3, .ref 3466), (2, .ref 101), (1, .ref 0), (0, .retAddr 9)]) (st' := [.ref 101]) (by decide +kernel) rfl rfl ?_
                    refine ab_fin.s2 (i := .aload_n 0) (k := 1) (pc' := 610) (lv' := [(5, .int 0), (4, .int 0), (3, .ref 3466), (2, .ref 101), (1, .ref 0), (0, .retAddr 9)]) (st' := [.retAddr 9, .ref 101]) (by decide +kernel) rfl rfl ?_
                    refine ab_fin.s2 (i := .iload 4) (k := 2) (pc' := 612) (lv' := [(5, .int 0), (4, .int 0), (3, .ref 3466), (2, .ref 101), (1, .ref 0), (0, .retAddr 9)]) (st' := [.int 0, .retAddr 9, .ref 101]) (by decide +kernel) rfl rfl ?_
                    refine ab_fin.s1i (i := .iconst 1) (k := 1) (pc' := 613) (n := 1) (by decide +kernel) rfl (by decide +kernel) rfl ?_
                    refine ab_fin.s1i (i := .iadd) (k := 1) (pc' := 614) (n := 1) (by decide +kernel) rfl (by decide +kernel) rfl ?_
                    refine ab_fin.s8 (i := .iaload) (k := 1) (pc' := 615) (st' := [.int ((xs 1)), .ref 101]) (by decide +kernel) (ab_x0 rfl (by decide +kernel) rfl) rfl rfl rfl ?_
                    refine ab_fin.s2 (i := .aload_n 0) (k := 1) (pc' := 616) (lv' := [(5, .int 0), (4, .int 0), (3, .ref 3466), (2, .ref 101), (1, .ref 0), (0, .retAddr 9)]) (st' := [.retAddr 9, .int ((xs 1)), .ref 101]) (by decide +kernel) rfl rfl ?_
                    refine ab_fin.s2 (i := .iload 4) (k := 2) (pc' := 618) (lv' := [(5, .int 0), (4, .int 0), (3, .ref 3466), (2, .ref 101), (1, .ref 0), (0, .retAddr 9)]) (st' := [.int 0, .retAddr 9, .int ((xs 1)), .ref 101]) (by decide +kernel) rfl rfl ?_
                    refine ab_fin.s1i (i := .iconst 2) (k := 1) (pc' := 619) (n := 2) (by decide +kernel) rfl (by decide +kernel) rfl ?_
                    refine ab_fin.s1i (i := .iadd) (k := 1) (pc' := 620) (n := 2) (by decide +kernel) rfl (by decide +kernel) rfl ?_
                    refine ab_fin.s8 (i := .iaload) (k := 1) (pc' := 621) (st' := [.int ((xs 2)), .int ((xs 1)), .ref 101]) (by decide +kernel) (ab_x0 rfl (by decide +kernel) rfl) rfl rfl rfl ?_
                    refine ab_fin.s2 (i := .aload_n 0) (k := 1) (pc' := 622) (lv' := [(5, .int 0), (4, .int 0), (3, .ref 3466), (2, .ref 101), (1, .ref 0), (0, .retAddr 9)]) (st' := [.retAddr 9, .int ((xs 2)), .int ((xs 1)), .ref 101]) (by decide +kernel) rfl rfl ?_
                    refine ab_fin.s2 (i := .iload 4) (k := 2) (pc' := 624) (lv' := [(5, .int 0), (4, .int 0), (3, .ref 3466), (2, .ref 101), (1, .ref 0), (0, .retAddr 9)]) (st' := [.int 0, .retAddr 9, .int ((xs 2)), .int ((xs 1)), .ref 101]) (by decide +kernel) rfl rfl ?_
                    refine ab_fin.s1i (i := .iconst 3) (k := 1) (pc' := 625) (n := 3) (by decide +kernel) rfl (by decide +kernel) rfl ?_
                    refine ab_fin.s1i (i := .iadd) (k := 1) (pc' := 626) (n := 3) (by decide +kernel) rfl (by decide +kernel) rfl ?_
                    refine ab_fin.s8 (i := .iaload) (k := 1) (pc' := 627) (st' := [.int ((xs 3)), .int ((xs 2)), .int ((xs 1)), .ref 101]) (by decide +kernel) (ab_x0 rfl (by decide +kernel) rfl) rfl rfl rfl ?_
                    refine ab_fin.call (i := .invokevirtual 110) (k := 3) (y := 6003) (As := [.ref 101, .int ((xs 1)), .int ((xs 2)), .int ((xs 3))]) (rest := []) (M' := (mX23_row, [])) (by decide +kernel) (ab_cv rfl rfl (ab_ov_no f_101 rfl) ⟨(Nat.le_of_ble_eq_true rfl), (Nat.le_of_ble_eq_true rfl)⟩ rfl) rfl (Nat.le_of_ble_eq_true rfl) ?_
                    show ab_fin _ _ _ _ 0 [(0, .ref 101), (1, .int ((xs 1))), (2, .int ((xs 2))), (3, .int ((xs 3)))] [] _ _
                    refine ab_fin.s2 (i := .aload_n 0) (k := 1) (pc' := 1) (lv' := [(0, .ref 101), (1, .int ((xs 1))), (2, .int ((xs 2))), (3, .int ((xs 3)))]) (st' := [.ref 101]) (by decide +kernel) rfl rfl ?_
                    refine ab_fin.s1i (i := .iconst 0) (k := 1) (pc' := 2) (n := 0) (by decide +kernel) rfl (by decide +kernel) rfl ?_
                    refine ab_fin.putf (ix := 1000) (h1 := ab_ov h [(101, .inr (.inr (24, (p1_o101).set 110 (.int 0)))), (3466, .inr (.inl (1, .inr (.inl ((List.replicate 1 0).set 0 (2))))))]) (pc' := 5) (by decide +kernel) rfl (ab_ov_no f_101 rfl) (ab_klt (n := 115) (by rw [p1_n101]) (by decide)) rfl rfl (ab_ov_set rfl) rfl ?_
                    refine ab_fin.s2 (i := .aload_n 0) (k := 1) (pc' := 6) (lv' := [(0, .ref 101), (1, .int ((xs 1))), (2, .int ((xs 2))), (3, .int ((xs 3)))]) (st' := [.ref 101]) (by decide +kernel) rfl rfl ?_
                    refine ab_fin.s2 (i := .iload_n 1) (k := 1) (pc' := 7) (lv' := [(0, .ref 101), (1, .int ((xs 1))), (2, .int ((xs 2))), (3, .int ((xs 3)))]) (st' := [.int ((xs 1)), .ref 101]) (by decide +kernel) rfl rfl ?_
                    refine ab_fin.call (i := .invokevirtual 1018) (k := 3) (y := 6001) (As := [.ref 101, .int ((xs 1))]) (rest := []) (M' := (mX23_isKind, [])) (by decide +kernel) (ab_cv rfl rfl (ab_ov_get (lt0 101 (by decide)) rfl) ⟨(Nat.le_of_ble_eq_true rfl), (Nat.le_of_ble_eq_true rfl)⟩ rfl) rfl (Nat.le_of_ble_eq_true rfl) ?_
                    show ab_fin _ _ _ _ 0 [(0, .ref 101), (1, .int ((xs 1)))] [] _ _
                    refine ab_fin.s2 (i := .iload_n 1) (k := 1) (pc' := 1) (lv' := [(0, .ref 101), (1, .int ((xs 1)))]) (st' := [.int ((xs 1))]) (by decide +kernel) rfl rfl ?_
                    refine ab_fin.brF (c := (xs 1) < 0) (i := .ifCond .lt 15) (off := 15) (t := 16) (pc' := 4) (r := []) (by decide +kernel) rfl (by decide +kernel) rfl (by have l0 : (0 : Int32).toInt = 0 := rfl; have l1 : (1 : Int32).toInt = 1 := rfl; have l2 : (2 : Int32).toInt = 2 := rfl; have l3 : (3 : Int32).toInt = 3 := rfl; simp only [← Int32.toInt_inj, Int32.lt_iff_toInt_lt, Int32.le_iff_toInt_le, l0, l1, l2, l3] at q1 q2 q3 q4 q5 q6 q54 q57 q58 ⊢; omega) ?_
                    refine ab_fin.s2 (i := .iload_n 1) (k := 1) (pc' := 5) (lv' := [(0, .ref 101), (1, .int ((xs 1)))]) (st' := [.int ((xs 1))]) (by decide +kernel) rfl rfl ?_
                    refine ab_fin.s2 (i := .aload_n 0) (k := 1) (pc' := 6) (lv' := [(0, .ref 101), (1, .int ((xs 1)))]) (st' := [.ref 101, .int ((xs 1))]) (by decide +kernel) rfl rfl ?_
                    refine ab_fin.getf (ix := 13) (k := 4) (v := .int 3) (pc' := 9) (by decide +kernel) rfl (ab_ov_get (lt0 101 (by decide)) rfl) rfl rfl ?_
                    refine ab_fin.brF (c := (3 : Int32) ≤ (xs 1)) (i := .if_icmp .ge 7) (off := 7) (t := 16) (pc' := 12) (r := []) (by decide +kernel) rfl (by decide +kernel) rfl (by have l0 : (0 : Int32).toInt = 0 := rfl; have l1 : (1 : Int32).toInt = 1 := rfl; have l2 : (2 : Int32).toInt = 2 := rfl; have l3 : (3 : Int32).toInt = 3 := rfl; simp only [← Int32.toInt_inj, Int32.lt_iff_toInt_lt, Int32.le_iff_toInt_le, l0, l1, l2, l3] at q1 q2 q3 q4 q5 q6 q54 q57 q58 ⊢; omega) ?_
                    refine ab_fin.s1i (i := .iconst 1) (k := 1) (pc' := 13) (n := 1) (by decide +kernel) rfl (by decide +kernel) rfl ?_
                    refine ab_fin.s3 (i := .goto 4) (k := 3) (t := 17) (st' := [.int 1]) (by decide +kernel) (ab_goto (by decide +kernel)) ?_
                    refine ab_fin.ret (i := .ireturn) (k := 1) (some (.int 1)) (by decide +kernel) rfl ?_
                    refine ab_bk.back (pc' := 10) (st' := [.int 1]) rfl rfl ?_
                    refine ab_fin.brF (c := (1 : Int32) = 0) (i := .ifCond .eq 7) (off := 7) (t := 17) (pc' := 13) (r := []) (by decide +kernel) rfl (by decide +kernel) rfl (by decide +kernel) ?_
                    refine ab_fin.s2 (i := .iload_n 3) (k := 1) (pc' := 14) (lv' := [(0, .ref 101), (1, .int ((xs 1))), (2, .int ((xs 2))), (3, .int ((xs 3)))]) (st' := [.int ((xs 3))]) (by decide +kernel) rfl rfl ?_
                    refine ab_fin.brT (c := 0 ≤ (xs 3)) (i := .ifCond .ge 9) (off := 9) (t := 23) (r := []) (by decide +kernel) rfl (by decide +kernel) (by have l0 : (0 : Int32).toInt = 0 := rfl; have l1 : (1 : Int32).toInt = 1 := rfl; have l2 : (2 : Int32).toInt = 2 := rfl; have l3 : (3 : Int32).toInt = 3 := rfl; simp only [← Int32.toInt_inj, Int32.lt_iff_toInt_lt, Int32.le_iff_toInt_le, l0, l1, l2, l3] at q1 q2 q3 q4 q5 q6 q54 q57 q58 ⊢; omega) ?_
                    refine ab_fin.s2 (i := .iload_n 2) (k := 1) (pc' := 24) (lv' := [(0, .ref 101), (1, .int ((xs 1))), (2, .int ((xs 2))), (3, .int ((xs 3)))]) (st' := [.int ((xs 2))]) (by decide +kernel) rfl rfl ?_
                    refine ab_fin.brF (c := (xs 2) < 0) (i := .ifCond .lt 8) (off := 8) (t := 32) (pc' := 27) (r := []) (by decide +kernel) rfl (by decide +kernel) rfl (by have l0 : (0 : Int32).toInt = 0 := rfl; have l1 : (1 : Int32).toInt = 1 := rfl; have l2 : (2 : Int32).toInt = 2 := rfl; have l3 : (3 : Int32).toInt = 3 := rfl; simp only [← Int32.toInt_inj, Int32.lt_iff_toInt_lt, Int32.le_iff_toInt_le, l0, l1, l2, l3] at q1 q2 q3 q4 q5 q6 q54 q57 q58 ⊢; omega) ?_
                    refine ab_fin.s2 (i := .iload_n 2) (k := 1) (pc' := 28) (lv' := [(0, .ref 101), (1, .int ((xs 1))), (2, .int ((xs 2))), (3, .int ((xs 3)))]) (st' := [.int ((xs 2))]) (by decide +kernel) rfl rfl ?_
                    refine ab_fin.s1i (i := .iconst 2) (k := 1) (pc' := 29) (n := 2) (by decide +kernel) rfl (by decide +kernel) rfl ?_
                    refine ab_fin.brT (c := (xs 2) ≤ (2 : Int32)) (i := .if_icmp .le 9) (off := 9) (t := 38) (r := []) (by decide +kernel) rfl (by decide +kernel) (by have l0 : (0 : Int32).toInt = 0 := rfl; have l1 : (1 : Int32).toInt = 1 := rfl; have l2 : (2 : Int32).toInt = 2 := rfl; have l3 : (3 : Int32).toInt = 3 := rfl; simp only [← Int32.toInt_inj, Int32.lt_iff_toInt_lt, Int32.le_iff_toInt_le, l0, l1, l2, l3] at q1 q2 q3 q4 q5 q6 q54 q57 q58 ⊢; omega) ?_
                    refine ab_fin.s2 (i := .iload_n 3) (k := 1) (pc' := 39) (lv' := [(0, .ref 101), (1, .int ((xs 1))), (2, .int ((xs 2))), (3, .int ((xs 3)))]) (st' := [.int ((xs 3))]) (by decide +kernel) rfl rfl ?_
                    refine ab_fin.s2 (i := .aload_n 0) (k := 1) (pc' := 40) (lv' := [(0, .ref 101), (1, .int ((xs 1))), (2, .int ((xs 2))), (3, .int ((xs 3)))]) (st' := [.ref 101, .int ((xs 3))]) (by decide +kernel) rfl rfl ?_
                    refine ab_fin.getf (ix := 17) (k := 0) (v := .ref 102) (pc' := 43) (by decide +kernel) rfl (ab_ov_get (lt0 101 (by decide)) rfl) rfl rfl ?_
                    refine ab_fin.s2 (i := .iload_n 1) (k := 1) (pc' := 44) (lv' := [(0, .ref 101), (1, .int ((xs 1))), (2, .int ((xs 2))), (3, .int ((xs 3)))]) (st' := [.int ((xs 1)), .ref 102, .int ((xs 3))]) (by decide +kernel) rfl rfl ?_
                    have q64 : (xs 1) = 2 := (by have l0 : (0 : Int32).toInt = 0 := rfl; have l1 : (1 : Int32).toInt = 1 := rfl; have l2 : (2 : Int32).toInt = 2 := rfl; have l3 : (3 : Int32).toInt = 3 := rfl; simp only [← Int32.toInt_inj, Int32.lt_iff_toInt_lt, Int32.le_iff_toInt_le, l0, l1, l2, l3] at q1 q2 q3 q4 q5 q6 q54 q57 q58 ⊢; omega)
                    rw [q64]
                    refine ab_fin.aald (v := .ref 2312) (pc' := 45) (by decide +kernel) (ab_ov_no f_102 rfl) (by decide) rfl (ab_bd (n := 24) (by rw [p1_n102]) (by decide +kernel)) rfl rfl ?_
                    refine ab_fin.getf (ix := 79) (k := 5) (v := .ref 2320) (pc' := 48) (by decide +kernel) rfl (ab_ov_no f_2312 rfl) rfl rfl ?_
                    refine ab_fin.s2 (i := .iload_n 2) (k := 1) (pc' := 49) (lv' := [(0, .ref 101), (1, .int 2), (2, .int ((xs 2))), (3, .int ((xs 3)))]) (st' := [.int ((xs 2)), .ref 2320, .int ((xs 3))]) (by decide +kernel) rfl rfl ?_
                    have q65 : (xs 2) = 1 := (by have l0 : (0 : Int32).toInt = 0 := rfl; have l1 : (1 : Int32).toInt = 1 := rfl; have l2 : (2 : Int32).toInt = 2 := rfl; have l3 : (3 : Int32).toInt = 3 := rfl; simp only [← Int32.toInt_inj, Int32.lt_iff_toInt_lt, Int32.le_iff_toInt_le, l0, l1, l2, l3] at q1 q2 q3 q4 q5 q6 q54 q57 q58 q64 ⊢; omega)
                    rw [q65]
                    refine ab_fin.iald (v := 2) (pc' := 50) (by decide +kernel) (ab_ov_no f_2320 rfl) (ab_bd (n := 3) (by rw [List.length_replicate]) (by decide +kernel)) rfl rfl ?_
                    refine ab_fin.brF (c := (2 : Int32) ≤ (xs 3)) (i := .if_icmp .ge 19) (off := 19) (t := 69) (pc' := 53) (r := []) (by decide +kernel) rfl (by decide +kernel) rfl (by have l0 : (0 : Int32).toInt = 0 := rfl; have l1 : (1 : Int32).toInt = 1 := rfl; have l2 : (2 : Int32).toInt = 2 := rfl; have l3 : (3 : Int32).toInt = 3 := rfl; simp only [← Int32.toInt_inj, Int32.lt_iff_toInt_lt, Int32.le_iff_toInt_le, l0, l1, l2, l3] at q1 q2 q3 q4 q5 q6 q54 q57 q58 q64 q65 ⊢; omega) ?_
                    refine ab_fin.s2 (i := .aload_n 0) (k := 1) (pc' := 54) (lv' := [(0, .ref 101), (1, .int 2), (2, .int 1), (3, .int ((xs 3)))]) (st' := [.ref 101]) (by decide +kernel) rfl rfl ?_
                    refine ab_fin.getf (ix := 17) (k := 0) (v := .ref 102) (pc' := 57) (by decide +kernel) rfl (ab_ov_get (lt0 101 (by decide)) rfl) rfl rfl ?_
                    refine ab_fin.s2 (i := .iload_n 1) (k := 1) (pc' := 58) (lv' := [(0, .ref 101), (1, .int 2), (2, .int 1), (3, .int ((xs 3)))]) (st' := [.int 2, .ref 102]) (by decide +kernel) rfl rfl ?_
                    refine ab_fin.aald (v := .ref 2312) (pc' := 59) (by decide +kernel) (ab_ov_no f_102 rfl) (by decide) rfl (ab_bd (n := 24) (by rw [p1_n102]) (by decide +kernel)) rfl rfl ?_
                    refine ab_fin.getf (ix := 86) (k := 4) (v := .ref 2316) (pc' := 62) (by decide +kernel) rfl (ab_ov_no f_2312 rfl) rfl rfl ?_
                    refine ab_fin.s2 (i := .iload_n 2) (k := 1) (pc' := 63) (lv' := [(0, .ref 101), (1, .int 2), (2, .int 1), (3, .int ((xs 3)))]) (st' := [.int 1, .ref 2316]) (by decide +kernel) rfl rfl ?_
                    refine ab_fin.aald (v := .ref 2318) (pc' := 64) (by decide +kernel) (ab_ov_no f_2316 rfl) (by decide) rfl (ab_bd (n := 3) (by rw [p1_n2316]) (by decide +kernel)) rfl rfl ?_
                    refine ab_fin.s2 (i := .iload_n 3) (k := 1) (pc' := 65) (lv' := [(0, .ref 101), (1, .int 2), (2, .int 1), (3, .int ((xs 3)))]) (st' := [.int ((xs 3)), .ref 2318]) (by decide +kernel) rfl rfl ?_
                    have q66 : (xs 3) = 0 := (by have l0 : (0 : Int32).toInt = 0 := rfl; have l1 : (1 : Int32).toInt = 1 := rfl; have l2 : (2 : Int32).toInt = 2 := rfl; have l3 : (3 : Int32).toInt = 3 := rfl; simp only [← Int32.toInt_inj, Int32.lt_iff_toInt_lt, Int32.le_iff_toInt_le, l0, l1, l2, l3] at q1 q2 q3 q4 q5 q6 q54 q57 q58 q64 q65 ⊢; omega)
                    rw [q66]
                    refine ab_fin.iald (v := 2) (pc' := 66) (by decide +kernel) (ab_ov_no f_2318 rfl) (ab_bd (n := 24) (by rw [p1_n2318]) (by decide +kernel)) rfl rfl ?_
                    refine ab_fin.s3 (i := .goto 4) (k := 3) (t := 70) (st' := [.int 2]) (by decide +kernel) (ab_goto (by decide +kernel)) ?_
                    refine ab_fin.ret (i := .ireturn) (k := 1) (some (.int 2)) (by decide +kernel) rfl ?_
                    refine ab_bk.back (pc' := 630) (st' := [.int 2]) rfl rfl ?_
                    refine ab_fin.s2 (i := .istore 6) (k := 2) (pc' := 632) (lv' := [(6, .int 2), (5, .int 0), (4, .int 0), (3, .ref 3466), (2, .ref 101), (1, .ref 0), (0, .retAddr 9)]) (st' := []) (by decide +kernel) rfl rfl ?_
                    refine ab_fin.s2 (i := .aload_n 2) (k := 1) (pc' := 633) (lv' := [(6, .int 2), (5, .int 0), (4, .int 0), (3, .ref 3466), (2, .ref 101), (1, .ref 0), (0, .retAddr 9)]) (st' := [.ref 101]) (by decide +kernel) rfl rfl ?_
                    refine ab_fin.call (i := .invokevirtual 75) (k := 3) (y := 5992) (As := [.ref 101]) (rest := []) (M' := (mX23_thrown, [])) (by decide +kernel) (ab_cv rfl rfl (ab_ov_get (lt0 101 (by decide)) rfl) ⟨(Nat.le_of_ble_eq_true rfl), (Nat.le_of_ble_eq_true rfl)⟩ rfl) rfl (Nat.le_of_ble_eq_true rfl) ?_
                    show ab_fin _ _ _ _ 0 [(0, .ref 101)] [] _ _
                    refine ab_fin.s2 (i := .aload_n 0) (k := 1) (pc' := 1) (lv' := [(0, .ref 101)]) (st' := [.ref 101]) (by decide +kernel) rfl rfl ?_
                    refine ab_fin.getf (ix := 1000) (k := 110) (v := .int 0) (pc' := 4) (by decide +kernel) rfl (ab_ov_get (lt0 101 (by decide)) rfl) rfl rfl ?_
                    refine ab_fin.ret (i := .ireturn) (k := 1) (some (.int 0)) (by decide +kernel) rfl ?_
                    refine ab_bk.back (pc' := 636) (st' := [.int 0]) rfl rfl ?_
                    refine ab_fin.s2 (i := .iload 5) (k := 2) (pc' := 638) (lv' := [(6, .int 2), (5, .int 0), (4, .int 0), (3, .ref 3466), (2, .ref 101), (1, .ref 0), (0, .retAddr 9)]) (st' := [.int 0, .int 0]) (by decide +kernel) rfl rfl ?_
                    refine ab_fin.brT (c := (0 : Int32) = (0 : Int32)) (i := .if_icmp .eq 5) (off := 5) (t := 643) (r := []) (by decide +kernel) rfl (by decide +kernel) (by decide +kernel) ?_
                    refine ab_fin.s2 (i := .iload 5) (k := 2) (pc' := 645) (lv' := [(6, .int 2), (5, .int 0), (4, .int 0), (3, .ref 3466), (2, .ref 101), (1, .ref 0), (0, .retAddr 9)]) (st' := [.int 0]) (by decide +kernel) rfl rfl ?_
                    refine ab_fin.brF (c := ¬ (0 : Int32) = 0) (i := .ifCond .ne 15) (off := 15) (t := 660) (pc' := 648) (r := []) (by decide +kernel) rfl (by decide +kernel) rfl (by decide +kernel) ?_
                    refine ab_fin.s2 (i := .aload_n 3) (k := 1) (pc' := 649) (lv' := [(6, .int 2), (5, .int 0), (4, .int 0), (3, .ref 3466), (2, .ref 101), (1, .ref 0), (0, .retAddr 9)]) (st' := [.ref 3466]) (by decide +kernel) rfl rfl ?_
                    refine ab_fin.s1i (i := .iconst 0) (k := 1) (pc' := 650) (n := 0) (by decide +kernel) rfl (by decide +kernel) rfl ?_
                    refine ab_fin.lald (v := 2) (pc' := 651) (by decide +kernel) (ab_ov_get (lt0 3466 (by decide)) rfl) (ab_bd (n := 1) (by rw [List.length_set, List.length_replicate]) (by decide +kernel)) rfl rfl ?_
                    refine ab_fin.s2 (i := .iload 6) (k := 2) (pc' := 653) (lv' := [(6, .int 2), (5, .int 0), (4, .int 0), (3, .ref 3466), (2, .ref 101), (1, .ref 0), (0, .retAddr 9)]) (st' := [.int 2, .long 2]) (by decide +kernel) rfl rfl ?_
                    refine ab_fin.s1l (i := .i2l) (k := 1) (pc' := 654) (n := 2) (by decide +kernel) rfl (by decide +kernel) rfl ?_
                    refine ab_fin.s1i (i := .lcmp) (k := 1) (pc' := 655) (n := 0) (by decide +kernel) rfl (by decide +kernel) rfl ?_
                    refine ab_fin.brT (c := (0 : Int32) = 0) (i := .ifCond .eq 5) (off := 5) (t := 660) (r := []) (by decide +kernel) rfl (by decide +kernel) (by decide +kernel) ?_
                    refine ab_fin.s3 (i := .goto 430) (k := 3) (t := 1090) (st' := []) (by decide +kernel) (ab_goto (by decide +kernel)) ?_
                    refine ab_fin.inc (i := .iinc 4 6) (k := 3) (pc' := 1093) (j := 4) (n := 6) (lv' := [(6, .int 2), (5, .int 0), (3, .ref 3466), (2, .ref 101), (1, .ref 0), (0, .retAddr 9)]) (by decide +kernel) rfl (by decide +kernel) rfl ?_
                    refine ab_fin.s3 (i := .goto (-1070)) (k := 3) (t := 23) (st' := []) (by decide +kernel) (ab_goto (by decide +kernel)) ?_
                    refine ab_fin.s2 (i := .iload 4) (k := 2) (pc' := 25) (lv' := [(4, .int 6), (6, .int 2), (5, .int 0), (3, .ref 3466), (2, .ref 101), (1, .ref 0), (0, .retAddr 9)]) (st' := [.int 6]) (by decide +kernel) rfl rfl ?_
                    refine ab_fin.s2 (i := .aload_n 0) (k := 1) (pc' := 26) (lv' := [(4, .int 6), (6, .int 2), (5, .int 0), (3, .ref 3466), (2, .ref 101), (1, .ref 0), (0, .retAddr 9)]) (st' := [.retAddr 9, .int 6]) (by decide +kernel) rfl rfl ?_
                    refine ab_fin.s8 (i := .arraylength) (k := 1) (pc' := 27) (st' := [.int 6, .int 6]) (by decide +kernel) rfl rfl rfl rfl ?_
                    refine ab_fin.s1i (i := .bipush 6) (k := 2) (pc' := 29) (n := 6) (by decide +kernel) rfl (by decide +kernel) rfl ?_
                    refine ab_fin.s1i (i := .isub) (k := 1) (pc' := 30) (n := 0) (by decide +kernel) rfl (by decide +kernel) rfl ?_
                    refine ab_fin.brT (c := (0 : Int32) < (6 : Int32)) (i := .if_icmp .gt 1066) (off := 1066) (t := 1096) (r := []) (by decide +kernel) rfl (by decide +kernel) (by decide +kernel) ?_
                    refine ab_fin.s1i (i := .iconst 1) (k := 1) (pc' := 1097) (n := 1) (by decide +kernel) rfl (by decide +kernel) rfl ?_
                    refine ab_fin.ret (i := .ireturn) (k := 1) (some (.int 1)) (by decide +kernel) rfl ?_
                    refine ⟨rfl, ?_, ?_⟩
                    · rw [ab_ov_len, hl]; decide
                    · refine Nat.le_trans (ab_ov_z _ _) ?_
                      simp only [List.map, List.sum_cons, List.sum_nil, ab_z1, ab_len, List.length_set, List.length_replicate, List.length_cons, List.length_nil, p1_n101]
                      omega
                  · rw [q58]
                    try rw [show ((((2 * (24 : Int32)) + (2 : Int32)) * (24 : Int32)) + 0) = (1200 : Int32) by decide +kernel]
                    refine ab_fin.iald (v := 2) (pc' := 16) (by decide +kernel) (ab_ov_no f_7 rfl) (ab_bd (n := 1728) (by rw [p1_n7]) (by decide +kernel)) rfl rfl ?_
                    refine ab_fin.ret (i := .ireturn) (k := 1) (some (.int 2)) (by decide +kernel) rfl ?_
                    refine ab_bk.back (pc' := 69) (st' := [.int 2]) rfl rfl ?_
                    refine ab_fin.s3 (i := .goto 4) (k := 3) (t := 73) (st' := [.int 2]) (by decide +kernel) (ab_goto (by decide +kernel)) ?_
                    refine ab_fin.ret (i := .ireturn) (k := 1) (some (.int 2)) (by decide +kernel) rfl ?_
                    refine ab_bk.back (pc' := 10) (st' := [.int 2, .int 0, .ref 3466]) rfl rfl ?_
                    refine ab_fin.s1l (i := .i2l) (k := 1) (pc' := 11) (n := 2) (by decide +kernel) rfl (by decide +kernel) rfl ?_
                    refine ab_fin.last (h1 := ab_ov h [(3466, .inr (.inl (1, .inr (.inl ((List.replicate 1 0).set 0 (2))))))]) (pc' := 12) (by decide +kernel) (ab_ov_no f_3466 rfl) (ab_bd (n := 1) (by rw [List.length_replicate]) (by decide +kernel)) (ab_ov_set rfl) rfl ?_
                    refine ab_fin.s3 (i := .goto 11) (k := 3) (t := 23) (st' := []) (by decide +kernel) (ab_goto (by decide +kernel)) ?_
                    refine ab_fin.s1i (i := .iconst 0) (k := 1) (pc' := 24) (n := 0) (by decide +kernel) rfl (by decide +kernel) rfl ?_
                    refine ab_fin.ret (i := .ireturn) (k := 1) (some (.int 0)) (by decide +kernel) rfl ?_
                    refine ab_bk.back (pc' := 606) (st' := [.int 0]) rfl rfl ?_
                    refine ab_fin.s2 (i := .istore 5) (k := 2) (pc' := 608) (lv' := [(5, .int 0), (4, .int 0), (3, .ref 3466), (2, .ref 101), (1, .ref 0), (0, .retAddr 9)]) (st' := []) (by decide +kernel) rfl rfl ?_
                    refine ab_fin.s2 (i := .aload_n 2) (k := 1) (pc' := 609) (lv' := [(5, .int 0), (4, .int 0), (3, .ref 3466), (2, .ref 101), (1, .ref 0), (0, .retAddr 9)]) (st' := [.ref 101]) (by decide +kernel) rfl rfl ?_
                    refine ab_fin.s2 (i := .aload_n 0) (k := 1) (pc' := 610) (lv' := [(5, .int 0), (4, .int 0), (3, .ref 3466), (2, .ref 101), (1, .ref 0), (0, .retAddr 9)]) (st' := [.retAddr 9, .ref 101]) (by decide +kernel) rfl rfl ?_
                    refine ab_fin.s2 (i := .iload 4) (k := 2) (pc' := 612) (lv' := [(5, .int 0), (4, .int 0), (3, .ref 3466), (2, .ref 101), (1, .ref 0), (0, .retAddr 9)]) (st' := [.int 0, .retAddr 9, .ref 101]) (by decide +kernel) rfl rfl ?_
                    refine ab_fin.s1i (i := .iconst 1) (k := 1) (pc' := 613) (n := 1) (by decide +kernel) rfl (by decide +kernel) rfl ?_
                    refine ab_fin.s1i (i := .iadd) (k := 1) (pc' := 614) (n := 1) (by decide +kernel) rfl (by decide +kernel) rfl ?_
                    refine ab_fin.s8 (i := .iaload) (k := 1) (pc' := 615) (st' := [.int ((xs 1)), .ref 101]) (by decide +kernel) (ab_x0 rfl (by decide +kernel) rfl) rfl rfl rfl ?_
                    refine ab_fin.s2 (i := .aload_n 0) (k := 1) (pc' := 616) (lv' := [(5, .int 0), (4, .int 0), (3, .ref 3466), (2, .ref 101), (1, .ref 0), (0, .retAddr 9)]) (st' := [.retAddr 9, .int ((xs 1)), .ref 101]) (by decide +kernel) rfl rfl ?_
                    refine ab_fin.s2 (i := .iload 4) (k := 2) (pc' := 618) (lv' := [(5, .int 0), (4, .int 0), (3, .ref 3466), (2, .ref 101), (1, .ref 0), (0, .retAddr 9)]) (st' := [.int 0, .retAddr 9, .int ((xs 1)), .ref 101]) (by decide +kernel) rfl rfl ?_
                    refine ab_fin.s1i (i := .iconst 2) (k := 1) (pc' := 619) (n := 2) (by decide +kernel) rfl (by decide +kernel) rfl ?_
                    refine ab_fin.s1i (i := .iadd) (k := 1) (pc' := 620) (n := 2) (by decide +kernel) rfl (by decide +kernel) rfl ?_
                    refine ab_fin.s8 (i := .iaload) (k := 1) (pc' := 621) (st' := [.int ((xs 2)), .int ((xs 1)), .ref 101]) (by decide +kernel) (ab_x0 rfl (by decide +kernel) rfl) rfl rfl rfl ?_
                    refine ab_fin.s2 (i := .aload_n 0) (k := 1) (pc' := 622) (lv' := [(5, .int 0), (4, .int 0), (3, .ref 3466), (2, .ref 101), (1, .ref 0), (0, .retAddr 9)]) (st' := [.retAddr 9, .int ((xs 2)), .int ((xs 1)), .ref 101]) (by decide +kernel) rfl rfl ?_
                    refine ab_fin.s2 (i := .iload 4) (k := 2) (pc' := 624) (lv' := [(5, .int 0), (4, .int 0), (3, .ref 3466), (2, .ref 101), (1, .ref 0), (0, .retAddr 9)]) (st' := [.int 0, .retAddr 9, .int ((xs 2)), .int ((xs 1)), .ref 101]) (by decide +kernel) rfl rfl ?_
                    refine ab_fin.s1i (i := .iconst 3) (k := 1) (pc' := 625) (n := 3) (by decide +kernel) rfl (by decide +kernel) rfl ?_
                    refine ab_fin.s1i (i := .iadd) (k := 1) (pc' := 626) (n := 3) (by decide +kernel) rfl (by decide +kernel) rfl ?_
                    refine ab_fin.s8 (i := .iaload) (k := 1) (pc' := 627) (st' := [.int ((xs 3)), .int ((xs 2)), .int ((xs 1)), .ref 101]) (by decide +kernel) (ab_x0 rfl (by decide +kernel) rfl) rfl rfl rfl ?_
                    refine ab_fin.call (i := .invokevirtual 110) (k := 3) (y := 6003) (As := [.ref 101, .int ((xs 1)), .int ((xs 2)), .int ((xs 3))]) (rest := []) (M' := (mX23_row, [])) (by decide +kernel) (ab_cv rfl rfl (ab_ov_no f_101 rfl) ⟨(Nat.le_of_ble_eq_true rfl), (Nat.le_of_ble_eq_true rfl)⟩ rfl) rfl (Nat.le_of_ble_eq_true rfl) ?_
                    show ab_fin _ _ _ _ 0 [(0, .ref 101), (1, .int ((xs 1))), (2, .int ((xs 2))), (3, .int ((xs 3)))] [] _ _
                    refine ab_fin.s2 (i := .aload_n 0) (k := 1) (pc' := 1) (lv' := [(0, .ref 101), (1, .int ((xs 1))), (2, .int ((xs 2))), (3, .int ((xs 3)))]) (st' := [.ref 101]) (by decide +kernel) rfl rfl ?_
                    refine ab_fin.s1i (i := .iconst 0) (k := 1) (pc' := 2) (n := 0) (by decide +kernel) rfl (by decide +kernel) rfl ?_
                    refine ab_fin.putf (ix := 1000) (h1 := ab_ov h [(101, .inr (.inr (24, (p1_o101).set 110 (.int 0)))), (3466, .inr (.inl (1, .inr (.inl ((List.replicate 1 0).set 0 (2))))))]) (pc' := 5) (by decide +kernel) rfl (ab_ov_no f_101 rfl) (ab_klt (n := 115) (by rw [p1_n101]) (by decide)) rfl rfl (ab_ov_set rfl) rfl ?_
                    refine ab_fin.s2 (i := .aload_n 0) (k := 1) (pc' := 6) (lv' := [(0, .ref 101), (1, .int ((xs 1))), (2, .int ((xs 2))), (3, .int ((xs 3)))]) (st' := [.ref 101]) (by decide +kernel) rfl rfl ?_
                    refine ab_fin.s2 (i := .iload_n 1) (k := 1) (pc' := 7) (lv' := [(0, .ref 101), (1, .int ((xs 1))), (2, .int ((xs 2))), (3, .int ((xs 3)))]) (st' := [.int ((xs 1)), .ref 101]) (by decide +kernel) rfl rfl ?_
                    refine ab_fin.call (i := .invokevirtual 1018) (k := 3) (y := 6001) (As := [.ref 101, .int ((xs 1))]) (rest := []) (M' := (mX23_isKind, [])) (by decide +kernel) (ab_cv rfl rfl (ab_ov_get (lt0 101 (by decide)) rfl) ⟨(Nat.le_of_ble_eq_true rfl), (Nat.le_of_ble_eq_true rfl)⟩ rfl) rfl (Nat.le_of_ble_eq_true rfl) ?_
                    show ab_fin _ _ _ _ 0 [(0, .ref 101), (1, .int ((xs 1)))] [] _ _
                    refine ab_fin.s2 (i := .iload_n 1) (k := 1) (pc' := 1) (lv' := [(0, .ref 101), (1, .int ((xs 1)))]) (st' := [.int ((xs 1))]) (by decide +kernel) rfl rfl ?_
                    refine ab_fin.brF (c := (xs 1) < 0) (i := .ifCond .lt 15) (off := 15) (t := 16) (pc' := 4) (r := []) (by decide +kernel) rfl (by decide +kernel) rfl (by have l0 : (0 : Int32).toInt = 0 := rfl; have l2 : (2 : Int32).toInt = 2 := rfl; have l3 : (3 : Int32).toInt = 3 := rfl; simp only [← Int32.toInt_inj, Int32.lt_iff_toInt_lt, Int32.le_iff_toInt_le, l0, l2, l3] at q1 q2 q3 q4 q5 q6 q54 q57 q58 ⊢; omega) ?_
                    refine ab_fin.s2 (i := .iload_n 1) (k := 1) (pc' := 5) (lv' := [(0, .ref 101), (1, .int ((xs 1)))]) (st' := [.int ((xs 1))]) (by decide +kernel) rfl rfl ?_
                    refine ab_fin.s2 (i := .aload_n 0) (k := 1) (pc' := 6) (lv' := [(0, .ref 101), (1, .int ((xs 1)))]) (st' := [.ref 101, .int ((xs 1))]) (by decide +kernel) rfl rfl ?_
                    refine ab_fin.getf (ix := 13) (k := 4) (v := .int 3) (pc' := 9) (by decide +kernel) rfl (ab_ov_get (lt0 101 (by decide)) rfl) rfl rfl ?_
                    refine ab_fin.brF (c := (3 : Int32) ≤ (xs 1)) (i := .if_icmp .ge 7) (off := 7) (t := 16) (pc' := 12) (r := []) (by decide +kernel) rfl (by decide +kernel) rfl (by have l0 : (0 : Int32).toInt = 0 := rfl; have l2 : (2 : Int32).toInt = 2 := rfl; have l3 : (3 : Int32).toInt = 3 := rfl; simp only [← Int32.toInt_inj, Int32.lt_iff_toInt_lt, Int32.le_iff_toInt_le, l0, l2, l3] at q1 q2 q3 q4 q5 q6 q54 q57 q58 ⊢; omega) ?_
                    refine ab_fin.s1i (i := .iconst 1) (k := 1) (pc' := 13) (n := 1) (by decide +kernel) rfl (by decide +kernel) rfl ?_
                    refine ab_fin.s3 (i := .goto 4) (k := 3) (t := 17) (st' := [.int 1]) (by decide +kernel) (ab_goto (by decide +kernel)) ?_
                    refine ab_fin.ret (i := .ireturn) (k := 1) (some (.int 1)) (by decide +kernel) rfl ?_
                    refine ab_bk.back (pc' := 10) (st' := [.int 1]) rfl rfl ?_
                    refine ab_fin.brF (c := (1 : Int32) = 0) (i := .ifCond .eq 7) (off := 7) (t := 17) (pc' := 13) (r := []) (by decide +kernel) rfl (by decide +kernel) rfl (by decide +kernel) ?_
                    refine ab_fin.s2 (i := .iload_n 3) (k := 1) (pc' := 14) (lv' := [(0, .ref 101), (1, .int ((xs 1))), (2, .int ((xs 2))), (3, .int ((xs 3)))]) (st' := [.int ((xs 3))]) (by decide +kernel) rfl rfl ?_
                    refine ab_fin.brT (c := 0 ≤ (xs 3)) (i := .ifCond .ge 9) (off := 9) (t := 23) (r := []) (by decide +kernel) rfl (by decide +kernel) (by have l0 : (0 : Int32).toInt = 0 := rfl; have l2 : (2 : Int32).toInt = 2 := rfl; have l3 : (3 : Int32).toInt = 3 := rfl; simp only [← Int32.toInt_inj, Int32.lt_iff_toInt_lt, Int32.le_iff_toInt_le, l0, l2, l3] at q1 q2 q3 q4 q5 q6 q54 q57 q58 ⊢; omega) ?_
                    refine ab_fin.s2 (i := .iload_n 2) (k := 1) (pc' := 24) (lv' := [(0, .ref 101), (1, .int ((xs 1))), (2, .int ((xs 2))), (3, .int ((xs 3)))]) (st' := [.int ((xs 2))]) (by decide +kernel) rfl rfl ?_
                    refine ab_fin.brF (c := (xs 2) < 0) (i := .ifCond .lt 8) (off := 8) (t := 32) (pc' := 27) (r := []) (by decide +kernel) rfl (by decide +kernel) rfl (by have l0 : (0 : Int32).toInt = 0 := rfl; have l2 : (2 : Int32).toInt = 2 := rfl; have l3 : (3 : Int32).toInt = 3 := rfl; simp only [← Int32.toInt_inj, Int32.lt_iff_toInt_lt, Int32.le_iff_toInt_le, l0, l2, l3] at q1 q2 q3 q4 q5 q6 q54 q57 q58 ⊢; omega) ?_
                    refine ab_fin.s2 (i := .iload_n 2) (k := 1) (pc' := 28) (lv' := [(0, .ref 101), (1, .int ((xs 1))), (2, .int ((xs 2))), (3, .int ((xs 3)))]) (st' := [.int ((xs 2))]) (by decide +kernel) rfl rfl ?_
                    refine ab_fin.s1i (i := .iconst 2) (k := 1) (pc' := 29) (n := 2) (by decide +kernel) rfl (by decide +kernel) rfl ?_
                    refine ab_fin.brT (c := (xs 2) ≤ (2 : Int32)) (i := .if_icmp .le 9) (off := 9) (t := 38) (r := []) (by decide +kernel) rfl (by decide +kernel) (by have l0 : (0 : Int32).toInt = 0 := rfl; have l2 : (2 : Int32).toInt = 2 := rfl; have l3 : (3 : Int32).toInt = 3 := rfl; simp only [← Int32.toInt_inj, Int32.lt_iff_toInt_lt, Int32.le_iff_toInt_le, l0, l2, l3] at q1 q2 q3 q4 q5 q6 q54 q57 q58 ⊢; omega) ?_
                    refine ab_fin.s2 (i := .iload_n 3) (k := 1) (pc' := 39) (lv' := [(0, .ref 101), (1, .int ((xs 1))), (2, .int ((xs 2))), (3, .int ((xs 3)))]) (st' := [.int ((xs 3))]) (by decide +kernel) rfl rfl ?_
                    refine ab_fin.s2 (i := .aload_n 0) (k := 1) (pc' := 40) (lv' := [(0, .ref 101), (1, .int ((xs 1))), (2, .int ((xs 2))), (3, .int ((xs 3)))]) (st' := [.ref 101, .int ((xs 3))]) (by decide +kernel) rfl rfl ?_
                    refine ab_fin.getf (ix := 17) (k := 0) (v := .ref 102) (pc' := 43) (by decide +kernel) rfl (ab_ov_get (lt0 101 (by decide)) rfl) rfl rfl ?_
                    refine ab_fin.s2 (i := .iload_n 1) (k := 1) (pc' := 44) (lv' := [(0, .ref 101), (1, .int ((xs 1))), (2, .int ((xs 2))), (3, .int ((xs 3)))]) (st' := [.int ((xs 1)), .ref 102, .int ((xs 3))]) (by decide +kernel) rfl rfl ?_
                    have q68 : (xs 1) = 2 := (by have l0 : (0 : Int32).toInt = 0 := rfl; have l2 : (2 : Int32).toInt = 2 := rfl; have l3 : (3 : Int32).toInt = 3 := rfl; simp only [← Int32.toInt_inj, Int32.lt_iff_toInt_lt, Int32.le_iff_toInt_le, l0, l2, l3] at q1 q2 q3 q4 q5 q6 q54 q57 q58 ⊢; omega)
                    rw [q68]
                    refine ab_fin.aald (v := .ref 2312) (pc' := 45) (by decide +kernel) (ab_ov_no f_102 rfl) (by decide) rfl (ab_bd (n := 24) (by rw [p1_n102]) (by decide +kernel)) rfl rfl ?_
                    refine ab_fin.getf (ix := 79) (k := 5) (v := .ref 2320) (pc' := 48) (by decide +kernel) rfl (ab_ov_no f_2312 rfl) rfl rfl ?_
                    refine ab_fin.s2 (i := .iload_n 2) (k := 1) (pc' := 49) (lv' := [(0, .ref 101), (1, .int 2), (2, .int ((xs 2))), (3, .int ((xs 3)))]) (st' := [.int ((xs 2)), .ref 2320, .int ((xs 3))]) (by decide +kernel) rfl rfl ?_
                    have q69 : (xs 2) = 2 := (by have l0 : (0 : Int32).toInt = 0 := rfl; have l2 : (2 : Int32).toInt = 2 := rfl; have l3 : (3 : Int32).toInt = 3 := rfl; simp only [← Int32.toInt_inj, Int32.lt_iff_toInt_lt, Int32.le_iff_toInt_le, l0, l2, l3] at q1 q2 q3 q4 q5 q6 q54 q57 q58 q68 ⊢; omega)
                    rw [q69]
                    refine ab_fin.iald (v := 2) (pc' := 50) (by decide +kernel) (ab_ov_no f_2320 rfl) (ab_bd (n := 3) (by rw [List.length_replicate]) (by decide +kernel)) rfl rfl ?_
                    refine ab_fin.brF (c := (2 : Int32) ≤ (xs 3)) (i := .if_icmp .ge 19) (off := 19) (t := 69) (pc' := 53) (r := []) (by decide +kernel) rfl (by decide +kernel) rfl (by have l0 : (0 : Int32).toInt = 0 := rfl; have l2 : (2 : Int32).toInt = 2 := rfl; have l3 : (3 : Int32).toInt = 3 := rfl; simp only [← Int32.toInt_inj, Int32.lt_iff_toInt_lt, Int32.le_iff_toInt_le, l0, l2, l3] at q1 q2 q3 q4 q5 q6 q54 q57 q58 q68 q69 ⊢; omega) ?_
                    refine ab_fin.s2 (i := .aload_n 0) (k := 1) (pc' := 54) (lv' := [(0, .ref 101), (1, .int 2), (2, .int 2), (3, .int ((xs 3)))]) (st' := [.ref 101]) (by decide +kernel) rfl rfl ?_
                    refine ab_fin.getf (ix := 17) (k := 0) (v := .ref 102) (pc' := 57) (by decide +kernel) rfl (ab_ov_get (lt0 101 (by decide)) rfl) rfl rfl ?_
                    refine ab_fin.s2 (i := .iload_n 1) (k := 1) (pc' := 58) (lv' := [(0, .ref 101), (1, .int 2), (2, .int 2), (3, .int ((xs 3)))]) (st' := [.int 2, .ref 102]) (by decide +kernel) rfl rfl ?_
                    refine ab_fin.aald (v := .ref 2312) (pc' := 59) (by decide +kernel) (ab_ov_no f_102 rfl) (by decide) rfl (ab_bd (n := 24) (by rw [p1_n102]) (by decide +kernel)) rfl rfl ?_
                    refine ab_fin.getf (ix := 86) (k := 4) (v := .ref 2316) (pc' := 62) (by decide +kernel) rfl (ab_ov_no f_2312 rfl) rfl rfl ?_
                    refine ab_fin.s2 (i := .iload_n 2) (k := 1) (pc' := 63) (lv' := [(0, .ref 101), (1, .int 2), (2, .int 2), (3, .int ((xs 3)))]) (st' := [.int 2, .ref 2316]) (by decide +kernel) rfl rfl ?_
                    refine ab_fin.aald (v := .ref 2319) (pc' := 64) (by decide +kernel) (ab_ov_no f_2316 rfl) (by decide) rfl (ab_bd (n := 3) (by rw [p1_n2316]) (by decide +kernel)) rfl rfl ?_
                    refine ab_fin.s2 (i := .iload_n 3) (k := 1) (pc' := 65) (lv' := [(0, .ref 101), (1, .int 2), (2, .int 2), (3, .int ((xs 3)))]) (st' := [.int ((xs 3)), .ref 2319]) (by decide +kernel) rfl rfl ?_
                    have q70 : (xs 3) = 0 := (by have l0 : (0 : Int32).toInt = 0 := rfl; have l2 : (2 : Int32).toInt = 2 := rfl; have l3 : (3 : Int32).toInt = 3 := rfl; simp only [← Int32.toInt_inj, Int32.lt_iff_toInt_lt, Int32.le_iff_toInt_le, l0, l2, l3] at q1 q2 q3 q4 q5 q6 q54 q57 q58 q68 q69 ⊢; omega)
                    rw [q70]
                    refine ab_fin.iald (v := 2) (pc' := 66) (by decide +kernel) (ab_ov_no f_2319 rfl) (ab_bd (n := 24) (by rw [p1_n2319]) (by decide +kernel)) rfl rfl ?_
                    refine ab_fin.s3 (i := .goto 4) (k := 3) (t := 70) (st' := [.int 2]) (by decide +kernel) (ab_goto (by decide +kernel)) ?_
                    refine ab_fin.ret (i := .ireturn) (k := 1) (some (.int 2)) (by decide +kernel) rfl ?_
                    refine ab_bk.back (pc' := 630) (st' := [.int 2]) rfl rfl ?_
                    refine ab_fin.s2 (i := .istore 6) (k := 2) (pc' := 632) (lv' := [(6, .int 2), (5, .int 0), (4, .int 0), (3, .ref 3466), (2, .ref 101), (1, .ref 0), (0, .retAddr 9)]) (st' := []) (by decide +kernel) rfl rfl ?_
                    refine ab_fin.s2 (i := .aload_n 2) (k := 1) (pc' := 633) (lv' := [(6, .int 2), (5, .int 0), (4, .int 0), (3, .ref 3466), (2, .ref 101), (1, .ref 0), (0, .retAddr 9)]) (st' := [.ref 101]) (by decide +kernel) rfl rfl ?_
                    refine ab_fin.call (i := .invokevirtual 75) (k := 3) (y := 5992) (As := [.ref 101]) (rest := []) (M' := (mX23_thrown, [])) (by decide +kernel) (ab_cv rfl rfl (ab_ov_get (lt0 101 (by decide)) rfl) ⟨(Nat.le_of_ble_eq_true rfl), (Nat.le_of_ble_eq_true rfl)⟩ rfl) rfl (Nat.le_of_ble_eq_true rfl) ?_
                    show ab_fin _ _ _ _ 0 [(0, .ref 101)] [] _ _
                    refine ab_fin.s2 (i := .aload_n 0) (k := 1) (pc' := 1) (lv' := [(0, .ref 101)]) (st' := [.ref 101]) (by decide +kernel) rfl rfl ?_
                    refine ab_fin.getf (ix := 1000) (k := 110) (v := .int 0) (pc' := 4) (by decide +kernel) rfl (ab_ov_get (lt0 101 (by decide)) rfl) rfl rfl ?_
                    refine ab_fin.ret (i := .ireturn) (k := 1) (some (.int 0)) (by decide +kernel) rfl ?_
                    refine ab_bk.back (pc' := 636) (st' := [.int 0]) rfl rfl ?_
                    refine ab_fin.s2 (i := .iload 5) (k := 2) (pc' := 638) (lv' := [(6, .int 2), (5, .int 0), (4, .int 0), (3, .ref 3466), (2, .ref 101), (1, .ref 0), (0, .retAddr 9)]) (st' := [.int 0, .int 0]) (by decide +kernel) rfl rfl ?_
                    refine ab_fin.brT (c := (0 : Int32) = (0 : Int32)) (i := .if_icmp .eq 5) (off := 5) (t := 643) (r := []) (by decide +kernel) rfl (by decide +kernel) (by decide +kernel) ?_
                    refine ab_fin.s2 (i := .iload 5) (k := 2) (pc' := 645) (lv' := [(6, .int 2), (5, .int 0), (4, .int 0), (3, .ref 3466), (2, .ref 101), (1, .ref 0), (0, .retAddr 9)]) (st' := [.int 0]) (by decide +kernel) rfl rfl ?_
                    refine ab_fin.brF (c := ¬ (0 : Int32) = 0) (i := .ifCond .ne 15) (off := 15) (t := 660) (pc' := 648) (r := []) (by decide +kernel) rfl (by decide +kernel) rfl (by decide +kernel) ?_
                    refine ab_fin.s2 (i := .aload_n 3) (k := 1) (pc' := 649) (lv' := [(6, .int 2), (5, .int 0), (4, .int 0), (3, .ref 3466), (2, .ref 101), (1, .ref 0), (0, .retAddr 9)]) (st' := [.ref 3466]) (by decide +kernel) rfl rfl ?_
                    refine ab_fin.s1i (i := .iconst 0) (k := 1) (pc' := 650) (n := 0) (by decide +kernel) rfl (by decide +kernel) rfl ?_
                    refine ab_fin.lald (v := 2) (pc' := 651) (by decide +kernel) (ab_ov_get (lt0 3466 (by decide)) rfl) (ab_bd (n := 1) (by rw [List.length_set, List.length_replicate]) (by decide +kernel)) rfl rfl ?_
                    refine ab_fin.s2 (i := .iload 6) (k := 2) (pc' := 653) (lv' := [(6, .int 2), (5, .int 0), (4, .int 0), (3, .ref 3466), (2, .ref 101), (1, .ref 0), (0, .retAddr 9)]) (st' := [.int 2, .long 2]) (by decide +kernel) rfl rfl ?_
                    refine ab_fin.s1l (i := .i2l) (k := 1) (pc' := 654) (n := 2) (by decide +kernel) rfl (by decide +kernel) rfl ?_
                    refine ab_fin.s1i (i := .lcmp) (k := 1) (pc' := 655) (n := 0) (by decide +kernel) rfl (by decide +kernel) rfl ?_
                    refine ab_fin.brT (c := (0 : Int32) = 0) (i := .ifCond .eq 5) (off := 5) (t := 660) (r := []) (by decide +kernel) rfl (by decide +kernel) (by decide +kernel) ?_
                    refine ab_fin.s3 (i := .goto 430) (k := 3) (t := 1090) (st' := []) (by decide +kernel) (ab_goto (by decide +kernel)) ?_
                    refine ab_fin.inc (i := .iinc 4 6) (k := 3) (pc' := 1093) (j := 4) (n := 6) (lv' := [(6, .int 2), (5, .int 0), (3, .ref 3466), (2, .ref 101), (1, .ref 0), (0, .retAddr 9)]) (by decide +kernel) rfl (by decide +kernel) rfl ?_
                    refine ab_fin.s3 (i := .goto (-1070)) (k := 3) (t := 23) (st' := []) (by decide +kernel) (ab_goto (by decide +kernel)) ?_
                    refine ab_fin.s2 (i := .iload 4) (k := 2) (pc' := 25) (lv' := [(4, .int 6), (6, .int 2), (5, .int 0), (3, .ref 3466), (2, .ref 101), (1, .ref 0), (0, .retAddr 9)]) (st' := [.int 6]) (by decide +kernel) rfl rfl ?_
                    refine ab_fin.s2 (i := .aload_n 0) (k := 1) (pc' := 26) (lv' := [(4, .int 6), (6, .int 2), (5, .int 0), (3, .ref 3466), (2, .ref 101), (1, .ref 0), (0, .retAddr 9)]) (st' := [.retAddr 9, .int 6]) (by decide +kernel) rfl rfl ?_
                    refine ab_fin.s8 (i := .arraylength) (k := 1) (pc' := 27) (st' := [.int 6, .int 6]) (by decide +kernel) rfl rfl rfl rfl ?_
                    refine ab_fin.s1i (i := .bipush 6) (k := 2) (pc' := 29) (n := 6) (by decide +kernel) rfl (by decide +kernel) rfl ?_
                    refine ab_fin.s1i (i := .isub) (k := 1) (pc' := 30) (n := 0) (by decide +kernel) rfl (by decide +kernel) rfl ?_
                    refine ab_fin.brT (c := (0 : Int32) < (6 : Int32)) (i := .if_icmp .gt 1066) (off := 1066) (t := 1096) (r := []) (by decide +kernel) rfl (by decide +kernel) (by decide +kernel) ?_
                    refine ab_fin.s1i (i := .iconst 1) (k := 1) (pc' := 1097) (n := 1) (by decide +kernel) rfl (by decide +kernel) rfl ?_
                    refine ab_fin.ret (i := .ireturn) (k := 1) (some (.int 1)) (by decide +kernel) rfl ?_
                    refine ⟨rfl, ?_, ?_⟩
                    · rw [ab_ov_len, hl]; decide
                    · refine Nat.le_trans (ab_ov_z _ _) ?_
                      simp only [List.map, List.sum_cons, List.sum_nil, ab_z1, ab_len, List.length_set, List.length_replicate, List.length_cons, List.length_nil, p1_n101]
                      omega
                · rw [q57]
                  have q71 : (xs 2) = 0 ∨ (xs 2) = 1 ∨ (xs 2) = 2 := (by have l0 : (0 : Int32).toInt = 0 := rfl; have l1 : (1 : Int32).toInt = 1 := rfl; have l2 : (2 : Int32).toInt = 2 := rfl; have l3 : (3 : Int32).toInt = 3 := rfl; simp only [← Int32.toInt_inj, Int32.lt_iff_toInt_lt, Int32.le_iff_toInt_le, l0, l1, l2, l3] at q1 q2 q3 q4 q5 q6 q54 q57 ⊢; omega)
                  rcases q71 with q71 | q71 | q71
                  · rw [q71]
                    try rw [show ((((0 * (24 : Int32)) + (2 : Int32)) * (24 : Int32)) + 1) = (49 : Int32) by decide +kernel]
                    refine ab_fin.iald (v := 0) (pc' := 16) (by decide +kernel) (ab_ov_no f_7 rfl) (ab_bd (n := 1728) (by rw [p1_n7]) (by decide +kernel)) rfl rfl ?_
                    refine ab_fin.ret (i := .ireturn) (k := 1) (some (.int 0)) (by decide +kernel) rfl ?_
                    refine ab_bk.back (pc' := 69) (st' := [.int 0]) rfl rfl ?_
                    refine ab_fin.s3 (i := .goto 4) (k := 3) (t := 73) (st' := [.int 0]) (by decide +kernel) (ab_goto (by decide +kernel)) ?_
                    refine ab_fin.ret (i := .ireturn) (k := 1) (some (.int 0)) (by decide +kernel) rfl ?_
                    refine ab_bk.back (pc' := 10) (st' := [.int 0, .int 0, .ref 3466]) rfl rfl ?_
                    refine ab_fin.s1l (i := .i2l) (k := 1) (pc' := 11) (n := 0) (by decide +kernel) rfl (by decide +kernel) rfl ?_
                    refine ab_fin.last (h1 := ab_ov h [(3466, .inr (.inl (1, .inr (.inl ((List.replicate 1 0).set 0 (0))))))]) (pc' := 12) (by decide +kernel) (ab_ov_no f_3466 rfl) (ab_bd (n := 1) (by rw [List.length_replicate]) (by decide +kernel)) (ab_ov_set rfl) rfl ?_
                    refine ab_fin.s3 (i := .goto 11) (k := 3) (t := 23) (st' := []) (by decide +kernel) (ab_goto (by decide +kernel)) ?_
                    refine ab_fin.s1i (i := .iconst 0) (k := 1) (pc' := 24) (n := 0) (by decide +kernel) rfl (by decide +kernel) rfl ?_
                    refine ab_fin.ret (i := .ireturn) (k := 1) (some (.int 0)) (by decide +kernel) rfl ?_
                    refine ab_bk.back (pc' := 606) (st' := [.int 0]) rfl rfl ?_
                    refine ab_fin.s2 (i := .istore 5) (k := 2) (pc' := 608) (lv' := [(5, .int 0), (4, .int 0), (3, .ref 3466), (2, .ref 101), (1, .ref 0), (0, .retAddr 9)]) (st' := []) (by decide +kernel) rfl rfl ?_
                    refine ab_fin.s2 (i := .aload_n 2) (k := 1) (pc' := 609) (lv' := [(5, .int 0), (4, .int 0), (3, .ref 3466), (2, .ref 101), (1, .ref 0), (0, .retAddr 9)]) (st' := [.ref 101]) (by decide +kernel) rfl rfl ?_
                    refine ab_fin.s2 (i := .aload_n 0) (k := 1) (pc' := 610) (lv' := [(5, .int 0), (4, .int 0), (3, .ref 3466), (2, .ref 101), (1, .ref 0), (0, .retAddr 9)]) (st' := [.retAddr 9, .ref 101]) (by decide +kernel) rfl rfl ?_
                    refine ab_fin.s2 (i := .iload 4) (k := 2) (pc' := 612) (lv' := [(5, .int 0), (4, .int 0), (3, .ref 3466), (2, .ref 101), (1, .ref 0), (0, .retAddr 9)]) (st' := [.int 0, .retAddr 9, .ref 101]) (by decide +kernel) rfl rfl ?_
                    refine ab_fin.s1i (i := .iconst 1) (k := 1) (pc' := 613) (n := 1) (by decide +kernel) rfl (by decide +kernel) rfl ?_
                    refine ab_fin.s1i (i := .iadd) (k := 1) (pc' := 614) (n := 1) (by decide +kernel) rfl (by decide +kernel) rfl ?_
                    refine ab_fin.s8 (i := .iaload) (k := 1) (pc' := 615) (st' := [.int ((xs 1)), .ref 101]) (by decide +kernel) (ab_x0 rfl (by decide +kernel) rfl) rfl rfl rfl ?_
                    refine ab_fin.s2 (i := .aload_n 0) (k := 1) (pc' := 616) (lv' := [(5, .int 0), (4, .int 0), (3, .ref 3466), (2, .ref 101), (1, .ref 0), (0, .retAddr 9)]) (st' := [.retAddr 9, .int ((xs 1)), .ref 101]) (by decide +kernel) rfl rfl ?_
                    refine ab_fin.s2 (i := .iload 4) (k := 2) (pc' := 618) (lv' := [(5, .int 0), (4, .int 0), (3, .ref 3466), (2, .ref 101), (1, .ref 0), (0, .retAddr 9)]) (st' := [.int 0, .retAddr 9, .int ((xs 1)), .ref 101]) (by decide +kernel) rfl rfl ?_
                    refine ab_fin.s1i (i := .iconst 2) (k := 1) (pc' := 619) (n := 2) (by decide +kernel) rfl (by decide +kernel) rfl ?_
                    refine ab_fin.s1i (i := .iadd) (k := 1) (pc' := 620) (n := 2) (by decide +kernel) rfl (by decide +kernel) rfl ?_
                    refine ab_fin.s8 (i := .iaload) (k := 1) (pc' := 621) (st' := [.int ((xs 2)), .int ((xs 1)), .ref 101]) (by decide +kernel) (ab_x0 rfl (by decide +kernel) rfl) rfl rfl rfl ?_
                    refine ab_fin.s2 (i := .aload_n 0) (k := 1) (pc' := 622) (lv' := [(5, .int 0), (4, .int 0), (3, .ref 3466), (2, .ref 101), (1, .ref 0), (0, .retAddr 9)]) (st' := [.retAddr 9, .int ((xs 2)), .int ((xs 1)), .ref 101]) (by decide +kernel) rfl rfl ?_
                    refine ab_fin.s2 (i := .iload 4) (k := 2) (pc' := 624) (lv' := [(5, .int 0), (4, .int 0), (3, .ref 3466), (2, .ref 101), (1, .ref 0), (0, .retAddr 9)]) (st' := [.int 0, .retAddr 9, .int ((xs 2)), .int ((xs 1)), .ref 101]) (by decide +kernel) rfl rfl ?_
                    refine ab_fin.s1i (i := .iconst 3) (k := 1) (pc' := 625) (n := 3) (by decide +kernel) rfl (by decide +kernel) rfl ?_
                    refine ab_fin.s1i (i := .iadd) (k := 1) (pc' := 626) (n := 3) (by decide +kernel) rfl (by decide +kernel) rfl ?_
                    refine ab_fin.s8 (i := .iaload) (k := 1) (pc' := 627) (st' := [.int ((xs 3)), .int ((xs 2)), .int ((xs 1)), .ref 101]) (by decide +kernel) (ab_x0 rfl (by decide +kernel) rfl) rfl rfl rfl ?_
                    refine ab_fin.call (i := .invokevirtual 110) (k := 3) (y := 6003) (As := [.ref 101, .int ((xs 1)), .int ((xs 2)), .int ((xs 3))]) (rest := []) (M' := (mX23_row, [])) (by decide +kernel) (ab_cv rfl rfl (ab_ov_no f_101 rfl) ⟨(Nat.le_of_ble_eq_true rfl), (Nat.le_of_ble_eq_true rfl)⟩ rfl) rfl (Nat.le_of_ble_eq_true rfl) ?_
                    show ab_fin _ _ _ _ 0 [(0, .ref 101), (1, .int ((xs 1))), (2, .int ((xs 2))), (3, .int ((xs 3)))] [] _ _
                    refine ab_fin.s2 (i := .aload_n 0) (k := 1) (pc' := 1) (lv' := [(0, .ref 101), (1, .int ((xs 1))), (2, .int ((xs 2))), (3, .int ((xs 3)))]) (st' := [.ref 101]) (by decide +kernel) rfl rfl ?_
                    refine ab_fin.s1i (i := .iconst 0) (k := 1) (pc' := 2) (n := 0) (by decide +kernel) rfl (by decide +kernel) rfl ?_
                    refine ab_fin.putf (ix := 1000) (h1 := ab_ov h [(101, .inr (.inr (24, (p1_o101).set 110 (.int 0)))), (3466, .inr (.inl (1, .inr (.inl ((List.replicate 1 0).set 0 (0))))))]) (pc' := 5) (by decide +kernel) rfl (ab_ov_no f_101 rfl) (ab_klt (n := 115) (by rw [p1_n101]) (by decide)) rfl rfl (ab_ov_set rfl) rfl ?_
                    refine ab_fin.s2 (i := .aload_n 0) (k := 1) (pc' := 6) (lv' := [(0, .ref 101), (1, .int ((xs 1))), (2, .int ((xs 2))), (3, .int ((xs 3)))]) (st' := [.ref 101]) (by decide +kernel) rfl rfl ?_
                    refine ab_fin.s2 (i := .iload_n 1) (k := 1) (pc' := 7) (lv' := [(0, .ref 101), (1, .int ((xs 1))), (2, .int ((xs 2))), (3, .int ((xs 3)))]) (st' := [.int ((xs 1)), .ref 101]) (by decide +kernel) rfl rfl ?_
                    refine ab_fin.call (i := .invokevirtual 1018) (k := 3) (y := 6001) (As := [.ref 101, .int ((xs 1))]) (rest := []) (M' := (mX23_isKind, [])) (by decide +kernel) (ab_cv rfl rfl (ab_ov_get (lt0 101 (by decide)) rfl) ⟨(Nat.le_of_ble_eq_true rfl), (Nat.le_of_ble_eq_true rfl)⟩ rfl) rfl (Nat.le_of_ble_eq_true rfl) ?_
                    show ab_fin _ _ _ _ 0 [(0, .ref 101), (1, .int ((xs 1)))] [] _ _
                    refine ab_fin.s2 (i := .iload_n 1) (k := 1) (pc' := 1) (lv' := [(0, .ref 101), (1, .int ((xs 1)))]) (st' := [.int ((xs 1))]) (by decide +kernel) rfl rfl ?_
                    refine ab_fin.brF (c := (xs 1) < 0) (i := .ifCond .lt 15) (off := 15) (t := 16) (pc' := 4) (r := []) (by decide +kernel) rfl (by decide +kernel) rfl (by have l0 : (0 : Int32).toInt = 0 := rfl; have l1 : (1 : Int32).toInt = 1 := rfl; have l2 : (2 : Int32).toInt = 2 := rfl; have l3 : (3 : Int32).toInt = 3 := rfl; simp only [← Int32.toInt_inj, Int32.lt_iff_toInt_lt, Int32.le_iff_toInt_le, l0, l1, l2, l3] at q1 q2 q3 q4 q5 q6 q54 q57 q71 ⊢; omega) ?_
                    refine ab_fin.s2 (i := .iload_n 1) (k := 1) (pc' := 5) (lv' := [(0, .ref 101), (1, .int ((xs 1)))]) (st' := [.int ((xs 1))]) (by decide +kernel) rfl rfl ?_
                    refine ab_fin.s2 (i := .aload_n 0) (k := 1) (pc' := 6) (lv' := [(0, .ref 101), (1, .int ((xs 1)))]) (st' := [.ref 101, .int ((xs 1))]) (by decide +kernel) rfl rfl ?_
                    refine ab_fin.getf (ix := 13) (k := 4) (v := .int 3) (pc' := 9) (by decide +kernel) rfl (ab_ov_get (lt0 101 (by decide)) rfl) rfl rfl ?_
                    refine ab_fin.brF (c := (3 : Int32) ≤ (xs 1)) (i := .if_icmp .ge 7) (off := 7) (t := 16) (pc' := 12) (r := []) (by decide +kernel) rfl (by decide +kernel) rfl (by have l0 : (0 : Int32).toInt = 0 := rfl; have l1 : (1 : Int32).toInt = 1 := rfl; have l2 : (2 : Int32).toInt = 2 := rfl; have l3 : (3 : Int32).toInt = 3 := rfl; simp only [← Int32.toInt_inj, Int32.lt_iff_toInt_lt, Int32.le_iff_toInt_le, l0, l1, l2, l3] at q1 q2 q3 q4 q5 q6 q54 q57 q71 ⊢; omega) ?_
                    refine ab_fin.s1i (i := .iconst 1) (k := 1) (pc' := 13) (n := 1) (by decide +kernel) rfl (by decide +kernel) rfl ?_
                    refine ab_fin.s3 (i := .goto 4) (k := 3) (t := 17) (st' := [.int 1]) (by decide +kernel) (ab_goto (by decide +kernel)) ?_
                    refine ab_fin.ret (i := .ireturn) (k := 1) (some (.int 1)) (by decide +kernel) rfl ?_
                    refine ab_bk.back (pc' := 10) (st' := [.int 1]) rfl rfl ?_
                    refine ab_fin.brF (c := (1 : Int32) = 0) (i := .ifCond .eq 7) (off := 7) (t := 17) (pc' := 13) (r := []) (by decide +kernel) rfl (by decide +kernel) rfl (by decide +kernel) ?_
                    refine ab_fin.s2 (i := .iload_n 3) (k := 1) (pc' := 14) (lv' := [(0, .ref 101), (1, .int ((xs 1))), (2, .int ((xs 2))), (3, .int ((xs 3)))]) (st' := [.int ((xs 3))]) (by decide +kernel) rfl rfl ?_
                    refine ab_fin.brT (c := 0 ≤ (xs 3)) (i := .ifCond .ge 9) (off := 9) (t := 23) (r := []) (by decide +kernel) rfl (by decide +kernel) (by have l0 : (0 : Int32).toInt = 0 := rfl; have l1 : (1 : Int32).toInt = 1 := rfl; have l2 : (2 : Int32).toInt = 2 := rfl; have l3 : (3 : Int32).toInt = 3 := rfl; simp only [← Int32.toInt_inj, Int32.lt_iff_toInt_lt, Int32.le_iff_toInt_le, l0, l1, l2, l3] at q1 q2 q3 q4 q5 q6 q54 q57 q71 ⊢; omega) ?_
                    refine ab_fin.s2 (i := .iload_n 2) (k := 1) (pc' := 24) (lv' := [(0, .ref 101), (1, .int ((xs 1))), (2, .int ((xs 2))), (3, .int ((xs 3)))]) (st' := [.int ((xs 2))]) (by decide +kernel) rfl rfl ?_
                    refine ab_fin.brF (c := (xs 2) < 0) (i := .ifCond .lt 8) (off := 8) (t := 32) (pc' := 27) (r := []) (by decide +kernel) rfl (by decide +kernel) rfl (by have l0 : (0 : Int32).toInt = 0 := rfl; have l1 : (1 : Int32).toInt = 1 := rfl; have l2 : (2 : Int32).toInt = 2 := rfl; have l3 : (3 : Int32).toInt = 3 := rfl; simp only [← Int32.toInt_inj, Int32.lt_iff_toInt_lt, Int32.le_iff_toInt_le, l0, l1, l2, l3] at q1 q2 q3 q4 q5 q6 q54 q57 q71 ⊢; omega) ?_
                    refine ab_fin.s2 (i := .iload_n 2) (k := 1) (pc' := 28) (lv' := [(0, .ref 101), (1, .int ((xs 1))), (2, .int ((xs 2))), (3, .int ((xs 3)))]) (st' := [.int ((xs 2))]) (by decide +kernel) rfl rfl ?_
                    refine ab_fin.s1i (i := .iconst 2) (k := 1) (pc' := 29) (n := 2) (by decide +kernel) rfl (by decide +kernel) rfl ?_
                    refine ab_fin.brT (c := (xs 2) ≤ (2 : Int32)) (i := .if_icmp .le 9) (off := 9) (t := 38) (r := []) (by decide +kernel) rfl (by decide +kernel) (by have l0 : (0 : Int32).toInt = 0 := rfl; have l1 : (1 : Int32).toInt = 1 := rfl; have l2 : (2 : Int32).toInt = 2 := rfl; have l3 : (3 : Int32).toInt = 3 := rfl; simp only [← Int32.toInt_inj, Int32.lt_iff_toInt_lt, Int32.le_iff_toInt_le, l0, l1, l2, l3] at q1 q2 q3 q4 q5 q6 q54 q57 q71 ⊢; omega) ?_
                    refine ab_fin.s2 (i := .iload_n 3) (k := 1) (pc' := 39) (lv' := [(0, .ref 101), (1, .int ((xs 1))), (2, .int ((xs 2))), (3, .int ((xs 3)))]) (st' := [.int ((xs 3))]) (by decide +kernel) rfl rfl ?_
                    refine ab_fin.s2 (i := .aload_n 0) (k := 1) (pc' := 40) (lv' := [(0, .ref 101), (1, .int ((xs 1))), (2, .int ((xs 2))), (3, .int ((xs 3)))]) (st' := [.ref 101, .int ((xs 3))]) (by decide +kernel) rfl rfl ?_
                    refine ab_fin.getf (ix := 17) (k := 0) (v := .ref 102) (pc' := 43) (by decide +kernel) rfl (ab_ov_get (lt0 101 (by decide)) rfl) rfl rfl ?_
                    refine ab_fin.s2 (i := .iload_n 1) (k := 1) (pc' := 44) (lv' := [(0, .ref 101), (1, .int ((xs 1))), (2, .int ((xs 2))), (3, .int ((xs 3)))]) (st' := [.int ((xs 1)), .ref 102, .int ((xs 3))]) (by decide +kernel) rfl rfl ?_
                    have q73 : (xs 1) = 2 := (by have l0 : (0 : Int32).toInt = 0 := rfl; have l1 : (1 : Int32).toInt = 1 := rfl; have l2 : (2 : Int32).toInt = 2 := rfl; have l3 : (3 : Int32).toInt = 3 := rfl; simp only [← Int32.toInt_inj, Int32.lt_iff_toInt_lt, Int32.le_iff_toInt_le, l0, l1, l2, l3] at q1 q2 q3 q4 q5 q6 q54 q57 q71 ⊢; omega)
                    rw [q73]
                    refine ab_fin.aald (v := .ref 2312) (pc' := 45) (by decide +kernel) (ab_ov_no f_102 rfl) (by decide) rfl (ab_bd (n := 24) (by rw [p1_n102]) (by decide +kernel)) rfl rfl ?_
                    refine ab_fin.getf (ix := 79) (k := 5) (v := .ref 2320) (pc' := 48) (by decide +kernel) rfl (ab_ov_no f_2312 rfl) rfl rfl ?_
                    refine ab_fin.s2 (i := .iload_n 2) (k := 1) (pc' := 49) (lv' := [(0, .ref 101), (1, .int 2), (2, .int ((xs 2))), (3, .int ((xs 3)))]) (st' := [.int ((xs 2)), .ref 2320, .int ((xs 3))]) (by decide +kernel) rfl rfl ?_
                    have q74 : (xs 2) = 0 := (by have l0 : (0 : Int32).toInt = 0 := rfl; have l1 : (1 : Int32).toInt = 1 := rfl; have l2 : (2 : Int32).toInt = 2 := rfl; have l3 : (3 : Int32).toInt = 3 := rfl; simp only [← Int32.toInt_inj, Int32.lt_iff_toInt_lt, Int32.le_iff_toInt_le, l0, l1, l2, l3] at q1 q2 q3 q4 q5 q6 q54 q57 q71 q73 ⊢; omega)
                    rw [q74]
                    refine ab_fin.iald (v := 2) (pc' := 50) (by decide +kernel) (ab_ov_no f_2320 rfl) (ab_bd (n := 3) (by rw [List.length_replicate]) (by decide +kernel)) rfl rfl ?_
                    refine ab_fin.brF (c := (2 : Int32) ≤ (xs 3)) (i := .if_icmp .ge 19) (off := 19) (t := 69) (pc' := 53) (r := []) (by decide +kernel) rfl (by decide +kernel) rfl (by have l0 : (0 : Int32).toInt = 0 := rfl; have l1 : (1 : Int32).toInt = 1 := rfl; have l2 : (2 : Int32).toInt = 2 := rfl; have l3 : (3 : Int32).toInt = 3 := rfl; simp only [← Int32.toInt_inj, Int32.lt_iff_toInt_lt, Int32.le_iff_toInt_le, l0, l1, l2, l3] at q1 q2 q3 q4 q5 q6 q54 q57 q71 q73 q74 ⊢; omega) ?_
                    refine ab_fin.s2 (i := .aload_n 0) (k := 1) (pc' := 54) (lv' := [(0, .ref 101), (1, .int 2), (2, .int 0), (3, .int ((xs 3)))]) (st' := [.ref 101]) (by decide +kernel) rfl rfl ?_
                    refine ab_fin.getf (ix := 17) (k := 0) (v := .ref 102) (pc' := 57) (by decide +kernel) rfl (ab_ov_get (lt0 101 (by decide)) rfl) rfl rfl ?_
                    refine ab_fin.s2 (i := .iload_n 1) (k := 1) (pc' := 58) (lv' := [(0, .ref 101), (1, .int 2), (2, .int 0), (3, .int ((xs 3)))]) (st' := [.int 2, .ref 102]) (by decide +kernel) rfl rfl ?_
                    refine ab_fin.aald (v := .ref 2312) (pc' := 59) (by decide +kernel) (ab_ov_no f_102 rfl) (by decide) rfl (ab_bd (n := 24) (by rw [p1_n102]) (by decide +kernel)) rfl rfl ?_
                    refine ab_fin.getf (ix := 86) (k := 4) (v := .ref 2316) (pc' := 62) (by decide +kernel) rfl (ab_ov_no f_2312 rfl) rfl rfl ?_
                    refine ab_fin.s2 (i := .iload_n 2) (k := 1) (pc' := 63) (lv' := [(0, .ref 101), (1, .int 2), (2, .int 0), (3, .int ((xs 3)))]) (st' := [.int 0, .ref 2316]) (by decide +kernel) rfl rfl ?_
                    refine ab_fin.aald (v := .ref 2317) (pc' := 64) (by decide +kernel) (ab_ov_no f_2316 rfl) (by decide) rfl (ab_bd (n := 3) (by rw [p1_n2316]) (by decide +kernel)) rfl rfl ?_
                    refine ab_fin.s2 (i := .iload_n 3) (k := 1) (pc' := 65) (lv' := [(0, .ref 101), (1, .int 2), (2, .int 0), (3, .int ((xs 3)))]) (st' := [.int ((xs 3)), .ref 2317]) (by decide +kernel) rfl rfl ?_
                    have q75 : (xs 3) = 1 := (by have l0 : (0 : Int32).toInt = 0 := rfl; have l1 : (1 : Int32).toInt = 1 := rfl; have l2 : (2 : Int32).toInt = 2 := rfl; have l3 : (3 : Int32).toInt = 3 := rfl; simp only [← Int32.toInt_inj, Int32.lt_iff_toInt_lt, Int32.le_iff_toInt_le, l0, l1, l2, l3] at q1 q2 q3 q4 q5 q6 q54 q57 q71 q73 q74 ⊢; omega)
                    rw [q75]
                    refine ab_fin.iald (v := 0) (pc' := 66) (by decide +kernel) (ab_ov_no f_2317 rfl) (ab_bd (n := 24) (by rw [p1_n2317]) (by decide +kernel)) rfl rfl ?_
                    refine ab_fin.s3 (i := .goto 4) (k := 3) (t := 70) (st' := [.int 0]) (by decide +kernel) (ab_goto (by decide +kernel)) ?_
                    refine ab_fin.ret (i := .ireturn) (k := 1) (some (.int 0)) (by decide +kernel) rfl ?_
                    refine ab_bk.back (pc' := 630) (st' := [.int 0]) rfl rfl ?_
                    refine ab_fin.s2 (i := .istore 6) (k := 2) (pc' := 632) (lv' := [(6, .int 0), (5, .int 0), (4, .int 0), (3, .ref 3466), (2, .ref 101), (1, .ref 0), (0, .retAddr 9)]) (st' := []) (by decide +kernel) rfl rfl ?_
                    refine ab_fin.s2 (i := .aload_n 2) (k := 1) (pc' := 633) (lv' := [(6, .int 0), (5, .int 0), (4, .int 0), (3, .ref 3466), (2, .ref 101), (1, .ref 0), (0, .retAddr 9)]) (st' := [.ref 101]) (by decide +kernel) rfl rfl ?_
                    refine ab_fin.call (i := .invokevirtual 75) (k := 3) (y := 5992) (As := [.ref 101]) (rest := []) (M' := (mX23_thrown, [])) (by decide +kernel) (ab_cv rfl rfl (ab_ov_get (lt0 101 (by decide)) rfl) ⟨(Nat.le_of_ble_eq_true rfl), (Nat.le_of_ble_eq_true rfl)⟩ rfl) rfl (Nat.le_of_ble_eq_true rfl) ?_
                    show ab_fin _ _ _ _ 0 [(0, .ref 101)] [] _ _
                    refine ab_fin.s2 (i := .aload_n 0) (k := 1) (pc' := 1) (lv' := [(0, .ref 101)]) (st' := [.ref 101]) (by decide +kernel) rfl rfl ?_
                    refine ab_fin.getf (ix := 1000) (k := 110) (v := .int 0) (pc' := 4) (by decide +kernel) rfl (ab_ov_get (lt0 101 (by decide)) rfl) rfl rfl ?_
                    refine ab_fin.ret (i := .ireturn) (k := 1) (some (.int 0)) (by decide +kernel) rfl ?_
                    refine ab_bk.back (pc' := 636) (st' := [.int 0]) rfl rfl ?_
                    refine ab_fin.s2 (i := .iload 5) (k := 2) (pc' := 638) (lv' := [(6, .int 0), (5, .int 0), (4, .int 0), (3, .ref 3466), (2, .ref 101), (1, .ref 0), (0, .retAddr 9)]) (st' := [.int 0, .int 0]) (by decide +kernel) rfl rfl ?_
                    refine ab_fin.brT (c := (0 : Int32) = (0 : Int32)) (i := .if_icmp .eq 5) (off := 5) (t := 643) (r := []) (by decide +kernel) rfl (by decide +kernel) (by decide +kernel) ?_
                    refine ab_fin.s2 (i := .iload 5) (k := 2) (pc' := 645) (lv' := [(6, .int 0), (5, .int 0), (4, .int 0), (3, .ref 3466), (2, .ref 101), (1, .ref 0), (0, .retAddr 9)]) (st' := [.int 0]) (by decide +kernel) rfl rfl ?_
                    refine ab_fin.brF (c := ¬ (0 : Int32) = 0) (i := .ifCond .ne 15) (off := 15) (t := 660) (pc' := 648) (r := []) (by decide +kernel) rfl (by decide +kernel) rfl (by decide +kernel) ?_
                    refine ab_fin.s2 (i := .aload_n 3) (k := 1) (pc' := 649) (lv' := [(6, .int 0), (5, .int 0), (4, .int 0), (3, .ref 3466), (2, .ref 101), (1, .ref 0), (0, .retAddr 9)]) (st' := [.ref 3466]) (by decide +kernel) rfl rfl ?_
                    refine ab_fin.s1i (i := .iconst 0) (k := 1) (pc' := 650) (n := 0) (by decide +kernel) rfl (by decide +kernel) rfl ?_
                    refine ab_fin.lald (v := 0) (pc' := 651) (by decide +kernel) (ab_ov_get (lt0 3466 (by decide)) rfl) (ab_bd (n := 1) (by rw [List.length_set, List.length_replicate]) (by decide +kernel)) rfl rfl ?_
                    refine ab_fin.s2 (i := .iload 6) (k := 2) (pc' := 653) (lv' := [(6, .int 0), (5, .int 0), (4, .int 0), (3, .ref 3466), (2, .ref 101), (1, .ref 0), (0, .retAddr 9)]) (st' := [.int 0, .long 0]) (by decide +kernel) rfl rfl ?_
                    refine ab_fin.s1l (i := .i2l) (k := 1) (pc' := 654) (n := 0) (by decide +kernel) rfl (by decide +kernel) rfl ?_
                    refine ab_fin.s1i (i := .lcmp) (k := 1) (pc' := 655) (n := 0) (by decide +kernel) rfl (by decide +kernel) rfl ?_
                    refine ab_fin.brT (c := (0 : Int32) = 0) (i := .ifCond .eq 5) (off := 5) (t := 660) (r := []) (by decide +kernel) rfl (by decide +kernel) (by decide +kernel) ?_
                    refine ab_fin.s3 (i := .goto 430) (k := 3) (t := 1090) (st' := []) (by decide +kernel) (ab_goto (by decide +kernel)) ?_
                    refine ab_fin.inc (i := .iinc 4 6) (k := 3) (pc' := 1093) (j := 4) (n := 6) (lv' := [(6, .int 0), (5, .int 0), (3, .ref 3466), (2, .ref 101), (1, .ref 0), (0, .retAddr 9)]) (by decide +kernel) rfl (by decide +kernel) rfl ?_
                    refine ab_fin.s3 (i := .goto (-1070)) (k := 3) (t := 23) (st' := []) (by decide +kernel) (ab_goto (by decide +kernel)) ?_
                    refine ab_fin.s2 (i := .iload 4) (k := 2) (pc' := 25) (lv' := [(4, .int 6), (6, .int 0), (5, .int 0), (3, .ref 3466), (2, .ref 101), (1, .ref 0), (0, .retAddr 9)]) (st' := [.int 6]) (by decide +kernel) rfl rfl ?_
                    refine ab_fin.s2 (i := .aload_n 0) (k := 1) (pc' := 26) (lv' := [(4, .int 6), (6, .int 0), (5, .int 0), (3, .ref 3466), (2, .ref 101), (1, .ref 0), (0, .retAddr 9)]) (st' := [.retAddr 9, .int 6]) (by decide +kernel) rfl rfl ?_
                    refine ab_fin.s8 (i := .arraylength) (k := 1) (pc' := 27) (st' := [.int 6, .int 6]) (by decide +kernel) rfl rfl rfl rfl ?_
                    refine ab_fin.s1i (i := .bipush 6) (k := 2) (pc' := 29) (n := 6) (by decide +kernel) rfl (by decide +kernel) rfl ?_
                    refine ab_fin.s1i (i := .isub) (k := 1) (pc' := 30) (n := 0) (by decide +kernel) rfl (by decide +kernel) rfl ?_
                    refine ab_fin.brT (c := (0 : Int32) < (6 : Int32)) (i := .if_icmp .gt 1066) (off := 1066) (t := 1096) (r := []) (by decide +kernel) rfl (by decide +kernel) (by decide +kernel) ?_
                    refine ab_fin.s1i (i := .iconst 1) (k := 1) (pc' := 1097) (n := 1) (by decide +kernel) rfl (by decide +kernel) rfl ?_
                    refine ab_fin.ret (i := .ireturn) (k := 1) (some (.int 1)) (by decide +kernel) rfl ?_
                    refine ⟨rfl, ?_, ?_⟩
                    · rw [ab_ov_len, hl]; decide
                    · refine Nat.le_trans (ab_ov_z _ _) ?_
                      simp only [List.map, List.sum_cons, List.sum_nil, ab_z1, ab_len, List.length_set, List.length_replicate, List.length_cons, List.length_nil, p1_n101]
                      omega
                  · rw [q71]
                    try rw [show ((((1 * (24 : Int32)) + (2 : Int32)) * (24 : Int32)) + 1) = (625 : Int32) by decide +kernel]
                    refine ab_fin.iald (v := 0) (pc' := 16) (by decide +kernel) (ab_ov_no f_7 rfl) (ab_bd (n := 1728) (by rw [p1_n7]) (by decide +kernel)) rfl rfl ?_
                    refine ab_fin.ret (i := .ireturn) (k := 1) (some (.int 0)) (by decide +kernel) rfl ?_
                    refine ab_bk.back (pc' := 69) (st' := [.int 0]) rfl rfl ?_
                    refine ab_fin.s3 (i := .goto 4) (k := 3) (t := 73) (st' := [.int 0]) (by decide +kernel) (ab_goto (by decide +kernel)) ?_
                    refine ab_fin.ret (i := .ireturn) (k := 1) (some (.int 0)) (by decide +kernel) rfl ?_
                    refine ab_bk.back (pc' := 10) (st' := [.int 0, .int 0, .ref 3466]) rfl rfl ?_
                    refine ab_fin.s1l (i := .i2l) (k := 1) (pc' := 11) (n := 0) (by decide +kernel) rfl (by decide +kernel) rfl ?_
                    refine ab_fin.last (h1 := ab_ov h [(3466, .inr (.inl (1, .inr (.inl ((List.replicate 1 0).set 0 (0))))))]) (pc' := 12) (by decide +kernel) (ab_ov_no f_3466 rfl) (ab_bd (n := 1) (by rw [List.length_replicate]) (by decide +kernel)) (ab_ov_set rfl) rfl ?_
                    refine ab_fin.s3 (i := .goto 11) (k := 3) (t := 23) (st' := []) (by decide +kernel) (ab_goto (by decide +kernel)) ?_
                    refine ab_fin.s1i (i := .iconst 0) (k := 1) (pc' := 24) (n := 0) (by decide +kernel) rfl (by decide +kernel) rfl ?_
                    refine ab_fin.ret (i := .ireturn) (k := 1) (some (.int 0)) (by decide +kernel) rfl ?_
                    refine ab_bk.back (pc' := 606) (st' := [.int 0]) rfl rfl ?_
                    refine ab_fin.s2 (i := .istore 5) (k := 2) (pc' := 608) (lv' := [(5, .int 0), (4, .int 0), (3, .ref 3466), (2, .ref 101), (1, .ref 0), (0, .retAddr 9)]) (st' := []) (by decide +kernel) rfl rfl ?_
                    refine ab_fin.s2 (i := .aload_n 2) (k := 1) (pc' := 609) (lv' := [(5, .int 0), (4, .int 0), (3, .ref 3466), (2, .ref 101), (1, .ref 0), (0, .retAddr 9)]) (st' := [.ref 101]) (by decide +kernel) rfl rfl ?_
                    refine ab_fin.s2 (i := .aload_n 0) (k := 1) (pc' := 610) (lv' := [(5, .int 0), (4, .int 0), (3, .ref 3466), (2, .ref 101), (1, .ref 0), (0, .retAddr 9)]) (st' := [.retAddr 9, .ref 101]) (by decide +kernel) rfl rfl ?_
                    refine ab_fin.s2 (i := .iload 4) (k := 2) (pc' := 612) (lv' := [(5, .int 0), (4, .int 0), (3, .ref 3466), (2, .ref 101), (1, .ref 0), (0, .retAddr 9)]) (st' := [.int 0, .retAddr 9, .ref 101]) (by decide +kernel) rfl rfl ?_
                    refine ab_fin.s1i (i := .iconst 1) (k := 1) (pc' := 613) (n := 1) (by decide +kernel) rfl (by decide +kernel) rfl ?_
                    refine ab_fin.s1i (i := .iadd) (k := 1) (pc' := 614) (n := 1) (by decide +kernel) rfl (by decide +kernel) rfl ?_
                    refine ab_fin.s8 (i := .iaload) (k := 1) (pc' := 615) (st' := [.int ((xs 1)), .ref 101]) (by decide +kernel) (ab_x0 rfl (by decide +kernel) rfl) rfl rfl rfl ?_
                    refine ab_fin.s2 (i := .aload_n 0) (k := 1) (pc' := 616) (lv' := [(5, .int 0), (4, .int 0), (3, .ref 3466), (2, .ref 101), (1, .ref 0), (0, .retAddr 9)]) (st' := [.retAddr 9, .int ((xs 1)), .ref 101]) (by decide +kernel) rfl rfl ?_
                    refine ab_fin.s2 (i := .iload 4) (k := 2) (pc' := 618) (lv' := [(5, .int 0), (4, .int 0), (3, .ref 3466), (2, .ref 101), (1, .ref 0), (0, .retAddr 9)]) (st' := [.int 0, .retAddr 9, .int ((xs 1)), .ref 101]) (by decide +kernel) rfl rfl ?_
                    refine ab_fin.s1i (i := .iconst 2) (k := 1) (pc' := 619) (n := 2) (by decide +kernel) rfl (by decide +kernel) rfl ?_
                    refine ab_fin.s1i (i := .iadd) (k := 1) (pc' := 620) (n := 2) (by decide +kernel) rfl (by decide +kernel) rfl ?_
                    refine ab_fin.s8 (i := .iaload) (k := 1) (pc' := 621) (st' := [.int ((xs 2)), .int ((xs 1)), .ref 101]) (by decide +kernel) (ab_x0 rfl (by decide +kernel) rfl) rfl rfl rfl ?_
                    refine ab_fin.s2 (i := .aload_n 0) (k := 1) (pc' := 622) (lv' := [(5, .int 0), (4, .int 0), (3, .ref 3466), (2, .ref 101), (1, .ref 0), (0, .retAddr 9)]) (st' := [.retAddr 9, .int ((xs 2)), .int ((xs 1)), .ref 101]) (by decide +kernel) rfl rfl ?_
                    refine ab_fin.s2 (i := .iload 4) (k := 2) (pc' := 624) (lv' := [(5, .int 0), (4, .int 0), (3, .ref 3466), (2, .ref 101), (1, .ref 0), (0, .retAddr 9)]) (st' := [.int 0, .retAddr 9, .int ((xs 2)), .int ((xs 1)), .ref 101]) (by decide +kernel) rfl rfl ?_
                    refine ab_fin.s1i (i := .iconst 3) (k := 1) (pc' := 625) (n := 3) (by decide +kernel) rfl (by decide +kernel) rfl ?_
                    refine ab_fin.s1i (i := .iadd) (k := 1) (pc' := 626) (n := 3) (by decide +kernel) rfl (by decide +kernel) rfl ?_
                    refine ab_fin.s8 (i := .iaload) (k := 1) (pc' := 627) (st' := [.int ((xs 3)), .int ((xs 2)), .int ((xs 1)), .ref 101]) (by decide +kernel) (ab_x0 rfl (by decide +kernel) rfl) rfl rfl rfl ?_
                    refine ab_fin.call (i := .invokevirtual 110) (k := 3) (y := 6003) (As := [.ref 101, .int ((xs 1)), .int ((xs 2)), .int ((xs 3))]) (rest := []) (M' := (mX23_row, [])) (by decide +kernel) (ab_cv rfl rfl (ab_ov_no f_101 rfl) ⟨(Nat.le_of_ble_eq_true rfl), (Nat.le_of_ble_eq_true rfl)⟩ rfl) rfl (Nat.le_of_ble_eq_true rfl) ?_
                    show ab_fin _ _ _ _ 0 [(0, .ref 101), (1, .int ((xs 1))), (2, .int ((xs 2))), (3, .int ((xs 3)))] [] _ _
                    refine ab_fin.s2 (i := .aload_n 0) (k := 1) (pc' := 1) (lv' := [(0, .ref 101), (1, .int ((xs 1))), (2, .int ((xs 2))), (3, .int ((xs 3)))]) (st' := [.ref 101]) (by decide +kernel) rfl rfl ?_
                    refine ab_fin.s1i (i := .iconst 0) (k := 1) (pc' := 2) (n := 0) (by decide +kernel) rfl (by decide +kernel) rfl ?_
                    refine ab_fin.putf (ix := 1000) (h1 := ab_ov h [(101, .inr (.inr (24, (p1_o101).set 110 (.int 0)))), (3466, .inr (.inl (1, .inr (.inl ((List.replicate 1 0).set 0 (0))))))]) (pc' := 5) (by decide +kernel) rfl (ab_ov_no f_101 rfl) (ab_klt (n := 115) (by rw [p1_n101]) (by decide)) rfl rfl (ab_ov_set rfl) rfl ?_
                    refine ab_fin.s2 (i := .aload_n 0) (k := 1) (pc' := 6) (lv' := [(0, .ref 101), (1, .int ((xs 1))), (2, .int ((xs 2))), (3, .int ((xs 3)))]) (st' := [.ref 101]) (by decide +kernel) rfl rfl ?_
                    refine ab_fin.s2 (i := .iload_n 1) (k := 1) (pc' := 7) (lv' := [(0, .ref 101), (1, .int ((xs 1))), (2, .int ((xs 2))), (3, .int ((xs 3)))]) (st' := [.int ((xs 1)), .ref 101]) (by decide +kernel) rfl rfl ?_
                    refine ab_fin.call (i := .invokevirtual 1018) (k := 3) (y := 6001) (As := [.ref 101, .int ((xs 1))]) (rest := []) (M' := (mX23_isKind, [])) (by decide +kernel) (ab_cv rfl rfl (ab_ov_get (lt0 101 (by decide)) rfl) ⟨(Nat.le_of_ble_eq_true rfl), (Nat.le_of_ble_eq_true rfl)⟩ rfl) rfl (Nat.le_of_ble_eq_true rfl) ?_
                    show ab_fin _ _ _ _ 0 [(0, .ref 101), (1, .int ((xs 1)))] [] _ _
                    refine ab_fin.s2 (i := .iload_n 1) (k := 1) (pc' := 1) (lv' := [(0, .ref 101), (1, .int ((xs 1)))]) (st' := [.int ((xs 1))]) (by decide +kernel) rfl rfl ?_
                    refine ab_fin.brF (c := (xs 1) < 0) (i := .ifCond .lt 15) (off := 15) (t := 16) (pc' := 4) (r := []) (by decide +kernel) rfl (by decide +kernel) rfl (by have l0 : (0 : Int32).toInt = 0 := rfl; have l1 : (1 : Int32).toInt = 1 := rfl; have l2 : (2 : Int32).toInt = 2 := rfl; have l3 : (3 : Int32).toInt = 3 := rfl; simp only [← Int32.toInt_inj, Int32.lt_iff_toInt_lt, Int32.le_iff_toInt_le, l0, l1, l2, l3] at q1 q2 q3 q4 q5 q6 q54 q57 q71 ⊢; omega) ?_
                    refine ab_fin.s2 (i := .iload_n 1) (k := 1) (pc' := 5) (lv' := [(0, .ref 101), (1, .int ((xs 1)))]) (st' := [.int ((xs 1))]) (by decide +kernel) rfl rfl ?_
                    refine ab_fin.s2 (i := .aload_n 0) (k := 1) (pc' := 6) (lv' := [(0, .ref 101), (1, .int ((xs 1)))]) (st' := [.ref 101, .int ((xs 1))]) (by decide +kernel) rfl rfl ?_
                    refine ab_fin.getf (ix := 13) (k := 4) (v := .int 3) (pc' := 9) (by decide +kernel) rfl (ab_ov_get (lt0 101 (by decide)) rfl) rfl rfl ?_
                    refine ab_fin.brF (c := (3 : Int32) ≤ (xs 1)) (i := .if_icmp .ge 7) (off := 7) (t := 16) (pc' := 12) (r := []) (by decide +kernel) rfl (by decide +kernel) rfl (by have l0 : (0 : Int32).toInt = 0 := rfl; have l1 : (1 : Int32).toInt = 1 := rfl; have l2 : (2 : Int32).toInt = 2 := rfl; have l3 : (3 : Int32).toInt = 3 := rfl; simp only [← Int32.toInt_inj, Int32.lt_iff_toInt_lt, Int32.le_iff_toInt_le, l0, l1, l2, l3] at q1 q2 q3 q4 q5 q6 q54 q57 q71 ⊢; omega) ?_
                    refine ab_fin.s1i (i := .iconst 1) (k := 1) (pc' := 13) (n := 1) (by decide +kernel) rfl (by decide +kernel) rfl ?_
                    refine ab_fin.s3 (i := .goto 4) (k := 3) (t := 17) (st' := [.int 1]) (by decide +kernel) (ab_goto (by decide +kernel)) ?_
                    refine ab_fin.ret (i := .ireturn) (k := 1) (some (.int 1)) (by decide +kernel) rfl ?_
                    refine ab_bk.back (pc' := 10) (st' := [.int 1]) rfl rfl ?_
                    refine ab_fin.brF (c := (1 : Int32) = 0) (i := .ifCond .eq 7) (off := 7) (t := 17) (pc' := 13) (r := []) (by decide +kernel) rfl (by decide +kernel) rfl (by decide +kernel) ?_
                    refine ab_fin.s2 (i := .iload_n 3) (k := 1) (pc' := 14) (lv' := [(0, .ref 101), (1, .int ((xs 1))), (2, .int ((xs 2))), (3, .int ((xs 3)))]) (st' := [.int ((xs 3))]) (by decide +kernel) rfl rfl ?_
                    refine ab_fin.brT (c := 0 ≤ (xs 3)) (i := .ifCond .ge 9) (off := 9) (t := 23) (r := []) (by decide +kernel) rfl (by decide +kernel) (by have l0 : (0 : Int32).toInt = 0 := rfl; have l1 : (1 : Int32).toInt = 1 := rfl; have l2 : (2 : Int32).toInt = 2 := rfl; have l3 : (3 : Int32).toInt = 3 := rfl; simp only [← Int32.toInt_inj, Int32.lt_iff_toInt_lt, Int32.le_iff_toInt_le, l0, l1, l2, l3] at q1 q2 q3 q4 q5 q6 q54 q57 q71 ⊢; omega) ?_
                    refine ab_fin.s2 (i := .iload_n 2) (k := 1) (pc' := 24) (lv' := [(0, .ref 101), (1, .int ((xs 1))), (2, .int ((xs 2))), (3, .int ((xs 3)))]) (st' := [.int ((xs 2))]) (by decide +kernel) rfl rfl ?_
                    refine ab_fin.brF (c := (xs 2) < 0) (i := .ifCond .lt 8) (off := 8) (t := 32) (pc' := 27) (r := []) (by decide +kernel) rfl (by decide +kernel) rfl (by have l0 : (0 : Int32).toInt = 0 := rfl; have l1 : (1 : Int32).toInt = 1 := rfl; have l2 : (2 : Int32).toInt = 2 := rfl; have l3 : (3 : Int32).toInt = 3 := rfl; simp only [← Int32.toInt_inj, Int32.lt_iff_toInt_lt, Int32.le_iff_toInt_le, l0, l1, l2, l3] at q1 q2 q3 q4 q5 q6 q54 q57 q71 ⊢; omega) ?_
                    refine ab_fin.s2 (i := .iload_n 2) (k := 1) (pc' := 28) (lv' := [(0, .ref 101), (1, .int ((xs 1))), (2, .int ((xs 2))), (3, .int ((xs 3)))]) (st' := [.int ((xs 2))]) (by decide +kernel) rfl rfl ?_
                    refine ab_fin.s1i (i := .iconst 2) (k := 1) (pc' := 29) (n := 2) (by decide +kernel) rfl (by decide +kernel) rfl ?_
                    refine ab_fin.brT (c := (xs 2) ≤ (2 : Int32)) (i := .if_icmp .le 9) (off := 9) (t := 38) (r := []) (by decide +kernel) rfl (by decide +kernel) (by have l0 : (0 : Int32).toInt = 0 := rfl; have l1 : (1 : Int32).toInt = 1 := rfl; have l2 : (2 : Int32).toInt = 2 := rfl; have l3 : (3 : Int32).toInt = 3 := rfl; simp only [← Int32.toInt_inj, Int32.lt_iff_toInt_lt, Int32.le_iff_toInt_le, l0, l1, l2, l3] at q1 q2 q3 q4 q5 q6 q54 q57 q71 ⊢; omega) ?_
                    refine ab_fin.s2 (i := .iload_n 3) (k := 1) (pc' := 39) (lv' := [(0, .ref 101), (1, .int ((xs 1))), (2, .int ((xs 2))), (3, .int ((xs 3)))]) (st' := [.int ((xs 3))]) (by decide +kernel) rfl rfl ?_
                    refine ab_fin.s2 (i := .aload_n 0) (k := 1) (pc' := 40) (lv' := [(0, .ref 101), (1, .int ((xs 1))), (2, .int ((xs 2))), (3, .int ((xs 3)))]) (st' := [.ref 101, .int ((xs 3))]) (by decide +kernel) rfl rfl ?_
                    refine ab_fin.getf (ix := 17) (k := 0) (v := .ref 102) (pc' := 43) (by decide +kernel) rfl (ab_ov_get (lt0 101 (by decide)) rfl) rfl rfl ?_
                    refine ab_fin.s2 (i := .iload_n 1) (k := 1) (pc' := 44) (lv' := [(0, .ref 101), (1, .int ((xs 1))), (2, .int ((xs 2))), (3, .int ((xs 3)))]) (st' := [.int ((xs 1)), .ref 102, .int ((xs 3))]) (by decide +kernel) rfl rfl ?_
                    have q77 : (xs 1) = 2 := (by have l0 : (0 : Int32).toInt = 0 := rfl; have l1 : (1 : Int32).toInt = 1 := rfl; have l2 : (2 : Int32).toInt = 2 := rfl; have l3 : (3 : Int32).toInt = 3 := rfl; simp only [← Int32.toInt_inj, Int32.lt_iff_toInt_lt, Int32.le_iff_toInt_le, l0, l1, l2, l3] at q1 q2 q3 q4 q5 q6 q54 q57 q71 ⊢; omega)
                    rw [q77]
                    refine ab_fin.aald (v := .ref 2312) (pc' := 45) (by decide +kernel) (ab_ov_no f_102 rfl) (by decide) rfl (ab_bd (n := 24) (by rw [p1_n102]) (by decide +kernel)) rfl rfl ?_
                    refine ab_fin.getf (ix := 79) (k := 5) (v := .ref 2320) (pc' := 48) (by decide +kernel) rfl (ab_ov_no f_2312 rfl) rfl rfl ?_
                    refine ab_fin.s2 (i := .iload_n 2) (k := 1) (pc' := 49) (lv' := [(0, .ref 101), (1, .int 2), (2, .int ((xs 2))), (3, .int ((xs 3)))]) (st' := [.int ((xs 2)), .ref 2320, .int ((xs 3))]) (by decide +kernel) rfl rfl ?_
                    have q78 : (xs 2) = 1 := (by have l0 : (0 : Int32).toInt = 0 := rfl; have l1 : (1 : Int32).toInt = 1 := rfl; have l2 : (2 : Int32).toInt = 2 := rfl; have l3 : (3 : Int32).toInt = 3 := rfl; simp only [← Int32.toInt_inj, Int32.lt_iff_toInt_lt, Int32.le_iff_toInt_le, l0, l1, l2, l3] at q1 q2 q3 q4 q5 q6 q54 q57 q71 q77 ⊢; omega)
                    rw [q78]
                    refine ab_fin.iald (v := 2) (pc' := 50) (by decide +kernel) (ab_ov_no f_2320 rfl) (ab_bd (n := 3) (by rw [List.length_replicate]) (by decide +kernel)) rfl rfl ?_
                    refine ab_fin.brF (c := (2 : Int32) ≤ (xs 3)) (i := .if_icmp .ge 19) (off := 19) (t := 69) (pc' := 53) (r := []) (by decide +kernel) rfl (by decide +kernel) rfl (by have l0 : (0 : Int32).toInt = 0 := rfl; have l1 : (1 : Int32).toInt = 1 := rfl; have l2 : (2 : Int32).toInt = 2 := rfl; have l3 : (3 : Int32).toInt = 3 := rfl; simp only [← Int32.toInt_inj, Int32.lt_iff_toInt_lt, Int32.le_iff_toInt_le, l0, l1, l2, l3] at q1 q2 q3 q4 q5 q6 q54 q57 q71 q77 q78 ⊢; omega) ?_
                    refine ab_fin.s2 (i := .aload_n 0) (k := 1) (pc' := 54) (lv' := [(0, .ref 101), (1, .int 2), (2, .int 1), (3, .int ((xs 3)))]) (st' := [.ref 101]) (by decide +kernel) rfl rfl ?_
                    refine ab_fin.getf (ix := 17) (k := 0) (v := .ref 102) (pc' := 57) (by decide +kernel) rfl (ab_ov_get (lt0 101 (by decide)) rfl) rfl rfl ?_
                    refine ab_fin.s2 (i := .iload_n 1) (k := 1) (pc' := 58) (lv' := [(0, .ref 101), (1, .int 2), (2, .int 1), (3, .int ((xs 3)))]) (st' := [.int 2, .ref 102]) (by decide +kernel) rfl rfl ?_
                    refine ab_fin.aald (v := .ref 2312) (pc' := 59) (by decide +kernel) (ab_ov_no f_102 rfl) (by decide) rfl (ab_bd (n := 24) (by rw [p1_n102]) (by decide +kernel)) rfl rfl ?_
                    refine ab_fin.getf (ix := 86) (k := 4) (v := .ref 2316) (pc' := 62) (by decide +kernel) rfl (ab_ov_no f_2312 rfl) rfl rfl ?_
                    refine ab_fin.s2 (i := .iload_n 2) (k := 1) (pc' := 63) (lv' := [(0, .ref 101), (1, .int 2), (2, .int 1), (3, .int ((xs 3)))]) (st' := [.int 1, .ref 2316]) (by decide +kernel) rfl rfl ?_
                    refine ab_fin.aald (v := .ref 2318) (pc' := 64) (by decide +kernel) (ab_ov_no f_2316 rfl) (by decide) rfl (ab_bd (n := 3) (by rw [p1_n2316]) (by decide +kernel)) rfl rfl ?_
                    refine ab_fin.s2 (i := .iload_n 3) (k := 1) (pc' := 65) (lv' := [(0, .ref 101), (1, .int 2), (2, .int 1), (3, .int ((xs 3)))]) (st' := [.int ((xs 3)), .ref 2318]) (by decide +kernel) rfl rfl ?_
                    have q79 : (xs 3) = 1 := (by have l0 : (0 : Int32).toInt = 0 := rfl; have l1 : (1 : Int32).toInt = 1 := rfl; have l2 : (2 : Int32).toInt = 2 := rfl; have l3 : (3 : Int32).toInt = 3 := rfl; simp only [← Int32.toInt_inj, Int32.lt_iff_toInt_lt, Int32.le_iff_toInt_le, l0, l1, l2, l3] at q1 q2 q3 q4 q5 q6 q54 q57 q71 q77 q78 ⊢; omega)
                    rw [q79]
                    refine ab_fin.iald (v := 0) (pc' := 66) (by decide +kernel) (ab_ov_no f_2318 rfl) (ab_bd (n := 24) (by rw [p1_n2318]) (by decide +kernel)) rfl rfl ?_
                    refine ab_fin.s3 (i := .goto 4) (k := 3) (t := 70) (st' := [.int 0]) (by decide +kernel) (ab_goto (by decide +kernel)) ?_
                    refine ab_fin.ret (i := .ireturn) (k := 1) (some (.int 0)) (by decide +kernel) rfl ?_
                    refine ab_bk.back (pc' := 630) (st' := [.int 0]) rfl rfl ?_
                    refine ab_fin.s2 (i := .istore 6) (k := 2) (pc' := 632) (lv' := [(6, .int 0), (5, .int 0), (4, .int 0), (3, .ref 3466), (2, .ref 101), (1, .ref 0), (0, .retAddr 9)]) (st' := []) (by decide +kernel) rfl rfl ?_
                    refine ab_fin.s2 (i := .aload_n 2) (k := 1) (pc' := 633) (lv' := [(6, .int 0), (5, .int 0), (4, .int 0), (3, .ref 3466), (2, .ref 101), (1, .ref 0), (0, .retAddr 9)]) (st' := [.ref 101]) (by decide +kernel) rfl rfl ?_
                    refine ab_fin.call (i := .invokevirtual 75) (k := 3) (y := 5992) (As := [.ref 101]) (rest := []) (M' := (mX23_thrown, [])) (by decide +kernel) (ab_cv rfl rfl (ab_ov_get (lt0 101 (by decide)) rfl) ⟨(Nat.le_of_ble_eq_true rfl), (Nat.le_of_ble_eq_true rfl)⟩ rfl) rfl (Nat.le_of_ble_eq_true rfl) ?_
                    show ab_fin _ _ _ _ 0 [(0, .ref 101)] [] _ _
                    refine ab_fin.s2 (i := .aload_n 0) (k := 1) (pc' := 1) (lv' := [(0, .ref 101)]) (st' := [.ref 101]) (by decide +kernel) rfl rfl ?_
                    refine ab_fin.getf (ix := 1000) (k := 110) (v := .int 0) (pc' := 4) (by decide +kernel) rfl (ab_ov_get (lt0 101 (by decide)) rfl) rfl rfl ?_
                    refine ab_fin.ret (i := .ireturn) (k := 1) (some (.int 0)) (by decide +kernel) rfl ?_
                    refine ab_bk.back (pc' := 636) (st' := [.int 0]) rfl rfl ?_
                    refine ab_fin.s2 (i := .iload 5) (k := 2) (pc' := 638) (lv' := [(6, .int 0), (5, .int 0), (4, .int 0), (3, .ref 3466), (2, .ref 101), (1, .ref 0), (0, .retAddr 9)]) (st' := [.int 0, .int 0]) (by decide +kernel) rfl rfl ?_
                    refine ab_fin.brT (c := (0 : Int32) = (0 : Int32)) (i := .if_icmp .eq 5) (off := 5) (t := 643) (r := []) (by decide +kernel) rfl (by decide +kernel) (by decide +kernel) ?_
                    refine ab_fin.s2 (i := .iload 5) (k := 2) (pc' := 645) (lv' := [(6, .int 0), (5, .int 0), (4, .int 0), (3, .ref 3466), (2, .ref 101), (1, .ref 0), (0, .retAddr 9)]) (st' := [.int 0]) (by decide +kernel) rfl rfl ?_
                    refine ab_fin.brF (c := ¬ (0 : Int32) = 0) (i := .ifCond .ne 15) (off := 15) (t := 660) (pc' := 648) (r := []) (by decide +kernel) rfl (by decide +kernel) rfl (by decide +kernel) ?_
                    refine ab_fin.s2 (i := .aload_n 3) (k := 1) (pc' := 649) (lv' := [(6, .int 0), (5, .int 0), (4, .int 0), (3, .ref 3466), (2, .ref 101), (1, .ref 0), (0, .retAddr 9)]) (st' := [.ref 3466]) (by decide +kernel) rfl rfl ?_
                    refine ab_fin.s1i (i := .iconst 0) (k := 1) (pc' := 650) (n := 0) (by decide +kernel) rfl (by decide +kernel) rfl ?_
                    refine ab_fin.lald (v := 0) (pc' := 651) (by decide +kernel) (ab_ov_get (lt0 3466 (by decide)) rfl) (ab_bd (n := 1) (by rw [List.length_set, List.length_replicate]) (by decide +kernel)) rfl rfl ?_
                    refine ab_fin.s2 (i := .iload 6) (k := 2) (pc' := 653) (lv' := [(6, .int 0), (5, .int 0), (4, .int 0), (3, .ref 3466), (2, .ref 101), (1, .ref 0), (0, .retAddr 9)]) (st' := [.int 0, .long 0]) (by decide +kernel) rfl rfl ?_
                    refine ab_fin.s1l (i := .i2l) (k := 1) (pc' := 654) (n := 0) (by decide +kernel) rfl (by decide +kernel) rfl ?_
                    refine ab_fin.s1i (i := .lcmp) (k := 1) (pc' := 655) (n := 0) (by decide +kernel) rfl (by decide +kernel) rfl ?_
                    refine ab_fin.brT (c := (0 : Int32) = 0) (i := .ifCond .eq 5) (off := 5) (t := 660) (r := []) (by decide +kernel) rfl (by decide +kernel) (by decide +kernel) ?_
                    refine ab_fin.s3 (i := .goto 430) (k := 3) (t := 1090) (st' := []) (by decide +kernel) (ab_goto (by decide +kernel)) ?_
                    refine ab_fin.inc (i := .iinc 4 6) (k := 3) (pc' := 1093) (j := 4) (n := 6) (lv' := [(6, .int 0), (5, .int 0), (3, .ref 3466), (2, .ref 101), (1, .ref 0), (0, .retAddr 9)]) (by decide +kernel) rfl (by decide +kernel) rfl ?_
                    refine ab_fin.s3 (i := .goto (-1070)) (k := 3) (t := 23) (st' := []) (by decide +kernel) (ab_goto (by decide +kernel)) ?_
                    refine ab_fin.s2 (i := .iload 4) (k := 2) (pc' := 25) (lv' := [(4, .int 6), (6, .int 0), (5, .int 0), (3, .ref 3466), (2, .ref 101), (1, .ref 0), (0, .retAddr 9)]) (st' := [.int 6]) (by decide +kernel) rfl rfl ?_
                    refine ab_fin.s2 (i := .aload_n 0) (k := 1) (pc' := 26) (lv' := [(4, .int 6), (6, .int 0), (5, .int 0), (3, .ref 3466), (2, .ref 101), (1, .ref 0), (0, .retAddr 9)]) (st' := [.retAddr 9, .int 6]) (by decide +kernel) rfl rfl ?_
                    refine ab_fin.s8 (i := .arraylength) (k := 1) (pc' := 27) (st' := [.int 6, .int 6]) (by decide +kernel) rfl rfl rfl rfl ?_
                    refine ab_fin.s1i (i := .bipush 6) (k := 2) (pc' := 29) (n := 6) (by decide +kernel) rfl (by decide +kernel) rfl ?_
                    refine ab_fin.s1i (i := .isub) (k := 1) (pc' := 30) (n := 0) (by decide +kernel) rfl (by decide +kernel) rfl ?_
                    refine ab_fin.brT (c := (0 : Int32) < (6 : Int32)) (i := .if_icmp .gt 1066) (off := 1066) (t := 1096) (r := []) (by decide +kernel) rfl (by decide +kernel) (by decide +kernel) ?_
                    refine ab_fin.s1i (i := .iconst 1) (k := 1) (pc' := 1097) (n := 1) (by decide +kernel) rfl (by decide +kernel) rfl ?_
                    refine ab_fin.ret (i := .ireturn) (k := 1) (some (.int 1)) (by decide +kernel) rfl ?_
                    refine ⟨rfl, ?_, ?_⟩
                    · rw [ab_ov_len, hl]; decide
                    · refine Nat.le_trans (ab_ov_z _ _) ?_
                      simp only [List.map, List.sum_cons, List.sum_nil, ab_z1, ab_len, List.length_set, List.length_replicate, List.length_cons, List.length_nil, p1_n101]
                      omega
                  · rw [q71]
                    try rw [show ((((2 * (24 : Int32)) + (2 : Int32)) * (24 : Int32)) + 1) = (1201 : Int32) by decide +kernel]
                    refine ab_fin.iald (v := 0) (pc' := 16) (by decide +kernel) (ab_ov_no f_7 rfl) (ab_bd (n := 1728) (by rw [p1_n7]) (by decide +kernel)) rfl rfl ?_
                    refine ab_fin.ret (i := .ireturn) (k := 1) (some (.int 0)) (by decide +kernel) rfl ?_
                    refine ab_bk.back (pc' := 69) (st' := [.int 0]) rfl rfl ?_
                    refine ab_fin.s3 (i := .goto 4) (k := 3) (t := 73) (st' := [.int 0]) (by decide +kernel) (ab_goto (by decide +kernel)) ?_
                    refine ab_fin.ret (i := .ireturn) (k := 1) (some (.int 0)) (by decide +kernel) rfl ?_
                    refine ab_bk.back (pc' := 10) (st' := [.int 0, .int 0, .ref 3466]) rfl rfl ?_
                    refine ab_fin.s1l (i := .i2l) (k := 1) (pc' := 11) (n := 0) (by decide +kernel) rfl (by decide +kernel) rfl ?_
                    refine ab_fin.last (h1 := ab_ov h [(3466, .inr (.inl (1, .inr (.inl ((List.replicate 1 0).set 0 (0))))))]) (pc' := 12) (by decide +kernel) (ab_ov_no f_3466 rfl) (ab_bd (n := 1) (by rw [List.length_replicate]) (by decide +kernel)) (ab_ov_set rfl) rfl ?_
                    refine ab_fin.s3 (i := .goto 11) (k := 3) (t := 23) (st' := []) (by decide +kernel) (ab_goto (by decide +kernel)) ?_
                    refine ab_fin.s1i (i := .iconst 0) (k := 1) (pc' := 24) (n := 0) (by decide +kernel) rfl (by decide +kernel) rfl ?_
                    refine ab_fin.ret (i := .ireturn) (k := 1) (some (.int 0)) (by decide +kernel) rfl ?_
                    refine ab_bk.back (pc' := 606) (st' := [.int 0]) rfl rfl ?_
                    refine ab_fin.s2 (i := .istore 5) (k := 2) (pc' := 608) (lv' := [(5, .int 0), (4, .int 0), (3, .ref 3466), (2, .ref 101), (1, .ref 0), (0, .retAddr 9)]) (st' := []) (by decide +kernel) rfl rfl ?_
                    refine ab_fin.s2 (i := .aload_n 2) (k := 1) (pc' := 609) (lv' := [(5, .int 0), (4, .int 0), (3, .ref 3466), (2, .ref 101), (1, .ref 0), (0, .retAddr 9)]) (st' := [.ref 101]) (by decide +kernel) rfl rfl ?_
                    refine ab_fin.s2 (i := .aload_n 0) (k := 1) (pc' := 610) (lv' := [(5, .int 0), (4, .int 0), (3, .ref 3466), (2, .ref 101), (1, .ref 0), (0, .retAddr 9)]) (st' := [.retAddr 9, .ref 101]) (by decide +kernel) rfl rfl ?_
                    refine ab_fin.s2 (i := .iload 4) (k := 2) (pc' := 612) (lv' := [(5, .int 0), (4, .int 0), (3, .ref 3466), (2, .ref 101), (1, .ref 0), (0, .retAddr 9)]) (st' := [.int 0, .retAddr 9, .ref 101]) (by decide +kernel) rfl rfl ?_
                    refine ab_fin.s1i (i := .iconst 1) (k := 1) (pc' := 613) (n := 1) (by decide +kernel) rfl (by decide +kernel) rfl ?_
                    refine ab_fin.s1i (i := .iadd) (k := 1) (pc' := 614) (n := 1) (by decide +kernel) rfl (by decide +kernel) rfl ?_
                    refine ab_fin.s8 (i := .iaload) (k := 1) (pc' := 615) (st' := [.int ((xs 1)), .ref 101]) (by decide +kernel) (ab_x0 rfl (by decide +kernel) rfl) rfl rfl rfl ?_
                    refine ab_fin.s2 (i := .aload_n 0) (k := 1) (pc' := 616) (lv' := [(5, .int 0), (4, .int 0), (3, .ref 3466), (2, .ref 101), (1, .ref 0), (0, .retAddr 9)]) (st' := [.retAddr 9, .int ((xs 1)), .ref 101]) (by decide +kernel) rfl rfl ?_
                    refine ab_fin.s2 (i := .iload 4) (k := 2) (pc' := 618) (lv' := [(5, .int 0), (4, .int 0), (3, .ref 3466), (2, .ref 101), (1, .ref 0), (0, .retAddr 9)]) (st' := [.int 0, .retAddr 9, .int ((xs 1)), .ref 101]) (by decide +kernel) rfl rfl ?_
                    refine ab_fin.s1i (i := .iconst 2) (k := 1) (pc' := 619) (n := 2) (by decide +kernel) rfl (by decide +kernel) rfl ?_
                    refine ab_fin.s1i (i := .iadd) (k := 1) (pc' := 620) (n := 2) (by decide +kernel) rfl (by decide +kernel) rfl ?_
                    refine ab_fin.s8 (i := .iaload) (k := 1) (pc' := 621) (st' := [.int ((xs 2)), .int ((xs 1)), .ref 101]) (by decide +kernel) (ab_x0 rfl (by decide +kernel) rfl) rfl rfl rfl ?_
                    refine ab_fin.s2 (i := .aload_n 0) (k := 1) (pc' := 622) (lv' := [(5, .int 0), (4, .int 0), (3, .ref 3466), (2, .ref 101), (1, .ref 0), (0, .retAddr 9)]) (st' := [.retAddr 9, .int ((xs 2)), .int ((xs 1)), .ref 101]) (by decide +kernel) rfl rfl ?_
                    refine ab_fin.s2 (i := .iload 4) (k := 2) (pc' := 624) (lv' := [(5, .int 0), (4, .int 0), (3, .ref 3466), (2, .ref 101), (1, .ref 0), (0, .retAddr 9)]) (st' := [.int 0, .retAddr 9, .int ((xs 2)), .int ((xs 1)), .ref 101]) (by decide +kernel) rfl rfl ?_
                    refine ab_fin.s1i (i := .iconst 3) (k := 1) (pc' := 625) (n := 3) (by decide +kernel) rfl (by decide +kernel) rfl ?_
                    refine ab_fin.s1i (i := .iadd) (k := 1) (pc' := 626) (n := 3) (by decide +kernel) rfl (by decide +kernel) rfl ?_
                    refine ab_fin.s8 (i := .iaload) (k := 1) (pc' := 627) (st' := [.int ((xs 3)), .int ((xs 2)), .int ((xs 1)), .ref 101]) (by decide +kernel) (ab_x0 rfl (by decide +kernel) rfl) rfl rfl rfl ?_
                    refine ab_fin.call (i := .invokevirtual 110) (k := 3) (y := 6003) (As := [.ref 101, .int ((xs 1)), .int ((xs 2)), .int ((xs 3))]) (rest := []) (M' := (mX23_row, [])) (by decide +kernel) (ab_cv rfl rfl (ab_ov_no f_101 rfl) ⟨(Nat.le_of_ble_eq_true rfl), (Nat.le_of_ble_eq_true rfl)⟩ rfl) rfl (Nat.le_of_ble_eq_true rfl) ?_
                    show ab_fin _ _ _ _ 0 [(0, .ref 101), (1, .int ((xs 1))), (2, .int ((xs 2))), (3, .int ((xs 3)))] [] _ _
                    refine ab_fin.s2 (i := .aload_n 0) (k := 1) (pc' := 1) (lv' := [(0, .ref 101), (1, .int ((xs 1))), (2, .int ((xs 2))), (3, .int ((xs 3)))]) (st' := [.ref 101]) (by decide +kernel) rfl rfl ?_
                    refine ab_fin.s1i (i := .iconst 0) (k := 1) (pc' := 2) (n := 0) (by decide +kernel) rfl (by decide +kernel) rfl ?_
                    refine ab_fin.putf (ix := 1000) (h1 := ab_ov h [(101, .inr (.inr (24, (p1_o101).set 110 (.int 0)))), (3466, .inr (.inl (1, .inr (.inl ((List.replicate 1 0).set 0 (0))))))]) (pc' := 5) (by decide +kernel) rfl (ab_ov_no f_101 rfl) (ab_klt (n := 115) (by rw [p1_n101]) (by decide)) rfl rfl (ab_ov_set rfl) rfl ?_
                    refine ab_fin.s2 (i := .aload_n 0) (k := 1) (pc' := 6) (lv' := [(0, .ref 101), (1, .int ((xs 1))), (2, .int ((xs 2))), (3, .int ((xs 3)))]) (st' := [.ref 101]) (by decide +kernel) rfl rfl ?_
                    refine ab_fin.s2 (i := .iload_n 1) (k := 1) (pc' := 7) (lv' := [(0, .ref 101), (1, .int ((xs 1))), (2, .int ((xs 2))), (3, .int ((xs 3)))]) (st' := [.int ((xs 1)), .ref 101]) (by decide +kernel) rfl rfl ?_
                    refine ab_fin.call (i := .invokevirtual 1018) (k := 3) (y := 6001) (As := [.ref 101, .int ((xs 1))]) (rest := []) (M' := (mX23_isKind, [])) (by decide +kernel) (ab_cv rfl rfl (ab_ov_get (lt0 101 (by decide)) rfl) ⟨(Nat.le_of_ble_eq_true rfl), (Nat.le_of_ble_eq_true rfl)⟩ rfl) rfl (Nat.le_of_ble_eq_true rfl) ?_
                    show ab_fin _ _ _ _ 0 [(0, .ref 101), (1, .int ((xs 1)))] [] _ _
                    refine ab_fin.s2 (i := .iload_n 1) (k := 1) (pc' := 1) (lv' := [(0, .ref 101), (1, .int ((xs 1)))]) (st' := [.int ((xs 1))]) (by decide +kernel) rfl rfl ?_
                    refine ab_fin.brF (c := (xs 1) < 0) (i := .ifCond .lt 15) (off := 15) (t := 16) (pc' := 4) (r := []) (by decide +kernel) rfl (by decide +kernel) rfl (by have l0 : (0 : Int32).toInt = 0 := rfl; have l1 : (1 : Int32).toInt = 1 := rfl; have l2 : (2 : Int32).toInt = 2 := rfl; have l3 : (3 : Int32).toInt = 3 := rfl; simp only [← Int32.toInt_inj, Int32.lt_iff_toInt_lt, Int32.le_iff_toInt_le, l0, l1, l2, l3] at q1 q2 q3 q4 q5 q6 q54 q57 q71 ⊢; omega) ?_
                    refine ab_fin.s2 (i := .iload_n 1) (k := 1) (pc' := 5) (lv' := [(0, .ref 101), (1, .int ((xs 1)))]) (st' := [.int ((xs 1))]) (by decide +kernel) rfl rfl ?_
                    refine ab_fin.s2 (i := .aload_n 0) (k := 1) (pc' := 6) (lv' := [(0, .ref 101), (1, .int ((xs 1)))]) (st' := [.ref 101, .int ((xs 1))]) (by decide +kernel) rfl rfl ?_
                    refine ab_fin.getf (ix := 13) (k := 4) (v := .int 3) (pc' := 9) (by decide +kernel) rfl (ab_ov_get (lt0 101 (by decide)) rfl) rfl rfl ?_
                    refine ab_fin.brF (c := (3 : Int32) ≤ (xs 1)) (i := .if_icmp .ge 7) (off := 7) (t := 16) (pc' := 12) (r := []) (by decide +kernel) rfl (by decide +kernel) rfl (by have l0 : (0 : Int32).toInt = 0 := rfl; have l1 : (1 : Int32).toInt = 1 := rfl; have l2 : (2 : Int32).toInt = 2 := rfl; have l3 : (3 : Int32).toInt = 3 := rfl; simp only [← Int32.toInt_inj, Int32.lt_iff_toInt_lt, Int32.le_iff_toInt_le, l0, l1, l2, l3] at q1 q2 q3 q4 q5 q6 q54 q57 q71 ⊢; omega) ?_
                    refine ab_fin.s1i (i := .iconst 1) (k := 1) (pc' := 13) (n := 1) (by decide +kernel) rfl (by decide +kernel) rfl ?_
                    refine ab_fin.s3 (i := .goto 4) (k := 3) (t := 17) (st' := [.int 1]) (by decide +kernel) (ab_goto (by decide +kernel)) ?_
                    refine ab_fin.ret (i := .ireturn) (k := 1) (some (.int 1)) (by decide +kernel) rfl ?_
                    refine ab_bk.back (pc' := 10) (st' := [.int 1]) rfl rfl ?_
                    refine ab_fin.brF (c := (1 : Int32) = 0) (i := .ifCond .eq 7) (off := 7) (t := 17) (pc' := 13) (r := []) (by decide +kernel) rfl (by decide +kernel) rfl (by decide +kernel) ?_
                    refine ab_fin.s2 (i := .iload_n 3) (k := 1) (pc' := 14) (lv' := [(0, .ref 101), (1, .int ((xs 1))), (2, .int ((xs 2))), (3, .int ((xs 3)))]) (st' := [.int ((xs 3))]) (by decide +kernel) rfl rfl ?_
                    refine ab_fin.brT (c := 0 ≤ (xs 3)) (i := .ifCond .ge 9) (off := 9) (t := 23) (r := []) (by decide +kernel) rfl (by decide +kernel) (by have l0 : (0 : Int32).toInt = 0 := rfl; have l1 : (1 : Int32).toInt = 1 := rfl; have l2 : (2 : Int32).toInt = 2 := rfl; have l3 : (3 : Int32).toInt = 3 := rfl; simp only [← Int32.toInt_inj, Int32.lt_iff_toInt_lt, Int32.le_iff_toInt_le, l0, l1, l2, l3] at q1 q2 q3 q4 q5 q6 q54 q57 q71 ⊢; omega) ?_
                    refine ab_fin.s2 (i := .iload_n 2) (k := 1) (pc' := 24) (lv' := [(0, .ref 101), (1, .int ((xs 1))), (2, .int ((xs 2))), (3, .int ((xs 3)))]) (st' := [.int ((xs 2))]) (by decide +kernel) rfl rfl ?_
                    refine ab_fin.brF (c := (xs 2) < 0) (i := .ifCond .lt 8) (off := 8) (t := 32) (pc' := 27) (r := []) (by decide +kernel) rfl (by decide +kernel) rfl (by have l0 : (0 : Int32).toInt = 0 := rfl; have l1 : (1 : Int32).toInt = 1 := rfl; have l2 : (2 : Int32).toInt = 2 := rfl; have l3 : (3 : Int32).toInt = 3 := rfl; simp only [← Int32.toInt_inj, Int32.lt_iff_toInt_lt, Int32.le_iff_toInt_le, l0, l1, l2, l3] at q1 q2 q3 q4 q5 q6 q54 q57 q71 ⊢; omega) ?_
                    refine ab_fin.s2 (i := .iload_n 2) (k := 1) (pc' := 28) (lv' := [(0, .ref 101), (1, .int ((xs 1))), (2, .int ((xs 2))), (3, .int ((xs 3)))]) (st' := [.int ((xs 2))]) (by decide +kernel) rfl rfl ?_
                    refine ab_fin.s1i (i := .iconst 2) (k := 1) (pc' := 29) (n := 2) (by decide +kernel) rfl (by decide +kernel) rfl ?_
                    refine ab_fin.brT (c := (xs 2) ≤ (2 : Int32)) (i := .if_icmp .le 9) (off := 9) (t := 38) (r := []) (by decide +kernel) rfl (by decide +kernel) (by have l0 : (0 : Int32).toInt = 0 := rfl; have l1 : (1 : Int32).toInt = 1 := rfl; have l2 : (2 : Int32).toInt = 2 := rfl; have l3 : (3 : Int32).toInt = 3 := rfl; simp only [← Int32.toInt_inj, Int32.lt_iff_toInt_lt, Int32.le_iff_toInt_le, l0, l1, l2, l3] at q1 q2 q3 q4 q5 q6 q54 q57 q71 ⊢; omega) ?_
                    refine ab_fin.s2 (i := .iload_n 3) (k := 1) (pc' := 39) (lv' := [(0, .ref 101), (1, .int ((xs 1))), (2, .int ((xs 2))), (3, .int ((xs 3)))]) (st' := [.int ((xs 3))]) (by decide +kernel) rfl rfl ?_
                    refine ab_fin.s2 (i := .aload_n 0) (k := 1) (pc' := 40) (lv' := [(0, .ref 101), (1, .int ((xs 1))), (2, .int ((xs 2))), (3, .int ((xs 3)))]) (st' := [.ref 101, .int ((xs 3))]) (by decide +kernel) rfl rfl ?_
                    refine ab_fin.getf (ix := 17) (k := 0) (v := .ref 102) (pc' := 43) (by decide +kernel) rfl (ab_ov_get (lt0 101 (by decide)) rfl) rfl rfl ?_
                    refine ab_fin.s2 (i := .iload_n 1) (k := 1) (pc' := 44) (lv' := [(0, .ref 101), (1, .int ((xs 1))), (2, .int ((xs 2))), (3, .int ((xs 3)))]) (st' := [.int ((xs 1)), .ref 102, .int ((xs 3))]) (by decide +kernel) rfl rfl ?_
                    have q81 : (xs 1) = 2 := (by have l0 : (0 : Int32).toInt = 0 := rfl; have l1 : (1 : Int32).toInt = 1 := rfl; have l2 : (2 : Int32).toInt = 2 := rfl; have l3 : (3 : Int32).toInt = 3 := rfl; simp only [← Int32.toInt_inj, Int32.lt_iff_toInt_lt, Int32.le_iff_toInt_le, l0, l1, l2, l3] at q1 q2 q3 q4 q5 q6 q54 q57 q71 ⊢; omega)
                    rw [q81]
                    refine ab_fin.aald (v := .ref 2312) (pc' := 45) (by decide +kernel) (ab_ov_no f_102 rfl) (by decide) rfl (ab_bd (n := 24) (by rw [p1_n102]) (by decide +kernel)) rfl rfl ?_
                    refine ab_fin.getf (ix := 79) (k := 5) (v := .ref 2320) (pc' := 48) (by decide +kernel) rfl (ab_ov_no f_2312 rfl) rfl rfl ?_
                    refine ab_fin.s2 (i := .iload_n 2) (k := 1) (pc' := 49) (lv' := [(0, .ref 101), (1, .int 2), (2, .int ((xs 2))), (3, .int ((xs 3)))]) (st' := [.int ((xs 2)), .ref 2320, .int ((xs 3))]) (by decide +kernel) rfl rfl ?_
                    have q82 : (xs 2) = 2 := (by have l0 : (0 : Int32).toInt = 0 := rfl; have l1 : (1 : Int32).toInt = 1 := rfl; have l2 : (2 : Int32).toInt = 2 := rfl; have l3 : (3 : Int32).toInt = 3 := rfl; simp only [← Int32.toInt_inj, Int32.lt_iff_toInt_lt, Int32.le_iff_toInt_le, l0, l1, l2, l3] at q1 q2 q3 q4 q5 q6 q54 q57 q71 q81 ⊢; omega)
                    rw [q82]
                    refine ab_fin.iald (v := 2) (pc' := 50) (by decide +kernel) (ab_ov_no f_2320 rfl) (ab_bd (n := 3) (by rw [List.length_replicate]) (by decide +kernel)) rfl rfl ?_
                    refine ab_fin.brF (c := (2 : Int32) ≤ (xs 3)) (i := .if_icmp .ge 19) (off := 19) (t := 69) (pc' := 53) (r := []) (by decide +kernel) rfl (by decide +kernel) rfl (by have l0 : (0 : Int32).toInt = 0 := rfl; have l1 : (1 : Int32).toInt = 1 := rfl; have l2 : (2 : Int32).toInt = 2 := rfl; have l3 : (3 : Int32).toInt = 3 := rfl; simp only [← Int32.toInt_inj, Int32.lt_iff_toInt_lt, Int32.le_iff_toInt_le, l0, l1, l2, l3] at q1 q2 q3 q4 q5 q6 q54 q57 q71 q81 q82 ⊢; omega) ?_
                    refine ab_fin.s2 (i := .aload_n 0) (k := 1) (pc' := 54) (lv' := [(0, .ref 101), (1, .int 2), (2, .int 2), (3, .int ((xs 3)))]) (st' := [.ref 101]) (by decide +kernel) rfl rfl ?_
                    refine ab_fin.getf (ix := 17) (k := 0) (v := .ref 102) (pc' := 57) (by decide +kernel) rfl (ab_ov_get (lt0 101 (by decide)) rfl) rfl rfl ?_
                    refine ab_fin.s2 (i := .iload_n 1) (k := 1) (pc' := 58) (lv' := [(0, .ref 101), (1, .int 2), (2, .int 2), (3, .int ((xs 3)))]) (st' := [.int 2, .ref 102]) (by decide +kernel) rfl rfl ?_
                    refine ab_fin.aald (v := .ref 2312) (pc' := 59) (by decide +kernel) (ab_ov_no f_102 rfl) (by decide) rfl (ab_bd (n := 24) (by rw [p1_n102]) (by decide +kernel)) rfl rfl ?_
                    refine ab_fin.getf (ix := 86) (k := 4) (v := .ref 2316) (pc' := 62) (by decide +kernel) rfl (ab_ov_no f_2312 rfl) rfl rfl ?_
                    refine ab_fin.s2 (i := .iload_n 2) (k := 1) (pc' := 63) (lv' := [(0, .ref 101), (1, .int 2), (2, .int 2), (3, .int ((xs 3)))]) (st' := [.int 2, .ref 2316]) (by decide +kernel) rfl rfl ?_
                    refine ab_fin.aald (v := .ref 2319) (pc' := 64) (by decide +kernel) (ab_ov_no f_2316 rfl) (by decide) rfl (ab_bd (n := 3) (by rw [p1_n2316]) (by decide +kernel)) rfl rfl ?_
                    refine ab_fin.s2 (i := .iload_n 3) (k := 1) (pc' := 65) (lv' := [(0, .ref 101), (1, .int 2), (2, .int 2), (3, .int ((xs 3)))]) (st' := [.int ((xs 3)), .ref 2319]) (by decide +kernel) rfl rfl ?_
                    have q83 : (xs 3) = 1 := (by have l0 : (0 : Int32).toInt = 0 := rfl; have l1 : (1 : Int32).toInt = 1 := rfl; have l2 : (2 : Int32).toInt = 2 := rfl; have l3 : (3 : Int32).toInt = 3 := rfl; simp only [← Int32.toInt_inj, Int32.lt_iff_toInt_lt, Int32.le_iff_toInt_le, l0, l1, l2, l3] at q1 q2 q3 q4 q5 q6 q54 q57 q71 q81 q82 ⊢; omega)
                    rw [q83]
                    refine ab_fin.iald (v := 0) (pc' := 66) (by decide +kernel) (ab_ov_no f_2319 rfl) (ab_bd (n := 24) (by rw [p1_n2319]) (by decide +kernel)) rfl rfl ?_
                    refine ab_fin.s3 (i := .goto 4) (k := 3) (t := 70) (st' := [.int 0]) (by decide +kernel) (ab_goto (by decide +kernel)) ?_
                    refine ab_fin.ret (i := .ireturn) (k := 1) (some (.int 0)) (by decide +kernel) rfl ?_
                    refine ab_bk.back (pc' := 630) (st' := [.int 0]) rfl rfl ?_
                    refine ab_fin.s2 (i := .istore 6) (k := 2) (pc' := 632) (lv' := [(6, .int 0), (5, .int 0), (4, .int 0), (3, .ref 3466), (2, .ref 101), (1, .ref 0), (0, .retAddr 9)]) (st' := []) (by decide +kernel) rfl rfl ?_
                    refine ab_fin.s2 (i := .aload_n 2) (k := 1) (pc' := 633) (lv' := [(6, .int 0), (5, .int 0), (4, .int 0), (3, .ref 3466), (2, .ref 101), (1, .ref 0), (0, .retAddr 9)]) (st' := [.ref 101]) (by decide +kernel) rfl rfl ?_
                    refine ab_fin.call (i := .invokevirtual 75) (k := 3) (y := 5992) (As := [.ref 101]) (rest := []) (M' := (mX23_thrown, [])) (by decide +kernel) (ab_cv rfl rfl (ab_ov_get (lt0 101 (by decide)) rfl) ⟨(Nat.le_of_ble_eq_true rfl), (Nat.le_of_ble_eq_true rfl)⟩ rfl) rfl (Nat.le_of_ble_eq_true rfl) ?_
                    show ab_fin _ _ _ _ 0 [(0, .ref 101)] [] _ _
                    refine ab_fin.s2 (i := .aload_n 0) (k := 1) (pc' := 1) (lv' := [(0, .ref 101)]) (st' := [.ref 101]) (by decide +kernel) rfl rfl ?_
                    refine ab_fin.getf (ix := 1000) (k := 110) (v := .int 0) (pc' := 4) (by decide +kernel) rfl (ab_ov_get (lt0 101 (by decide)) rfl) rfl rfl ?_
                    refine ab_fin.ret (i := .ireturn) (k := 1) (some (.int 0)) (by decide +kernel) rfl ?_
                    refine ab_bk.back (pc' := 636) (st' := [.int 0]) rfl rfl ?_
                    refine ab_fin.s2 (i := .iload 5) (k := 2) (pc' := 638) (lv' := [(6, .int 0), (5, .int 0), (4, .int 0), (3, .ref 3466), (2, .ref 101), (1, .ref 0), (0, .retAddr 9)]) (st' := [.int 0, .int 0]) (by decide +kernel) rfl rfl ?_
                    refine ab_fin.brT (c := (0 : Int32) = (0 : Int32)) (i := .if_icmp .eq 5) (off := 5) (t := 643) (r := []) (by decide +kernel) rfl (by decide +kernel) (by decide +kernel) ?_
                    refine ab_fin.s2 (i := .iload 5) (k := 2) (pc' := 645) (lv' := [(6, .int 0), (5, .int 0), (4, .int 0), (3, .ref 3466), (2, .ref 101), (1, .ref 0), (0, .retAddr 9)]) (st' := [.int 0]) (by decide +kernel) rfl rfl ?_
                    refine ab_fin.brF (c := ¬ (0 : Int32) = 0) (i := .ifCond .ne 15) (off := 15) (t := 660) (pc' := 648) (r := []) (by decide +kernel) rfl (by decide +kernel) rfl (by decide +kernel) ?_
                    refine ab_fin.s2 (i := .aload_n 3) (k := 1) (pc' := 649) (lv' := [(6, .int 0), (5, .int 0), (4, .int 0), (3, .ref 3466), (2, .ref 101), (1, .ref 0), (0, .retAddr 9)]) (st' := [.ref 3466]) (by decide +kernel) rfl rfl ?_
                    refine ab_fin.s1i (i := .iconst 0) (k := 1) (pc' := 650) (n := 0) (by decide +kernel) rfl (by decide +kernel) rfl ?_
                    refine ab_fin.lald (v := 0) (pc' := 651) (by decide +kernel) (ab_ov_get (lt0 3466 (by decide)) rfl) (ab_bd (n := 1) (by rw [List.length_set, List.length_replicate]) (by decide +kernel)) rfl rfl ?_
                    refine ab_fin.s2 (i := .iload 6) (k := 2) (pc' := 653) (lv' := [(6, .int 0), (5, .int 0), (4, .int 0), (3, .ref 3466), (2, .ref 101), (1, .ref 0), (0, .retAddr 9)]) (st' := [.int 0, .long 0]) (by decide +kernel) rfl rfl ?_
                    refine ab_fin.s1l (i := .i2l) (k := 1) (pc' := 654) (n := 0) (by decide +kernel) rfl (by decide +kernel) rfl ?_
                    refine ab_fin.s1i (i := .lcmp) (k := 1) (pc' := 655) (n := 0) (by decide +kernel) rfl (by decide +kernel) rfl ?_
                    refine ab_fin.brT (c := (0 : Int32) = 0) (i := .ifCond .eq 5) (off := 5) (t := 660) (r := []) (by decide +kernel) rfl (by decide +kernel) (by decide +kernel) ?_
                    refine ab_fin.s3 (i := .goto 430) (k := 3) (t := 1090) (st' := []) (by decide +kernel) (ab_goto (by decide +kernel)) ?_
                    refine ab_fin.inc (i := .iinc 4 6) (k := 3) (pc' := 1093) (j := 4) (n := 6) (lv' := [(6, .int 0), (5, .int 0), (3, .ref 3466), (2, .ref 101), (1, .ref 0), (0, .retAddr 9)]) (by decide +kernel) rfl (by decide +kernel) rfl ?_
                    refine ab_fin.s3 (i := .goto (-1070)) (k := 3) (t := 23) (st' := []) (by decide +kernel) (ab_goto (by decide +kernel)) ?_
                    refine ab_fin.s2 (i := .iload 4) (k := 2) (pc' := 25) (lv' := [(4, .int 6), (6, .int 0), (5, .int 0), (3, .ref 3466), (2, .ref 101), (1, .ref 0), (0, .retAddr 9)]) (st' := [.int 6]) (by decide +kernel) rfl rfl ?_
                    refine ab_fin.s2 (i := .aload_n 0) (k := 1) (pc' := 26) (lv' := [(4, .int 6), (6, .int 0), (5, .int 0), (3, .ref 3466), (2, .ref 101), (1, .ref 0), (0, .retAddr 9)]) (st' := [.retAddr 9, .int 6]) (by decide +kernel) rfl rfl ?_
                    refine ab_fin.s8 (i := .arraylength) (k := 1) (pc' := 27) (st' := [.int 6, .int 6]) (by decide +kernel) rfl rfl rfl rfl ?_
                    refine ab_fin.s1i (i := .bipush 6) (k := 2) (pc' := 29) (n := 6) (by decide +kernel) rfl (by decide +kernel) rfl ?_
                    refine ab_fin.s1i (i := .isub) (k := 1) (pc' := 30) (n := 0) (by decide +kernel) rfl (by decide +kernel) rfl ?_
                    refine ab_fin.brT (c := (0 : Int32) < (6 : Int32)) (i := .if_icmp .gt 1066) (off := 1066) (t := 1096) (r := []) (by decide +kernel) rfl (by decide +kernel) (by decide +kernel) ?_
                    refine ab_fin.s1i (i := .iconst 1) (k := 1) (pc' := 1097) (n := 1) (by decide +kernel) rfl (by decide +kernel) rfl ?_
                    refine ab_fin.ret (i := .ireturn) (k := 1) (some (.int 1)) (by decide +kernel) rfl ?_
                    refine ⟨rfl, ?_, ?_⟩
                    · rw [ab_ov_len, hl]; decide
                    · refine Nat.le_trans (ab_ov_z _ _) ?_
                      simp only [List.map, List.sum_cons, List.sum_nil, ab_z1, ab_len, List.length_set, List.length_replicate, List.length_cons, List.length_nil, p1_n101]
                      omega
          · refine ab_fin.thrN (i := .new 99) (k := 3) (cls := "java/lang/IllegalArgumentException") (n := 3467) (by decide +kernel) (by decide +kernel) (fun ix q => by cases q; rfl) (by decide) (Nat.le_of_ble_eq_true rfl) ((ab_ov_len _ _).trans hl) (ab_ov_app (by rw [hl]; decide +kernel)) ?_
            obtain ⟨h1, e1⟩ : ∃ h2 : List ab_E, h2 = h ++ [.inl 6] := ⟨_, rfl⟩
            have hl1 : h1.length = 3468 := by rw [e1, List.length_append, hl]; rfl
            have lt1 : ∀ a, a < 3468 → a < h1.length := fun a q => by rw [hl1]; exact q
            have hz1 : ab_z h1 = ab_z h + 6 := by rw [e1, ab_z_app]; rfl
            have f1_0 := (show h1[0]? = h[0]? by rw [e1, List.getElem?_append_left (by rw [hl]; decide)]).trans f_0
            have f1_1 := (show h1[1]? = h[1]? by rw [e1, List.getElem?_append_left (by rw [hl]; decide)]).trans f_1
            have f1_2 := (show h1[2]? = h[2]? by rw [e1, List.getElem?_append_left (by rw [hl]; decide)]).trans f_2
            have f1_5 := (show h1[5]? = h[5]? by rw [e1, List.getElem?_append_left (by rw [hl]; decide)]).trans f_5
            have f1_7 := (show h1[7]? = h[7]? by rw [e1, List.getElem?_append_left (by rw [hl]; decide)]).trans f_7
            have f1_28 := (show h1[28]? = h[28]? by rw [e1, List.getElem?_append_left (by rw [hl]; decide)]).trans f_28
            have f1_101 := (show h1[101]? = h[101]? by rw [e1, List.getElem?_append_left (by rw [hl]; decide)]).trans f_101
            have f1_102 := (show h1[102]? = h[102]? by rw [e1, List.getElem?_append_left (by rw [hl]; decide)]).trans f_102
            have f1_2294 := (show h1[2294]? = h[2294]? by rw [e1, List.getElem?_append_left (by rw [hl]; decide)]).trans f_2294
            have f1_2298 := (show h1[2298]? = h[2298]? by rw [e1, List.getElem?_append_left (by rw [hl]; decide)]).trans f_2298
            have f1_2299 := (show h1[2299]? = h[2299]? by rw [e1, List.getElem?_append_left (by rw [hl]; decide)]).trans f_2299
            have f1_2300 := (show h1[2300]? = h[2300]? by rw [e1, List.getElem?_append_left (by rw [hl]; decide)]).trans f_2300
            have f1_2301 := (show h1[2301]? = h[2301]? by rw [e1, List.getElem?_append_left (by rw [hl]; decide)]).trans f_2301
            have f1_2302 := (show h1[2302]? = h[2302]? by rw [e1, List.getElem?_append_left (by rw [hl]; decide)]).trans f_2302
            have f1_2303 := (show h1[2303]? = h[2303]? by rw [e1, List.getElem?_append_left (by rw [hl]; decide)]).trans f_2303
            have f1_2307 := (show h1[2307]? = h[2307]? by rw [e1, List.getElem?_append_left (by rw [hl]; decide)]).trans f_2307
            have f1_2308 := (show h1[2308]? = h[2308]? by rw [e1, List.getElem?_append_left (by rw [hl]; decide)]).trans f_2308
            have f1_2309 := (show h1[2309]? = h[2309]? by rw [e1, List.getElem?_append_left (by rw [hl]; decide)]).trans f_2309
            have f1_2310 := (show h1[2310]? = h[2310]? by rw [e1, List.getElem?_append_left (by rw [hl]; decide)]).trans f_2310
            have f1_2311 := (show h1[2311]? = h[2311]? by rw [e1, List.getElem?_append_left (by rw [hl]; decide)]).trans f_2311
            have f1_2312 := (show h1[2312]? = h[2312]? by rw [e1, List.getElem?_append_left (by rw [hl]; decide)]).trans f_2312
            have f1_2316 := (show h1[2316]? = h[2316]? by rw [e1, List.getElem?_append_left (by rw [hl]; decide)]).trans f_2316
            have f1_2317 := (show h1[2317]? = h[2317]? by rw [e1, List.getElem?_append_left (by rw [hl]; decide)]).trans f_2317
            have f1_2318 := (show h1[2318]? = h[2318]? by rw [e1, List.getElem?_append_left (by rw [hl]; decide)]).trans f_2318
            have f1_2319 := (show h1[2319]? = h[2319]? by rw [e1, List.getElem?_append_left (by rw [hl]; decide)]).trans f_2319
            have f1_2320 := (show h1[2320]? = h[2320]? by rw [e1, List.getElem?_append_left (by rw [hl]; decide)]).trans f_2320
            have f1_3466 := (show h1[3466]? = h[3466]? by rw [e1, List.getElem?_append_left (by rw [hl]; decide)]).trans f_3466
            rw [← e1]
            refine ab_bk.catch (hp := 19) (by decide +kernel) rfl ?_
            refine ab_fin.s2 (i := .astore 5) (k := 2) (pc' := 21) (lv' := [(5, .ref 3467), (0, .ref 0), (1, .int ((xs 1))), (2, .int ((xs 2))), (3, .int ((xs 3))), (4, .ref 3466)]) (st' := []) (by decide +kernel) rfl rfl ?_
            refine ab_fin.s1i (i := .iconst 2) (k := 1) (pc' := 22) (n := 2) (by decide +kernel) rfl (by decide +kernel) rfl ?_
            refine ab_fin.ret (i := .ireturn) (k := 1) (some (.int 2)) (by decide +kernel) rfl ?_
            refine ab_bk.back (pc' := 606) (st' := [.int 2]) rfl rfl ?_
            refine ab_fin.s2 (i := .istore 5) (k := 2) (pc' := 608) (lv' := [(5, .int 2), (4, .int 0), (3, .ref 3466), (2, .ref 101), (1, .ref 0), (0, .retAddr 9)]) (st' := []) (by decide +kernel) rfl rfl ?_
            refine ab_fin.s2 (i := .aload_n 2) (k := 1) (pc' := 609) (lv' := [(5, .int 2), (4, .int 0), (3, .ref 3466), (2, .ref 101), (1, .ref 0), (0, .retAddr 9)]) (st' := [.ref 101]) (by decide +kernel) rfl rfl ?_
            refine ab_fin.s2 (i := .aload_n 0) (k := 1) (pc' := 610) (lv' := [(5, .int 2), (4, .int 0), (3, .ref 3466), (2, .ref 101), (1, .ref 0), (0, .retAddr 9)]) (st' := [.retAddr 9, .ref 101]) (by decide +kernel) rfl rfl ?_
            refine ab_fin.s2 (i := .iload 4) (k := 2) (pc' := 612) (lv' := [(5, .int 2), (4, .int 0), (3, .ref 3466), (2, .ref 101), (1, .ref 0), (0, .retAddr 9)]) (st' := [.int 0, .retAddr 9, .ref 101]) (by decide +kernel) rfl rfl ?_
            refine ab_fin.s1i (i := .iconst 1) (k := 1) (pc' := 613) (n := 1) (by decide +kernel) rfl (by decide +kernel) rfl ?_
            refine ab_fin.s1i (i := .iadd) (k := 1) (pc' := 614) (n := 1) (by decide +kernel) rfl (by decide +kernel) rfl ?_
            refine ab_fin.s8 (i := .iaload) (k := 1) (pc' := 615) (st' := [.int ((xs 1)), .ref 101]) (by decide +kernel) (ab_x0 rfl (by decide +kernel) rfl) rfl rfl rfl ?_
            refine ab_fin.s2 (i := .aload_n 0) (k := 1) (pc' := 616) (lv' := [(5, .int 2), (4, .int 0), (3, .ref 3466), (2, .ref 101), (1, .ref 0), (0, .retAddr 9)]) (st' := [.retAddr 9, .int ((xs 1)), .ref 101]) (by decide +kernel) rfl rfl ?_
            refine ab_fin.s2 (i := .iload 4) (k := 2) (pc' := 618) (lv' := [(5, .int 2), (4, .int 0), (3, .ref 3466), (2, .ref 101), (1, .ref 0), (0, .retAddr 9)]) (st' := [.int 0, .retAddr 9, .int ((xs 1)), .ref 101]) (by decide +kernel) rfl rfl ?_
            refine ab_fin.s1i (i := .iconst 2) (k := 1) (pc' := 619) (n := 2) (by decide +kernel) rfl (by decide +kernel) rfl ?_
            refine ab_fin.s1i (i := .iadd) (k := 1) (pc' := 620) (n := 2) (by decide +kernel) rfl (by decide +kernel) rfl ?_
            refine ab_fin.s8 (i := .iaload) (k := 1) (pc' := 621) (st' := [.int ((xs 2)), .int ((xs 1)), .ref 101]) (by decide +kernel) (ab_x0 rfl (by decide +kernel) rfl) rfl rfl rfl ?_
            refine ab_fin.s2 (i := .aload_n 0) (k := 1) (pc' := 622) (lv' := [(5, .int 2), (4, .int 0), (3, .ref 3466), (2, .ref 101), (1, .ref 0), (0, .retAddr 9)]) (st' := [.retAddr 9, .int ((xs 2)), .int ((xs 1)), .ref 101]) (by decide +kernel) rfl rfl ?_
            refine ab_fin.s2 (i := .iload 4) (k := 2) (pc' := 624) (lv' := [(5, .int 2), (4, .int 0), (3, .ref 3466), (2, .ref 101), (1, .ref 0), (0, .retAddr 9)]) (st' := [.int 0, .retAddr 9, .int ((xs 2)), .int ((xs 1)), .ref 101]) (by decide +kernel) rfl rfl ?_
            refine ab_fin.s1i (i := .iconst 3) (k := 1) (pc' := 625) (n := 3) (by decide +kernel) rfl (by decide +kernel) rfl ?_
            refine ab_fin.s1i (i := .iadd) (k := 1) (pc' := 626) (n := 3) (by decide +kernel) rfl (by decide +kernel) rfl ?_
            refine ab_fin.s8 (i := .iaload) (k := 1) (pc' := 627) (st' := [.int ((xs 3)), .int ((xs 2)), .int ((xs 1)), .ref 101]) (by decide +kernel) (ab_x0 rfl (by decide +kernel) rfl) rfl rfl rfl ?_
            refine ab_fin.call (i := .invokevirtual 110) (k := 3) (y := 6003) (As := [.ref 101, .int ((xs 1)), .int ((xs 2)), .int ((xs 3))]) (rest := []) (M' := (mX23_row, [])) (by decide +kernel) (ab_cv rfl rfl (ab_ov_no f1_101 rfl) ⟨(Nat.le_of_ble_eq_true rfl), (Nat.le_of_ble_eq_true rfl)⟩ rfl) rfl (Nat.le_of_ble_eq_true rfl) ?_
            show ab_fin _ _ _ _ 0 [(0, .ref 101), (1, .int ((xs 1))), (2, .int ((xs 2))), (3, .int ((xs 3)))] [] _ _
            refine ab_fin.s2 (i := .aload_n 0) (k := 1) (pc' := 1) (lv' := [(0, .ref 101), (1, .int ((xs 1))), (2, .int ((xs 2))), (3, .int ((xs 3)))]) (st' := [.ref 101]) (by decide +kernel) rfl rfl ?_
            refine ab_fin.s1i (i := .iconst 0) (k := 1) (pc' := 2) (n := 0) (by decide +kernel) rfl (by decide +kernel) rfl ?_
            refine ab_fin.putf (ix := 1000) (h1 := ab_ov h1 [(101, .inr (.inr (24, (p1_o101).set 110 (.int 0))))]) (pc' := 5) (by decide +kernel) rfl (ab_ov_no f1_101 rfl) (ab_klt (n := 115) (by rw [p1_n101]) (by decide)) rfl rfl (ab_ov_set rfl) rfl ?_
            refine ab_fin.s2 (i := .aload_n 0) (k := 1) (pc' := 6) (lv' := [(0, .ref 101), (1, .int ((xs 1))), (2, .int ((xs 2))), (3, .int ((xs 3)))]) (st' := [.ref 101]) (by decide +kernel) rfl rfl ?_
            refine ab_fin.s2 (i := .iload_n 1) (k := 1) (pc' := 7) (lv' := [(0, .ref 101), (1, .int ((xs 1))), (2, .int ((xs 2))), (3, .int ((xs 3)))]) (st' := [.int ((xs 1)), .ref 101]) (by decide +kernel) rfl rfl ?_
            refine ab_fin.call (i := .invokevirtual 1018) (k := 3) (y := 6001) (As := [.ref 101, .int ((xs 1))]) (rest := []) (M' := (mX23_isKind, [])) (by decide +kernel) (ab_cv rfl rfl (ab_ov_get (lt1 101 (by decide)) rfl) ⟨(Nat.le_of_ble_eq_true rfl), (Nat.le_of_ble_eq_true rfl)⟩ rfl) rfl (Nat.le_of_ble_eq_true rfl) ?_
            show ab_fin _ _ _ _ 0 [(0, .ref 101), (1, .int ((xs 1)))] [] _ _
            refine ab_fin.s2 (i := .iload_n 1) (k := 1) (pc' := 1) (lv' := [(0, .ref 101), (1, .int ((xs 1)))]) (st' := [.int ((xs 1))]) (by decide +kernel) rfl rfl ?_
            refine ab_fin.brF (c := (xs 1) < 0) (i := .ifCond .lt 15) (off := 15) (t := 16) (pc' := 4) (r := []) (by decide +kernel) rfl (by decide +kernel) rfl (by have l0 : (0 : Int32).toInt = 0 := rfl; have l3 : (3 : Int32).toInt = 3 := rfl; simp only [← Int32.toInt_inj, Int32.lt_iff_toInt_lt, Int32.le_iff_toInt_le, l0, l3] at q1 q2 q3 q4 q5 ⊢; omega) ?_
            refine ab_fin.s2 (i := .iload_n 1) (k := 1) (pc' := 5) (lv' := [(0, .ref 101), (1, .int ((xs 1)))]) (st' := [.int ((xs 1))]) (by decide +kernel) rfl rfl ?_
            refine ab_fin.s2 (i := .aload_n 0) (k := 1) (pc' := 6) (lv' := [(0, .ref 101), (1, .int ((xs 1)))]) (st' := [.ref 101, .int ((xs 1))]) (by decide +kernel) rfl rfl ?_
            refine ab_fin.getf (ix := 13) (k := 4) (v := .int 3) (pc' := 9) (by decide +kernel) rfl (ab_ov_get (lt1 101 (by decide)) rfl) rfl rfl ?_
            refine ab_fin.brF (c := (3 : Int32) ≤ (xs 1)) (i := .if_icmp .ge 7) (off := 7) (t := 16) (pc' := 12) (r := []) (by decide +kernel) rfl (by decide +kernel) rfl (by have l0 : (0 : Int32).toInt = 0 := rfl; have l3 : (3 : Int32).toInt = 3 := rfl; simp only [← Int32.toInt_inj, Int32.lt_iff_toInt_lt, Int32.le_iff_toInt_le, l0, l3] at q1 q2 q3 q4 q5 ⊢; omega) ?_
            refine ab_fin.s1i (i := .iconst 1) (k := 1) (pc' := 13) (n := 1) (by decide +kernel) rfl (by decide +kernel) rfl ?_
            refine ab_fin.s3 (i := .goto 4) (k := 3) (t := 17) (st' := [.int 1]) (by decide +kernel) (ab_goto (by decide +kernel)) ?_
            refine ab_fin.ret (i := .ireturn) (k := 1) (some (.int 1)) (by decide +kernel) rfl ?_
            refine ab_bk.back (pc' := 10) (st' := [.int 1]) rfl rfl ?_
            refine ab_fin.brF (c := (1 : Int32) = 0) (i := .ifCond .eq 7) (off := 7) (t := 17) (pc' := 13) (r := []) (by decide +kernel) rfl (by decide +kernel) rfl (by decide +kernel) ?_
            refine ab_fin.s2 (i := .iload_n 3) (k := 1) (pc' := 14) (lv' := [(0, .ref 101), (1, .int ((xs 1))), (2, .int ((xs 2))), (3, .int ((xs 3)))]) (st' := [.int ((xs 3))]) (by decide +kernel) rfl rfl ?_
            refine ab_fin.brT (c := 0 ≤ (xs 3)) (i := .ifCond .ge 9) (off := 9) (t := 23) (r := []) (by decide +kernel) rfl (by decide +kernel) (by have l0 : (0 : Int32).toInt = 0 := rfl; have l3 : (3 : Int32).toInt = 3 := rfl; simp only [← Int32.toInt_inj, Int32.lt_iff_toInt_lt, Int32.le_iff_toInt_le, l0, l3] at q1 q2 q3 q4 q5 ⊢; omega) ?_
            refine ab_fin.s2 (i := .iload_n 2) (k := 1) (pc' := 24) (lv' := [(0, .ref 101), (1, .int ((xs 1))), (2, .int ((xs 2))), (3, .int ((xs 3)))]) (st' := [.int ((xs 2))]) (by decide +kernel) rfl rfl ?_
            refine ab_fin.brF (c := (xs 2) < 0) (i := .ifCond .lt 8) (off := 8) (t := 32) (pc' := 27) (r := []) (by decide +kernel) rfl (by decide +kernel) rfl (by have l0 : (0 : Int32).toInt = 0 := rfl; have l3 : (3 : Int32).toInt = 3 := rfl; simp only [← Int32.toInt_inj, Int32.lt_iff_toInt_lt, Int32.le_iff_toInt_le, l0, l3] at q1 q2 q3 q4 q5 ⊢; omega) ?_
            refine ab_fin.s2 (i := .iload_n 2) (k := 1) (pc' := 28) (lv' := [(0, .ref 101), (1, .int ((xs 1))), (2, .int ((xs 2))), (3, .int ((xs 3)))]) (st' := [.int ((xs 2))]) (by decide +kernel) rfl rfl ?_
            refine ab_fin.s1i (i := .iconst 2) (k := 1) (pc' := 29) (n := 2) (by decide +kernel) rfl (by decide +kernel) rfl ?_
            refine ab_fin.brF (c := (xs 2) ≤ (2 : Int32)) (i := .if_icmp .le 9) (off := 9) (t := 38) (pc' := 32) (r := []) (by decide +kernel) rfl (by decide +kernel) rfl (by have l0 : (0 : Int32).toInt = 0 := rfl; have l2 : (2 : Int32).toInt = 2 := rfl; have l3 : (3 : Int32).toInt = 3 := rfl; simp only [← Int32.toInt_inj, Int32.lt_iff_toInt_lt, Int32.le_iff_toInt_le, l0, l2, l3] at q1 q2 q3 q4 q5 ⊢; omega) ?_
            refine ab_fin.s2 (i := .aload_n 0) (k := 1) (pc' := 33) (lv' := [(0, .ref 101), (1, .int ((xs 1))), (2, .int ((xs 2))), (3, .int ((xs 3)))]) (st' := [.ref 101]) (by decide +kernel) rfl rfl ?_
            refine ab_fin.s1i (i := .iconst 2) (k := 1) (pc' := 34) (n := 2) (by decide +kernel) rfl (by decide +kernel) rfl ?_
            refine ab_fin.call (i := .invokevirtual 1003) (k := 3) (y := 5993) (As := [.ref 101, .int 2]) (rest := []) (M' := (mX23_no_, [])) (by decide +kernel) (ab_cv rfl rfl (ab_ov_get (lt1 101 (by decide)) rfl) ⟨(Nat.le_of_ble_eq_true rfl), (Nat.le_of_ble_eq_true rfl)⟩ rfl) rfl (Nat.le_of_ble_eq_true rfl) ?_
            show ab_fin _ _ _ _ 0 [(0, .ref 101), (1, .int 2)] [] _ _
            refine ab_fin.s2 (i := .aload_n 0) (k := 1) (pc' := 1) (lv' := [(0, .ref 101), (1, .int 2)]) (st' := [.ref 101]) (by decide +kernel) rfl rfl ?_
            refine ab_fin.s2 (i := .iload_n 1) (k := 1) (pc' := 2) (lv' := [(0, .ref 101), (1, .int 2)]) (st' := [.int 2, .ref 101]) (by decide +kernel) rfl rfl ?_
            refine ab_fin.putf (ix := 1000) (h1 := ab_ov h1 [(101, .inr (.inr (24, (p1_o101).set 110 (.int 2))))]) (pc' := 5) (by decide +kernel) rfl (ab_ov_get (lt1 101 (by decide)) rfl) (ab_klt (n := 115) (by rw [List.length_set, p1_n101]) (by decide)) rfl rfl (ab_ov_set rfl) rfl ?_
            refine ab_fin.s1i (i := .iconst 0) (k := 1) (pc' := 6) (n := 0) (by decide +kernel) rfl (by decide +kernel) rfl ?_
            refine ab_fin.ret (i := .ireturn) (k := 1) (some (.int 0)) (by decide +kernel) rfl ?_
            refine ab_bk.back (pc' := 37) (st' := [.int 0]) rfl rfl ?_
            refine ab_fin.ret (i := .ireturn) (k := 1) (some (.int 0)) (by decide +kernel) rfl ?_
            refine ab_bk.back (pc' := 630) (st' := [.int 0]) rfl rfl ?_
            refine ab_fin.s2 (i := .istore 6) (k := 2) (pc' := 632) (lv' := [(6, .int 0), (5, .int 2), (4, .int 0), (3, .ref 3466), (2, .ref 101), (1, .ref 0), (0, .retAddr 9)]) (st' := []) (by decide +kernel) rfl rfl ?_
            refine ab_fin.s2 (i := .aload_n 2) (k := 1) (pc' := 633) (lv' := [(6, .int 0), (5, .int 2), (4, .int 0), (3, .ref 3466), (2, .ref 101), (1, .ref 0), (0, .retAddr 9)]) (st' := [.ref 101]) (by decide +kernel) rfl rfl ?_
            refine ab_fin.call (i := .invokevirtual 75) (k := 3) (y := 5992) (As := [.ref 101]) (rest := []) (M' := (mX23_thrown, [])) (by decide +kernel) (ab_cv rfl rfl (ab_ov_get (lt1 101 (by decide)) rfl) ⟨(Nat.le_of_ble_eq_true rfl), (Nat.le_of_ble_eq_true rfl)⟩ rfl) rfl (Nat.le_of_ble_eq_true rfl) ?_
            show ab_fin _ _ _ _ 0 [(0, .ref 101)] [] _ _
            refine ab_fin.s2 (i := .aload_n 0) (k := 1) (pc' := 1) (lv' := [(0, .ref 101)]) (st' := [.ref 101]) (by decide +kernel) rfl rfl ?_
            refine ab_fin.getf (ix := 1000) (k := 110) (v := .int 2) (pc' := 4) (by decide +kernel) rfl (ab_ov_get (lt1 101 (by decide)) rfl) rfl rfl ?_
            refine ab_fin.ret (i := .ireturn) (k := 1) (some (.int 2)) (by decide +kernel) rfl ?_
            refine ab_bk.back (pc' := 636) (st' := [.int 2]) rfl rfl ?_
            refine ab_fin.s2 (i := .iload 5) (k := 2) (pc' := 638) (lv' := [(6, .int 0), (5, .int 2), (4, .int 0), (3, .ref 3466), (2, .ref 101), (1, .ref 0), (0, .retAddr 9)]) (st' := [.int 2, .int 2]) (by decide +kernel) rfl rfl ?_
            refine ab_fin.brT (c := (2 : Int32) = (2 : Int32)) (i := .if_icmp .eq 5) (off := 5) (t := 643) (r := []) (by decide +kernel) rfl (by decide +kernel) (by decide +kernel) ?_
            refine ab_fin.s2 (i := .iload 5) (k := 2) (pc' := 645) (lv' := [(6, .int 0), (5, .int 2), (4, .int 0), (3, .ref 3466), (2, .ref 101), (1, .ref 0), (0, .retAddr 9)]) (st' := [.int 2]) (by decide +kernel) rfl rfl ?_
            refine ab_fin.brT (c := ¬ (2 : Int32) = 0) (i := .ifCond .ne 15) (off := 15) (t := 660) (r := []) (by decide +kernel) rfl (by decide +kernel) (by decide +kernel) ?_
            refine ab_fin.s3 (i := .goto 430) (k := 3) (t := 1090) (st' := []) (by decide +kernel) (ab_goto (by decide +kernel)) ?_
            refine ab_fin.inc (i := .iinc 4 6) (k := 3) (pc' := 1093) (j := 4) (n := 6) (lv' := [(6, .int 0), (5, .int 2), (3, .ref 3466), (2, .ref 101), (1, .ref 0), (0, .retAddr 9)]) (by decide +kernel) rfl (by decide +kernel) rfl ?_
            refine ab_fin.s3 (i := .goto (-1070)) (k := 3) (t := 23) (st' := []) (by decide +kernel) (ab_goto (by decide +kernel)) ?_
            refine ab_fin.s2 (i := .iload 4) (k := 2) (pc' := 25) (lv' := [(4, .int 6), (6, .int 0), (5, .int 2), (3, .ref 3466), (2, .ref 101), (1, .ref 0), (0, .retAddr 9)]) (st' := [.int 6]) (by decide +kernel) rfl rfl ?_
            refine ab_fin.s2 (i := .aload_n 0) (k := 1) (pc' := 26) (lv' := [(4, .int 6), (6, .int 0), (5, .int 2), (3, .ref 3466), (2, .ref 101), (1, .ref 0), (0, .retAddr 9)]) (st' := [.retAddr 9, .int 6]) (by decide +kernel) rfl rfl ?_
            refine ab_fin.s8 (i := .arraylength) (k := 1) (pc' := 27) (st' := [.int 6, .int 6]) (by decide +kernel) rfl rfl rfl rfl ?_
            refine ab_fin.s1i (i := .bipush 6) (k := 2) (pc' := 29) (n := 6) (by decide +kernel) rfl (by decide +kernel) rfl ?_
            refine ab_fin.s1i (i := .isub) (k := 1) (pc' := 30) (n := 0) (by decide +kernel) rfl (by decide +kernel) rfl ?_
            refine ab_fin.brT (c := (0 : Int32) < (6 : Int32)) (i := .if_icmp .gt 1066) (off := 1066) (t := 1096) (r := []) (by decide +kernel) rfl (by decide +kernel) (by decide +kernel) ?_
            refine ab_fin.s1i (i := .iconst 1) (k := 1) (pc' := 1097) (n := 1) (by decide +kernel) rfl (by decide +kernel) rfl ?_
            refine ab_fin.ret (i := .ireturn) (k := 1) (some (.int 1)) (by decide +kernel) rfl ?_
            refine ⟨rfl, ?_, ?_⟩
            · rw [ab_ov_len, hl1]; decide
            · refine Nat.le_trans (ab_ov_z _ _) ?_
              simp only [List.map, List.sum_cons, List.sum_nil, ab_z1, ab_len, List.length_set, List.length_replicate, List.length_cons, List.length_nil, p1_n101]
              have z1 : ab_z h1 = _ := hz1
              omega
      · refine ab_fin.thrN (i := .new 80) (k := 3) (cls := "java/lang/IndexOutOfBoundsException") (n := 3467) (by decide +kernel) (by decide +kernel) (fun ix q => by cases q; rfl) (by decide) (Nat.le_of_ble_eq_true rfl) ((ab_ov_len _ _).trans hl) (ab_ov_app (by rw [hl]; decide +kernel)) ?_
        obtain ⟨h1, e1⟩ : ∃ h2 : List ab_E, h2 = h ++ [.inl 6] := ⟨_, rfl⟩
        have hl1 : h1.length = 3468 := by rw [e1, List.length_append, hl]; rfl
        have lt1 : ∀ a, a < 3468 → a < h1.length := fun a q => by rw [hl1]; exact q
        have hz1 : ab_z h1 = ab_z h + 6 := by rw [e1, ab_z_app]; rfl
        have f1_0 := (show h1[0]? = h[0]? by rw [e1, List.getElem?_append_left (by rw [hl]; decide)]).trans f_0
        have f1_1 := (show h1[1]? = h[1]? by rw [e1, List.getElem?_append_left (by rw [hl]; decide)]).trans f_1
        have f1_2 := (show h1[2]? = h[2]? by rw [e1, List.getElem?_append_left (by rw [hl]; decide)]).trans f_2
        have f1_5 := (show h1[5]? = h[5]? by rw [e1, List.getElem?_append_left (by rw [hl]; decide)]).trans f_5
        have f1_7 := (show h1[7]? = h[7]? by rw [e1, List.getElem?_append_left (by rw [hl]; decide)]).trans f_7
        have f1_28 := (show h1[28]? = h[28]? by rw [e1, List.getElem?_append_left (by rw [hl]; decide)]).trans f_28
        have f1_101 := (show h1[101]? = h[101]? by rw [e1, List.getElem?_append_left (by rw [hl]; decide)]).trans f_101
        have f1_102 := (show h1[102]? = h[102]? by rw [e1, List.getElem?_append_left (by rw [hl]; decide)]).trans f_102
        have f1_2294 := (show h1[2294]? = h[2294]? by rw [e1, List.getElem?_append_left (by rw [hl]; decide)]).trans f_2294
        have f1_2298 := (show h1[2298]? = h[2298]? by rw [e1, List.getElem?_append_left (by rw [hl]; decide)]).trans f_2298
        have f1_2299 := (show h1[2299]? = h[2299]? by rw [e1, List.getElem?_append_left (by rw [hl]; decide)]).trans f_2299
        have f1_2300 := (show h1[2300]? = h[2300]? by rw [e1, List.getElem?_append_left (by rw [hl]; decide)]).trans f_2300
        have f1_2301 := (show h1[2301]? = h[2301]? by rw [e1, List.getElem?_append_left (by rw [hl]; decide)]).trans f_2301
        have f1_2302 := (show h1[2302]? = h[2302]? by rw [e1, List.getElem?_append_left (by rw [hl]; decide)]).trans f_2302
        have f1_2303 := (show h1[2303]? = h[2303]? by rw [e1, List.getElem?_append_left (by rw [hl]; decide)]).trans f_2303
        have f1_2307 := (show h1[2307]? = h[2307]? by rw [e1, List.getElem?_append_left (by rw [hl]; decide)]).trans f_2307
        have f1_2308 := (show h1[2308]? = h[2308]? by rw [e1, List.getElem?_append_left (by rw [hl]; decide)]).trans f_2308
        have f1_2309 := (show h1[2309]? = h[2309]? by rw [e1, List.getElem?_append_left (by rw [hl]; decide)]).trans f_2309
        have f1_2310 := (show h1[2310]? = h[2310]? by rw [e1, List.getElem?_append_left (by rw [hl]; decide)]).trans f_2310
        have f1_2311 := (show h1[2311]? = h[2311]? by rw [e1, List.getElem?_append_left (by rw [hl]; decide)]).trans f_2311
        have f1_2312 := (show h1[2312]? = h[2312]? by rw [e1, List.getElem?_append_left (by rw [hl]; decide)]).trans f_2312
        have f1_2316 := (show h1[2316]? = h[2316]? by rw [e1, List.getElem?_append_left (by rw [hl]; decide)]).trans f_2316
        have f1_2317 := (show h1[2317]? = h[2317]? by rw [e1, List.getElem?_append_left (by rw [hl]; decide)]).trans f_2317
        have f1_2318 := (show h1[2318]? = h[2318]? by rw [e1, List.getElem?_append_left (by rw [hl]; decide)]).trans f_2318
        have f1_2319 := (show h1[2319]? = h[2319]? by rw [e1, List.getElem?_append_left (by rw [hl]; decide)]).trans f_2319
        have f1_2320 := (show h1[2320]? = h[2320]? by rw [e1, List.getElem?_append_left (by rw [hl]; decide)]).trans f_2320
        have f1_3466 := (show h1[3466]? = h[3466]? by rw [e1, List.getElem?_append_left (by rw [hl]; decide)]).trans f_3466
        rw [← e1]
        refine ab_bk.catch (hp := 15) (by decide +kernel) rfl ?_
        refine ab_fin.s2 (i := .astore 5) (k := 2) (pc' := 17) (lv' := [(5, .ref 3467), (0, .ref 0), (1, .int ((xs 1))), (2, .int ((xs 2))), (3, .int ((xs 3))), (4, .ref 3466)]) (st' := []) (by decide +kernel) rfl rfl ?_
        refine ab_fin.s1i (i := .iconst 1) (k := 1) (pc' := 18) (n := 1) (by decide +kernel) rfl (by decide +kernel) rfl ?_
        refine ab_fin.ret (i := .ireturn) (k := 1) (some (.int 1)) (by decide +kernel) rfl ?_
        refine ab_bk.back (pc' := 606) (st' := [.int 1]) rfl rfl ?_
        refine ab_fin.s2 (i := .istore 5) (k := 2) (pc' := 608) (lv' := [(5, .int 1), (4, .int 0), (3, .ref 3466), (2, .ref 101), (1, .ref 0), (0, .retAddr 9)]) (st' := []) (by decide +kernel) rfl rfl ?_
        refine ab_fin.s2 (i := .aload_n 2) (k := 1) (pc' := 609) (lv' := [(5, .int 1), (4, .int 0), (3, .ref 3466), (2, .ref 101), (1, .ref 0), (0, .retAddr 9)]) (st' := [.ref 101]) (by decide +kernel) rfl rfl ?_
        refine ab_fin.s2 (i := .aload_n 0) (k := 1) (pc' := 610) (lv' := [(5, .int 1), (4, .int 0), (3, .ref 3466), (2, .ref 101), (1, .ref 0), (0, .retAddr 9)]) (st' := [.retAddr 9, .ref 101]) (by decide +kernel) rfl rfl ?_
        refine ab_fin.s2 (i := .iload 4) (k := 2) (pc' := 612) (lv' := [(5, .int 1), (4, .int 0), (3, .ref 3466), (2, .ref 101), (1, .ref 0), (0, .retAddr 9)]) (st' := [.int 0, .retAddr 9, .ref 101]) (by decide +kernel) rfl rfl ?_
        refine ab_fin.s1i (i := .iconst 1) (k := 1) (pc' := 613) (n := 1) (by decide +kernel) rfl (by decide +kernel) rfl ?_
        refine ab_fin.s1i (i := .iadd) (k := 1) (pc' := 614) (n := 1) (by decide +kernel) rfl (by decide +kernel) rfl ?_
        refine ab_fin.s8 (i := .iaload) (k := 1) (pc' := 615) (st' := [.int ((xs 1)), .ref 101]) (by decide +kernel) (ab_x0 rfl (by decide +kernel) rfl) rfl rfl rfl ?_
        refine ab_fin.s2 (i := .aload_n 0) (k := 1) (pc' := 616) (lv' := [(5, .int 1), (4, .int 0), (3, .ref 3466), (2, .ref 101), (1, .ref 0), (0, .retAddr 9)]) (st' := [.retAddr 9, .int ((xs 1)), .ref 101]) (by decide +kernel) rfl rfl ?_
        refine ab_fin.s2 (i := .iload 4) (k := 2) (pc' := 618) (lv' := [(5, .int 1), (4, .int 0), (3, .ref 3466), (2, .ref 101), (1, .ref 0), (0, .retAddr 9)]) (st' := [.int 0, .retAddr 9, .int ((xs 1)), .ref 101]) (by decide +kernel) rfl rfl ?_
        refine ab_fin.s1i (i := .iconst 2) (k := 1) (pc' := 619) (n := 2) (by decide +kernel) rfl (by decide +kernel) rfl ?_
        refine ab_fin.s1i (i := .iadd) (k := 1) (pc' := 620) (n := 2) (by decide +kernel) rfl (by decide +kernel) rfl ?_
        refine ab_fin.s8 (i := .iaload) (k := 1) (pc' := 621) (st' := [.int ((xs 2)), .int ((xs 1)), .ref 101]) (by decide +kernel) (ab_x0 rfl (by decide +kernel) rfl) rfl rfl rfl ?_
        refine ab_fin.s2 (i := .aload_n 0) (k := 1) (pc' := 622) (lv' := [(5, .int 1), (4, .int 0), (3, .ref 3466), (2, .ref 101), (1, .ref 0), (0, .retAddr 9)]) (st' := [.retAddr 9, .int ((xs 2)), .int ((xs 1)), .ref 101]) (by decide +kernel) rfl rfl ?_
        refine ab_fin.s2 (i := .iload 4) (k := 2) (pc' := 624) (lv' := [(5, .int 1), (4, .int 0), (3, .ref 3466), (2, .ref 101), (1, .ref 0), (0, .retAddr 9)]) (st' := [.int 0, .retAddr 9, .int ((xs 2)), .int ((xs 1)), .ref 101]) (by decide +kernel) rfl rfl ?_
        refine ab_fin.s1i (i := .iconst 3) (k := 1) (pc' := 625) (n := 3) (by decide +kernel) rfl (by decide +kernel) rfl ?_
        refine ab_fin.s1i (i := .iadd) (k := 1) (pc' := 626) (n := 3) (by decide +kernel) rfl (by decide +kernel) rfl ?_
        refine ab_fin.s8 (i := .iaload) (k := 1) (pc' := 627) (st' := [.int ((xs 3)), .int ((xs 2)), .int ((xs 1)), .ref 101]) (by decide +kernel) (ab_x0 rfl (by decide +kernel) rfl) rfl rfl rfl ?_
        refine ab_fin.call (i := .invokevirtual 110) (k := 3) (y := 6003) (As := [.ref 101, .int ((xs 1)), .int ((xs 2)), .int ((xs 3))]) (rest := []) (M' := (mX23_row, [])) (by decide +kernel) (ab_cv rfl rfl (ab_ov_no f1_101 rfl) ⟨(Nat.le_of_ble_eq_true rfl), (Nat.le_of_ble_eq_true rfl)⟩ rfl) rfl (Nat.le_of_ble_eq_true rfl) ?_
        show ab_fin _ _ _ _ 0 [(0, .ref 101), (1, .int ((xs 1))), (2, .int ((xs 2))), (3, .int ((xs 3)))] [] _ _
        refine ab_fin.s2 (i := .aload_n 0) (k := 1) (pc' := 1) (lv' := [(0, .ref 101), (1, .int ((xs 1))), (2, .int ((xs 2))), (3, .int ((xs 3)))]) (st' := [.ref 101]) (by decide +kernel) rfl rfl ?_
        refine ab_fin.s1i (i := .iconst 0) (k := 1) (pc' := 2) (n := 0) (by decide +kernel) rfl (by decide +kernel) rfl ?_
        refine ab_fin.putf (ix := 1000) (h1 := ab_ov h1 [(101, .inr (.inr (24, (p1_o101).set 110 (.int 0))))]) (pc' := 5) (by decide +kernel) rfl (ab_ov_no f1_101 rfl) (ab_klt (n := 115) (by rw [p1_n101]) (by decide)) rfl rfl (ab_ov_set rfl) rfl ?_
        refine ab_fin.s2 (i := .aload_n 0) (k := 1) (pc' := 6) (lv' := [(0, .ref 101), (1, .int ((xs 1))), (2, .int ((xs 2))), (3, .int ((xs 3)))]) (st' := [.ref 101]) (by decide +kernel) rfl rfl ?_
        refine ab_fin.s2 (i := .iload_n 1) (k := 1) (pc' := 7) (lv' := [(0, .ref 101), (1, .int ((xs 1))), (2, .int ((xs 2))), (3, .int ((xs 3)))]) (st' := [.int ((xs 1)), .ref 101]) (by decide +kernel) rfl rfl ?_
        refine ab_fin.call (i := .invokevirtual 1018) (k := 3) (y := 6001) (As := [.ref 101, .int ((xs 1))]) (rest := []) (M' := (mX23_isKind, [])) (by decide +kernel) (ab_cv rfl rfl (ab_ov_get (lt1 101 (by decide)) rfl) ⟨(Nat.le_of_ble_eq_true rfl), (Nat.le_of_ble_eq_true rfl)⟩ rfl) rfl (Nat.le_of_ble_eq_true rfl) ?_
        show ab_fin _ _ _ _ 0 [(0, .ref 101), (1, .int ((xs 1)))] [] _ _
        refine ab_fin.s2 (i := .iload_n 1) (k := 1) (pc' := 1) (lv' := [(0, .ref 101), (1, .int ((xs 1)))]) (st' := [.int ((xs 1))]) (by decide +kernel) rfl rfl ?_
        refine ab_fin.brF (c := (xs 1) < 0) (i := .ifCond .lt 15) (off := 15) (t := 16) (pc' := 4) (r := []) (by decide +kernel) rfl (by decide +kernel) rfl (by have l0 : (0 : Int32).toInt = 0 := rfl; have l3 : (3 : Int32).toInt = 3 := rfl; simp only [← Int32.toInt_inj, Int32.lt_iff_toInt_lt, Int32.le_iff_toInt_le, l0, l3] at q1 q2 q3 ⊢; omega) ?_
        refine ab_fin.s2 (i := .iload_n 1) (k := 1) (pc' := 5) (lv' := [(0, .ref 101), (1, .int ((xs 1)))]) (st' := [.int ((xs 1))]) (by decide +kernel) rfl rfl ?_
        refine ab_fin.s2 (i := .aload_n 0) (k := 1) (pc' := 6) (lv' := [(0, .ref 101), (1, .int ((xs 1)))]) (st' := [.ref 101, .int ((xs 1))]) (by decide +kernel) rfl rfl ?_
        refine ab_fin.getf (ix := 13) (k := 4) (v := .int 3) (pc' := 9) (by decide +kernel) rfl (ab_ov_get (lt1 101 (by decide)) rfl) rfl rfl ?_
        refine ab_fin.brF (c := (3 : Int32) ≤ (xs 1)) (i := .if_icmp .ge 7) (off := 7) (t := 16) (pc' := 12) (r := []) (by decide +kernel) rfl (by decide +kernel) rfl (by have l0 : (0 : Int32).toInt = 0 := rfl; have l3 : (3 : Int32).toInt = 3 := rfl; simp only [← Int32.toInt_inj, Int32.lt_iff_toInt_lt, Int32.le_iff_toInt_le, l0, l3] at q1 q2 q3 ⊢; omega) ?_
        refine ab_fin.s1i (i := .iconst 1) (k := 1) (pc' := 13) (n := 1) (by decide +kernel) rfl (by decide +kernel) rfl ?_
        refine ab_fin.s3 (i := .goto 4) (k := 3) (t := 17) (st' := [.int 1]) (by decide +kernel) (ab_goto (by decide +kernel)) ?_
        refine ab_fin.ret (i := .ireturn) (k := 1) (some (.int 1)) (by decide +kernel) rfl ?_
        refine ab_bk.back (pc' := 10) (st' := [.int 1]) rfl rfl ?_
        refine ab_fin.brF (c := (1 : Int32) = 0) (i := .ifCond .eq 7) (off := 7) (t := 17) (pc' := 13) (r := []) (by decide +kernel) rfl (by decide +kernel) rfl (by decide +kernel) ?_
        refine ab_fin.s2 (i := .iload_n 3) (k := 1) (pc' := 14) (lv' := [(0, .ref 101), (1, .int ((xs 1))), (2, .int ((xs 2))), (3, .int ((xs 3)))]) (st' := [.int ((xs 3))]) (by decide +kernel) rfl rfl ?_
        refine ab_fin.brF (c := 0 ≤ (xs 3)) (i := .ifCond .ge 9) (off := 9) (t := 23) (pc' := 17) (r := []) (by decide +kernel) rfl (by decide +kernel) rfl (by have l0 : (0 : Int32).toInt = 0 := rfl; have l3 : (3 : Int32).toInt = 3 := rfl; simp only [← Int32.toInt_inj, Int32.lt_iff_toInt_lt, Int32.le_iff_toInt_le, l0, l3] at q1 q2 q3 ⊢; omega) ?_
        refine ab_fin.s2 (i := .aload_n 0) (k := 1) (pc' := 18) (lv' := [(0, .ref 101), (1, .int ((xs 1))), (2, .int ((xs 2))), (3, .int ((xs 3)))]) (st' := [.ref 101]) (by decide +kernel) rfl rfl ?_
        refine ab_fin.s1i (i := .iconst 1) (k := 1) (pc' := 19) (n := 1) (by decide +kernel) rfl (by decide +kernel) rfl ?_
        refine ab_fin.call (i := .invokevirtual 1003) (k := 3) (y := 5993) (As := [.ref 101, .int 1]) (rest := []) (M' := (mX23_no_, [])) (by decide +kernel) (ab_cv rfl rfl (ab_ov_get (lt1 101 (by decide)) rfl) ⟨(Nat.le_of_ble_eq_true rfl), (Nat.le_of_ble_eq_true rfl)⟩ rfl) rfl (Nat.le_of_ble_eq_true rfl) ?_
        show ab_fin _ _ _ _ 0 [(0, .ref 101), (1, .int 1)] [] _ _
        refine ab_fin.s2 (i := .aload_n 0) (k := 1) (pc' := 1) (lv' := [(0, .ref 101), (1, .int 1)]) (st' := [.ref 101]) (by decide +kernel) rfl rfl ?_
        refine ab_fin.s2 (i := .iload_n 1) (k := 1) (pc' := 2) (lv' := [(0, .ref 101), (1, .int 1)]) (st' := [.int 1, .ref 101]) (by decide +kernel) rfl rfl ?_
        refine ab_fin.putf (ix := 1000) (h1 := ab_ov h1 [(101, .inr (.inr (24, (p1_o101).set 110 (.int 1))))]) (pc' := 5) (by decide +kernel) rfl (ab_ov_get (lt1 101 (by decide)) rfl) (ab_klt (n := 115) (by rw [List.length_set, p1_n101]) (by decide)) rfl rfl (ab_ov_set rfl) rfl ?_
        refine ab_fin.s1i (i := .iconst 0) (k := 1) (pc' := 6) (n := 0) (by decide +kernel) rfl (by decide +kernel) rfl ?_
        refine ab_fin.ret (i := .ireturn) (k := 1) (some (.int 0)) (by decide +kernel) rfl ?_
        refine ab_bk.back (pc' := 22) (st' := [.int 0]) rfl rfl ?_
        refine ab_fin.ret (i := .ireturn) (k := 1) (some (.int 0)) (by decide +kernel) rfl ?_
        refine ab_bk.back (pc' := 630) (st' := [.int 0]) rfl rfl ?_
        refine ab_fin.s2 (i := .istore 6) (k := 2) (pc' := 632) (lv' := [(6, .int 0), (5, .int 1), (4, .int 0), (3, .ref 3466), (2, .ref 101), (1, .ref 0), (0, .retAddr 9)]) (st' := []) (by decide +kernel) rfl rfl ?_
        refine ab_fin.s2 (i := .aload_n 2) (k := 1) (pc' := 633) (lv' := [(6, .int 0), (5, .int 1), (4, .int 0), (3, .ref 3466), (2, .ref 101), (1, .ref 0), (0, .retAddr 9)]) (st' := [.ref 101]) (by decide +kernel) rfl rfl ?_
        refine ab_fin.call (i := .invokevirtual 75) (k := 3) (y := 5992) (As := [.ref 101]) (rest := []) (M' := (mX23_thrown, [])) (by decide +kernel) (ab_cv rfl rfl (ab_ov_get (lt1 101 (by decide)) rfl) ⟨(Nat.le_of_ble_eq_true rfl), (Nat.le_of_ble_eq_true rfl)⟩ rfl) rfl (Nat.le_of_ble_eq_true rfl) ?_
        show ab_fin _ _ _ _ 0 [(0, .ref 101)] [] _ _
        refine ab_fin.s2 (i := .aload_n 0) (k := 1) (pc' := 1) (lv' := [(0, .ref 101)]) (st' := [.ref 101]) (by decide +kernel) rfl rfl ?_
        refine ab_fin.getf (ix := 1000) (k := 110) (v := .int 1) (pc' := 4) (by decide +kernel) rfl (ab_ov_get (lt1 101 (by decide)) rfl) rfl rfl ?_
        refine ab_fin.ret (i := .ireturn) (k := 1) (some (.int 1)) (by decide +kernel) rfl ?_
        refine ab_bk.back (pc' := 636) (st' := [.int 1]) rfl rfl ?_
        refine ab_fin.s2 (i := .iload 5) (k := 2) (pc' := 638) (lv' := [(6, .int 0), (5, .int 1), (4, .int 0), (3, .ref 3466), (2, .ref 101), (1, .ref 0), (0, .retAddr 9)]) (st' := [.int 1, .int 1]) (by decide +kernel) rfl rfl ?_
        refine ab_fin.brT (c := (1 : Int32) = (1 : Int32)) (i := .if_icmp .eq 5) (off := 5) (t := 643) (r := []) (by decide +kernel) rfl (by decide +kernel) (by decide +kernel) ?_
        refine ab_fin.s2 (i := .iload 5) (k := 2) (pc' := 645) (lv' := [(6, .int 0), (5, .int 1), (4, .int 0), (3, .ref 3466), (2, .ref 101), (1, .ref 0), (0, .retAddr 9)]) (st' := [.int 1]) (by decide +kernel) rfl rfl ?_
        refine ab_fin.brT (c := ¬ (1 : Int32) = 0) (i := .ifCond .ne 15) (off := 15) (t := 660) (r := []) (by decide +kernel) rfl (by decide +kernel) (by decide +kernel) ?_
        refine ab_fin.s3 (i := .goto 430) (k := 3) (t := 1090) (st' := []) (by decide +kernel) (ab_goto (by decide +kernel)) ?_
        refine ab_fin.inc (i := .iinc 4 6) (k := 3) (pc' := 1093) (j := 4) (n := 6) (lv' := [(6, .int 0), (5, .int 1), (3, .ref 3466), (2, .ref 101), (1, .ref 0), (0, .retAddr 9)]) (by decide +kernel) rfl (by decide +kernel) rfl ?_
        refine ab_fin.s3 (i := .goto (-1070)) (k := 3) (t := 23) (st' := []) (by decide +kernel) (ab_goto (by decide +kernel)) ?_
        refine ab_fin.s2 (i := .iload 4) (k := 2) (pc' := 25) (lv' := [(4, .int 6), (6, .int 0), (5, .int 1), (3, .ref 3466), (2, .ref 101), (1, .ref 0), (0, .retAddr 9)]) (st' := [.int 6]) (by decide +kernel) rfl rfl ?_
        refine ab_fin.s2 (i := .aload_n 0) (k := 1) (pc' := 26) (lv' := [(4, .int 6), (6, .int 0), (5, .int 1), (3, .ref 3466), (2, .ref 101), (1, .ref 0), (0, .retAddr 9)]) (st' := [.retAddr 9, .int 6]) (by decide +kernel) rfl rfl ?_
        refine ab_fin.s8 (i := .arraylength) (k := 1) (pc' := 27) (st' := [.int 6, .int 6]) (by decide +kernel) rfl rfl rfl rfl ?_
        refine ab_fin.s1i (i := .bipush 6) (k := 2) (pc' := 29) (n := 6) (by decide +kernel) rfl (by decide +kernel) rfl ?_
        refine ab_fin.s1i (i := .isub) (k := 1) (pc' := 30) (n := 0) (by decide +kernel) rfl (by decide +kernel) rfl ?_
        refine ab_fin.brT (c := (0 : Int32) < (6 : Int32)) (i := .if_icmp .gt 1066) (off := 1066) (t := 1096) (r := []) (by decide +kernel) rfl (by decide +kernel) (by decide +kernel) ?_
        refine ab_fin.s1i (i := .iconst 1) (k := 1) (pc' := 1097) (n := 1) (by decide +kernel) rfl (by decide +kernel) rfl ?_
        refine ab_fin.ret (i := .ireturn) (k := 1) (some (.int 1)) (by decide +kernel) rfl ?_
        refine ⟨rfl, ?_, ?_⟩
        · rw [ab_ov_len, hl1]; decide
        · refine Nat.le_trans (ab_ov_z _ _) ?_
          simp only [List.map, List.sum_cons, List.sum_nil, ab_z1, ab_len, List.length_set, List.length_replicate, List.length_cons, List.length_nil, p1_n101]
          have z1 : ab_z h1 = _ := hz1
          omega

/-! the law on at most one call -/
set_option maxRecDepth 100000 in
theorem p1_end1 {z4 z5 z6 : Value} {xs : Nat → Int32} {L d : Nat} {lv : ab_L} {h : List ab_E} (hl : h.length ≤ 600002) (hz : ab_z h ≤ 7302232) : ab_fin (hb_Gz (some z4, some z5, some z6) (some (0, L, fun i => .int (xs i)))) hb_GT d (mL_law, []) 1096 lv [] h p1_Q := by
  refine ab_fin.s1i (i := .iconst 1) (k := 1) (pc' := 1097) (n := 1) (by decide +kernel) rfl (by decide +kernel) rfl ?_
  exact ab_fin.ret (i := .ireturn) (k := 1) (some (.int 1)) (by decide +kernel) rfl ⟨rfl, hl, hz⟩
set_option maxRecDepth 100000 in
set_option maxHeartbeats 0 in
theorem p1_one {z4 z5 z6 : Value} {xs : Nat → Int32} (h4 : z4 = .null ∨ z4 = .retAddr 4) (h5 : z5 = .null ∨ z5 = .retAddr 5) (h6 : z6 = .null ∨ z6 = .retAddr 6) : ab_fin (hb_Gz (some z4, some z5, some z6) (some (0, 6, fun i => .int (xs i)))) hb_GT 2046 (mL_law, []) 33 [(4, .int 0), (3, .ref 3466), (2, .ref 101), (1, .ref 0), (0, .retAddr 9)] [] p1_H p1_Q := by
  refine ab_fin.s2 (i := .aload_n 0) (k := 1) (pc' := 34) (lv' := [(4, .int 0), (3, .ref 3466), (2, .ref 101), (1, .ref 0), (0, .retAddr 9)]) (st' := [.retAddr 9]) (by decide +kernel) rfl rfl ?_
  refine ab_fin.s2 (i := .iload 4) (k := 2) (pc' := 36) (lv' := [(4, .int 0), (3, .ref 3466), (2, .ref 101), (1, .ref 0), (0, .retAddr 9)]) (st' := [.int 0, .retAddr 9]) (by decide +kernel) rfl rfl ?_
  refine ab_fin.s8 (i := .iaload) (k := 1) (pc' := 37) (st' := [.int (xs 0)]) (by decide +kernel) (ab_x0 rfl (by decide +kernel) rfl) rfl rfl rfl ?_
  refine ab_fin.s1i (i := .bipush 31) (k := 2) (pc' := 39) (n := 31) (by decide +kernel) rfl (by decide +kernel) rfl ?_
  refine ab_fin.s1 (i := .iand) (k := 1) (pc' := 40) (st' := [.int (xs 0 &&& 31)]) (by decide +kernel) rfl rfl ?_
  generalize xs 0 &&& 31 = kk
  by_cases q0 : kk = 0
  · rw [q0]
    refine ab_fin.s3 (i := .tableswitch 1050 0 16 #[84, 188, 244, 257, 270, 281, 344, 412, 468, 543, 623, 727, 795, 839, 895, 951, 995]) (k := 84) (t := 124) (st' := []) (by decide +kernel) (ab_swI (off := 84) (by decide +kernel) (by decide +kernel) (by decide +kernel)) ?_
    exact p1_feed z4 z5 z6 h4 h5 h6 xs p1_H p1_H_n p1_H_z p1_f0 p1_f100 p1_f101 p1_f138 p1_f3466
  by_cases q1 : kk = 1
  · rw [q1]
    refine ab_fin.s3 (i := .tableswitch 1050 0 16 #[84, 188, 244, 257, 270, 281, 344, 412, 468, 543, 623, 727, 795, 839, 895, 951, 995]) (k := 84) (t := 228) (st' := []) (by decide +kernel) (ab_swI (off := 188) (by decide +kernel) (by decide +kernel) (by decide +kernel)) ?_
    exact p1_end z4 z5 z6 h4 h5 h6 xs p1_H p1_H_n p1_H_z p1_f0 p1_f101 p1_f3466
  by_cases q2 : kk = 2
  · rw [q2]
    refine ab_fin.s3 (i := .tableswitch 1050 0 16 #[84, 188, 244, 257, 270, 281, 344, 412, 468, 543, 623, 727, 795, 839, 895, 951, 995]) (k := 84) (t := 284) (st' := []) (by decide +kernel) (ab_swI (off := 244) (by decide +kernel) (by decide +kernel) (by decide +kernel)) ?_
    exact p1_tell z4 z5 z6 h4 h5 h6 xs p1_H p1_H_n p1_H_z p1_f0 p1_f1 p1_f10 p1_f24 p1_f28 p1_f39 p1_f40 p1_f41 p1_f42 p1_f43 p1_f44 p1_f45 p1_f101 p1_f106
  by_cases q3 : kk = 3
  · rw [q3]
    refine ab_fin.s3 (i := .tableswitch 1050 0 16 #[84, 188, 244, 257, 270, 281, 344, 412, 468, 543, 623, 727, 795, 839, 895, 951, 995]) (k := 84) (t := 297) (st' := []) (by decide +kernel) (ab_swI (off := 257) (by decide +kernel) (by decide +kernel) (by decide +kernel)) ?_
    exact p1_program z4 z5 z6 h4 h5 h6 xs p1_H p1_H_n p1_H_z p1_f0 p1_f1 p1_f24 p1_f25 p1_f26 p1_f27 p1_f28 p1_f40 p1_f41 p1_f42 p1_f43 p1_f44 p1_f45 p1_f101 p1_f108
  by_cases q4 : kk = 4
  · rw [q4]
    refine ab_fin.s3 (i := .tableswitch 1050 0 16 #[84, 188, 244, 257, 270, 281, 344, 412, 468, 543, 623, 727, 795, 839, 895, 951, 995]) (k := 84) (t := 310) (st' := []) (by decide +kernel) (ab_swI (off := 270) (by decide +kernel) (by decide +kernel) (by decide +kernel)) ?_
    exact p1_clear z4 z5 z6 h4 h5 h6 xs p1_H p1_H_n p1_H_z p1_f0 p1_f1 p1_f2 p1_f3 p1_f10 p1_f24 p1_f28 p1_f34 p1_f35 p1_f36 p1_f37 p1_f38 p1_f46 p1_f47 p1_f101 p1_f102 p1_f106 p1_f110 p1_f111 p1_f112 p1_f136 p1_f137 p1_f1981 p1_f1982 p1_f1983 p1_f1984 p1_f2033 p1_f2170 p1_f2294 p1_f2295 p1_f2296 p1_f2297 p1_f2298 p1_f2299 p1_f2300 p1_f2301 p1_f2302 p1_f2303 p1_f2304 p1_f2305 p1_f2306 p1_f2307 p1_f2308 p1_f2309 p1_f2310 p1_f2311 p1_f2312 p1_f2313 p1_f2314 p1_f2315 p1_f2316 p1_f2317 p1_f2318 p1_f2319 p1_f2320
  by_cases q5 : kk = 5
  · rw [q5]
    refine ab_fin.s3 (i := .tableswitch 1050 0 16 #[84, 188, 244, 257, 270, 281, 344, 412, 468, 543, 623, 727, 795, 839, 895, 951, 995]) (k := 84) (t := 321) (st' := []) (by decide +kernel) (ab_swI (off := 281) (by decide +kernel) (by decide +kernel) (by decide +kernel)) ?_
    exact p1_drop z4 z5 z6 h4 h5 h6 xs p1_H p1_H_n p1_H_z p1_f0 p1_f1 p1_f10 p1_f101
  by_cases q6 : kk = 6
  · rw [q6]
    refine ab_fin.s3 (i := .tableswitch 1050 0 16 #[84, 188, 244, 257, 270, 281, 344, 412, 468, 543, 623, 727, 795, 839, 895, 951, 995]) (k := 84) (t := 384) (st' := []) (by decide +kernel) (ab_swI (off := 344) (by decide +kernel) (by decide +kernel) (by decide +kernel)) ?_
    exact p1_set z4 z5 z6 h4 h5 h6 xs p1_H p1_H_n p1_H_z p1_f0 p1_f1 p1_f101 p1_f2170 p1_f3466
  by_cases q7 : kk = 7
  · rw [q7]
    refine ab_fin.s3 (i := .tableswitch 1050 0 16 #[84, 188, 244, 257, 270, 281, 344, 412, 468, 543, 623, 727, 795, 839, 895, 951, 995]) (k := 84) (t := 452) (st' := []) (by decide +kernel) (ab_swI (off := 412) (by decide +kernel) (by decide +kernel) (by decide +kernel)) ?_
    exact p1_count z4 z5 z6 h4 h5 h6 xs p1_H p1_H_n p1_H_z p1_f0 p1_f1 p1_f10 p1_f28 p1_f40 p1_f101 p1_f3466
  by_cases q8 : kk = 8
  · rw [q8]
    refine ab_fin.s3 (i := .tableswitch 1050 0 16 #[84, 188, 244, 257, 270, 281, 344, 412, 468, 543, 623, 727, 795, 839, 895, 951, 995]) (k := 84) (t := 508) (st' := []) (by decide +kernel) (ab_swI (off := 468) (by decide +kernel) (by decide +kernel) (by decide +kernel)) ?_
    exact p1_below z4 z5 z6 h4 h5 h6 xs p1_H p1_H_n p1_H_z p1_f0 p1_f1 p1_f2 p1_f4 p1_f28 p1_f101 p1_f1981 p1_f1982 p1_f1983 p1_f1984 p1_f3466
  by_cases q9 : kk = 9
  · rw [q9]
    refine ab_fin.s3 (i := .tableswitch 1050 0 16 #[84, 188, 244, 257, 270, 281, 344, 412, 468, 543, 623, 727, 795, 839, 895, 951, 995]) (k := 84) (t := 583) (st' := []) (by decide +kernel) (ab_swI (off := 543) (by decide +kernel) (by decide +kernel) (by decide +kernel)) ?_
    exact p1_row z4 z5 z6 h4 h5 h6 xs p1_H p1_H_n p1_H_z p1_f0 p1_f1 p1_f2 p1_f5 p1_f7 p1_f28 p1_f101 p1_f102 p1_f2294 p1_f2298 p1_f2299 p1_f2300 p1_f2301 p1_f2302 p1_f2303 p1_f2307 p1_f2308 p1_f2309 p1_f2310 p1_f2311 p1_f2312 p1_f2316 p1_f2317 p1_f2318 p1_f2319 p1_f2320 p1_f3466
  by_cases q10 : kk = 10
  · rw [q10]
    refine ab_fin.s3 (i := .tableswitch 1050 0 16 #[84, 188, 244, 257, 270, 281, 344, 412, 468, 543, 623, 727, 795, 839, 895, 951, 995]) (k := 84) (t := 663) (st' := []) (by decide +kernel) (ab_swI (off := 623) (by decide +kernel) (by decide +kernel) (by decide +kernel)) ?_
    exact p1_nearer z4 z5 z6 h4 h5 h6 xs p1_H p1_H_n p1_H_z p1_f0 p1_f1 p1_f10 p1_f101
  by_cases q11 : kk = 11
  · rw [q11]
    refine ab_fin.s3 (i := .tableswitch 1050 0 16 #[84, 188, 244, 257, 270, 281, 344, 412, 468, 543, 623, 727, 795, 839, 895, 951, 995]) (k := 84) (t := 767) (st' := []) (by decide +kernel) (ab_swI (off := 727) (by decide +kernel) (by decide +kernel) (by decide +kernel)) ?_
    exact p1_call z4 z5 z6 h4 h5 h6 xs p1_H p1_H_n p1_H_z p1_f0 p1_f1 p1_f28 p1_f101
  by_cases q12 : kk = 12
  · rw [q12]
    refine ab_fin.s3 (i := .tableswitch 1050 0 16 #[84, 188, 244, 257, 270, 281, 344, 412, 468, 543, 623, 727, 795, 839, 895, 951, 995]) (k := 84) (t := 835) (st' := []) (by decide +kernel) (ab_swI (off := 795) (by decide +kernel) (by decide +kernel) (by decide +kernel)) ?_
    exact p1_run z4 z5 z6 h4 h5 h6 xs p1_H p1_H_n p1_H_z p1_f0 p1_f101
  by_cases q13 : kk = 13
  · rw [q13]
    refine ab_fin.s3 (i := .tableswitch 1050 0 16 #[84, 188, 244, 257, 270, 281, 344, 412, 468, 543, 623, 727, 795, 839, 895, 951, 995]) (k := 84) (t := 879) (st' := []) (by decide +kernel) (ab_swI (off := 839) (by decide +kernel) (by decide +kernel) (by decide +kernel)) ?_
    exact p1_told z4 z5 z6 h4 h5 h6 xs p1_H p1_H_n p1_H_z p1_f0 p1_f83 p1_f84 p1_f101 p1_f3466
  by_cases q14 : kk = 14
  · rw [q14]
    refine ab_fin.s3 (i := .tableswitch 1050 0 16 #[84, 188, 244, 257, 270, 281, 344, 412, 468, 543, 623, 727, 795, 839, 895, 951, 995]) (k := 84) (t := 935) (st' := []) (by decide +kernel) (ab_swI (off := 895) (by decide +kernel) (by decide +kernel) (by decide +kernel)) ?_
    exact p1_shown z4 z5 z6 h4 h5 h6 xs p1_H p1_H_n p1_H_z p1_f0 p1_f83 p1_f101
  by_cases q15 : kk = 15
  · rw [q15]
    refine ab_fin.s3 (i := .tableswitch 1050 0 16 #[84, 188, 244, 257, 270, 281, 344, 412, 468, 543, 623, 727, 795, 839, 895, 951, 995]) (k := 84) (t := 991) (st' := []) (by decide +kernel) (ab_swI (off := 951) (by decide +kernel) (by decide +kernel) (by decide +kernel)) ?_
    exact p1_ran z4 z5 z6 h4 h5 h6 xs p1_H p1_H_n p1_H_z p1_f0 p1_f83 p1_f101
  by_cases q16 : kk = 16
  · rw [q16]
    refine ab_fin.s3 (i := .tableswitch 1050 0 16 #[84, 188, 244, 257, 270, 281, 344, 412, 468, 543, 623, 727, 795, 839, 895, 951, 995]) (k := 84) (t := 1035) (st' := []) (by decide +kernel) (ab_swI (off := 995) (by decide +kernel) (by decide +kernel) (by decide +kernel)) ?_
    exact p1_word z4 z5 z6 h4 h5 h6 xs p1_H p1_H_n p1_H_z p1_f0 p1_f101
  have qd : kk.toInt < 0 ∨ 16 < kk.toInt := by
    simp only [← Int32.toInt_inj, show (0 : Int32).toInt = 0 from rfl, show (1 : Int32).toInt = 1 from rfl, show (2 : Int32).toInt = 2 from rfl, show (3 : Int32).toInt = 3 from rfl, show (4 : Int32).toInt = 4 from rfl, show (5 : Int32).toInt = 5 from rfl, show (6 : Int32).toInt = 6 from rfl, show (7 : Int32).toInt = 7 from rfl, show (8 : Int32).toInt = 8 from rfl, show (9 : Int32).toInt = 9 from rfl, show (10 : Int32).toInt = 10 from rfl, show (11 : Int32).toInt = 11 from rfl, show (12 : Int32).toInt = 12 from rfl, show (13 : Int32).toInt = 13 from rfl, show (14 : Int32).toInt = 14 from rfl, show (15 : Int32).toInt = 15 from rfl, show (16 : Int32).toInt = 16 from rfl] at q0 q1 q2 q3 q4 q5 q6 q7 q8 q9 q10 q11 q12 q13 q14 q15 q16
    omega
  refine ab_fin.s3 (i := .tableswitch 1050 0 16 #[84, 188, 244, 257, 270, 281, 344, 412, 468, 543, 623, 727, 795, 839, 895, 951, 995]) (k := 84) (t := 1090) (st' := []) (by decide +kernel) (ab_swD qd (by decide +kernel)) ?_
  refine ab_fin.inc (i := .iinc 4 6) (k := 3) (pc' := 1093) (j := 4) (n := 6) (lv' := [(3, .ref 3466), (2, .ref 101), (1, .ref 0), (0, .retAddr 9)]) (by decide +kernel) rfl (by decide +kernel) rfl ?_
  refine ab_fin.s3 (i := .goto (-1070)) (k := 3) (t := 23) (st' := []) (by decide +kernel) (ab_goto (by decide +kernel)) ?_
  refine ab_fin.s2 (i := .iload 4) (k := 2) (pc' := 25) (lv' := [(4, .int 6), (3, .ref 3466), (2, .ref 101), (1, .ref 0), (0, .retAddr 9)]) (st' := [.int 6]) (by decide +kernel) rfl rfl ?_
  refine ab_fin.s2 (i := .aload_n 0) (k := 1) (pc' := 26) (lv' := [(4, .int 6), (3, .ref 3466), (2, .ref 101), (1, .ref 0), (0, .retAddr 9)]) (st' := [.retAddr 9, .int 6]) (by decide +kernel) rfl rfl ?_
  refine ab_fin.s8 (i := .arraylength) (k := 1) (pc' := 27) (st' := [.int (Int32.ofNat 6), .int 6]) (by decide +kernel) rfl rfl rfl rfl ?_
  refine ab_fin.s1i (i := .bipush 6) (k := 2) (pc' := 29) (n := 6) (by decide +kernel) rfl (by decide +kernel) rfl ?_
  refine ab_fin.s1 (i := .isub) (k := 1) (pc' := 30) (st' := [.int (Int32.ofNat 6 - 6), .int 6]) (by decide +kernel) rfl rfl ?_
  refine ab_fin.brT (c := Int32.ofNat 6 - 6 < 6) (i := .if_icmp .gt 1066) (off := 1066) (t := 1096) (r := []) (by decide +kernel) rfl (by decide +kernel) (by decide) ?_
  exact p1_end1 (by rw [p1_H_n]; decide) (Nat.le_trans p1_H_z (by decide))
set_option maxRecDepth 100000 in
set_option maxHeartbeats 0 in
theorem p1_start {z4 z5 z6 : Value} {xs : Nat → Int32} (h4 : z4 = .null ∨ z4 = .retAddr 4) (h5 : z5 = .null ∨ z5 = .retAddr 5) (h6 : z6 = .null ∨ z6 = .retAddr 6) {L : Nat} (hL : L ≤ 6) : ab_fin (hb_Gz (some z4, some z5, some z6) (some (0, L, fun i => .int (xs i)))) hb_GT 2046 (mL_law, []) 0 (lv_args 0 [.retAddr 9]) [] [] p1_Q := by
  show ab_fin _ _ (2045 + 1) _ 0 [(0, .retAddr 9)] [] [] _
  refine ab_fin.newO (ix := 8) (n := 0) (h1 := hw_27) (pc' := 3) (by decide +kernel) rfl rfl rfl rfl ?_
  refine ab_fin.s1 (i := .dup) (k := 1) (pc' := 4) (st' := [.ref 0, .ref 0]) (by decide +kernel) rfl rfl ?_
  refine ab_fin.known (i := .invokespecial 65) (k := 3) (y := 3072) (As := [.ref 0]) (rest := [.ref 0]) (M' := (mX12_init, [])) (v := none) (pc' := 7) (st' := [.ref 0]) (h1 := hw_28) (by decide +kernel) (ab_ci (Or.inl rfl) rfl rfl ⟨(Nat.le_of_ble_eq_true rfl), (Nat.le_of_ble_eq_true rfl)⟩ rfl) rfl (Nat.le_of_ble_eq_true rfl) (p1_newC h4) rfl rfl ?_
  refine ab_fin.s2 (i := .astore_n 1) (k := 1) (pc' := 8) (lv' := [(1, .ref 0), (0, .retAddr 9)]) (st' := []) (by decide +kernel) rfl rfl ?_
  refine ab_fin.newO (ix := 66) (n := 101) (h1 := hw_28 ++ [.inr (.inr (24, hm_F0))]) (pc' := 11) (by decide +kernel) rfl hw_28_n rfl rfl ?_
  refine ab_fin.s1 (i := .dup) (k := 1) (pc' := 12) (st' := [.ref 101, .ref 101]) (by decide +kernel) rfl rfl ?_
  refine ab_fin.known (i := .invokespecial 68) (k := 3) (y := 5989) (As := [.ref 101]) (rest := [.ref 101]) (M' := (mX23_init, [])) (v := none) (pc' := 15) (st' := [.ref 101]) (h1 := hw_28 ++ hm_M.map (ab_rnE (fun k => 101 + k))) (by decide +kernel) (ab_ci (Or.inl rfl) rfl rfl ⟨(Nat.le_of_ble_eq_true rfl), (Nat.le_of_ble_eq_true rfl)⟩ rfl) rfl (Nat.le_of_ble_eq_true rfl) (p1_newM h4 h5 h6) rfl rfl ?_
  refine ab_fin.s2 (i := .astore_n 2) (k := 1) (pc' := 16) (lv' := [(2, .ref 101), (1, .ref 0), (0, .retAddr 9)]) (st' := []) (by decide +kernel) rfl rfl ?_
  refine ab_fin.s1i (i := .iconst 1) (k := 1) (pc' := 17) (n := 1) (by decide +kernel) rfl (by decide +kernel) rfl ?_
  refine ab_fin.newA (a := .long) (n := 3466) (h1 := p1_H) (pc' := 19) (by decide +kernel) rfl (by decide +kernel) (by rw [List.length_append, List.length_map, hw_28_n, hm_M_n]) rfl rfl ?_
  refine ab_fin.s2 (i := .astore_n 3) (k := 1) (pc' := 20) (lv' := [(3, .ref 3466), (2, .ref 101), (1, .ref 0), (0, .retAddr 9)]) (st' := []) (by decide +kernel) rfl rfl ?_
  refine ab_fin.s1i (i := .iconst 0) (k := 1) (pc' := 21) (n := 0) (by decide +kernel) rfl (by decide +kernel) rfl ?_
  refine ab_fin.s2 (i := .istore 4) (k := 2) (pc' := 23) (lv' := [(4, .int 0), (3, .ref 3466), (2, .ref 101), (1, .ref 0), (0, .retAddr 9)]) (st' := []) (by decide +kernel) rfl rfl ?_
  refine ab_fin.s2 (i := .iload 4) (k := 2) (pc' := 25) (lv' := [(4, .int 0), (3, .ref 3466), (2, .ref 101), (1, .ref 0), (0, .retAddr 9)]) (st' := [.int 0]) (by decide +kernel) rfl rfl ?_
  refine ab_fin.s2 (i := .aload_n 0) (k := 1) (pc' := 26) (lv' := [(4, .int 0), (3, .ref 3466), (2, .ref 101), (1, .ref 0), (0, .retAddr 9)]) (st' := [.retAddr 9, .int 0]) (by decide +kernel) rfl rfl ?_
  refine ab_fin.s8 (i := .arraylength) (k := 1) (pc' := 27) (st' := [.int (Int32.ofNat L), .int 0]) (by decide +kernel) rfl rfl rfl rfl ?_
  refine ab_fin.s1i (i := .bipush 6) (k := 2) (pc' := 29) (n := 6) (by decide +kernel) rfl (by decide +kernel) rfl ?_
  refine ab_fin.s1 (i := .isub) (k := 1) (pc' := 30) (st' := [.int (Int32.ofNat L - 6), .int 0]) (by decide +kernel) rfl rfl ?_
  have hE : ∀ d, ab_fin (hb_Gz (some z4, some z5, some z6) (some (0, L, fun i => .int (xs i)))) hb_GT d (mL_law, []) 1096 [(4, .int 0), (3, .ref 3466), (2, .ref 101), (1, .ref 0), (0, .retAddr 9)] [] p1_H p1_Q := fun d => p1_end1 (by rw [p1_H_n]; decide) (Nat.le_trans p1_H_z (by decide))
  rcases (show L = 0 ∨ L = 1 ∨ L = 2 ∨ L = 3 ∨ L = 4 ∨ L = 5 ∨ L = 6 by omega) with rfl | rfl | rfl | rfl | rfl | rfl | rfl
  · exact ab_fin.brT (c := Int32.ofNat 0 - 6 < 0) (i := .if_icmp .gt 1066) (off := 1066) (t := 1096) (r := []) (by decide +kernel) rfl (by decide +kernel) (by decide) (hE _)
  · exact ab_fin.brT (c := Int32.ofNat 1 - 6 < 0) (i := .if_icmp .gt 1066) (off := 1066) (t := 1096) (r := []) (by decide +kernel) rfl (by decide +kernel) (by decide) (hE _)
  · exact ab_fin.brT (c := Int32.ofNat 2 - 6 < 0) (i := .if_icmp .gt 1066) (off := 1066) (t := 1096) (r := []) (by decide +kernel) rfl (by decide +kernel) (by decide) (hE _)
  · exact ab_fin.brT (c := Int32.ofNat 3 - 6 < 0) (i := .if_icmp .gt 1066) (off := 1066) (t := 1096) (r := []) (by decide +kernel) rfl (by decide +kernel) (by decide) (hE _)
  · exact ab_fin.brT (c := Int32.ofNat 4 - 6 < 0) (i := .if_icmp .gt 1066) (off := 1066) (t := 1096) (r := []) (by decide +kernel) rfl (by decide +kernel) (by decide) (hE _)
  · exact ab_fin.brT (c := Int32.ofNat 5 - 6 < 0) (i := .if_icmp .gt 1066) (off := 1066) (t := 1096) (r := []) (by decide +kernel) rfl (by decide +kernel) (by decide) (hE _)
  · exact ab_fin.brF (c := Int32.ofNat 6 - 6 < 0) (i := .if_icmp .gt 1066) (off := 1066) (t := 1096) (pc' := 33) (r := []) (by decide +kernel) rfl (by decide +kernel) rfl (by decide) (p1_one h4 h5 h6)
/-- THE LAW ON AT MOST ONE CALL -/
theorem p1_law (L : Nat) (xs : Nat → Int32) (hL : L ≤ 6) : hb_Law L xs := by
  intro z4 z5 z6 h4 h5 h6
  obtain ⟨r, h', e, rfl, q1, q2⟩ := p1_start (xs := xs) h4 h5 h6 hL
  exact ⟨h', e, q1, q2⟩

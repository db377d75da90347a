set_option maxRecDepth 100000 in
set_option maxHeartbeats 0 in
theorem p1_program (z4 z5 z6 : Value) (n_z5 : z5 = .null ∨ z5 = .retAddr 5) (n_z6 : z6 = .null ∨ z6 = .retAddr 6) (xs : Nat → Int32) (h : List ab_E) (hl : h.length = 3467) (hz : ab_z h ≤ 400000) (f_0 : h[0]? = some (.inr (.inr (13, p1_o0)))) (f_1 : h[1]? = some (.inr (.inr (12, p1_o1)))) (f_24 : h[24]? = some (.inr (.inr (2, p1_o24)))) (f_25 : h[25]? = some (.inr (.inl (0, .inl (List.replicate 1804 0))))) (f_26 : h[26]? = some (.inr (.inl (0, .inl (List.replicate 1804 0))))) (f_27 : h[27]? = some (.inr (.inl (0, .inl (List.replicate 1804 0))))) (f_28 : h[28]? = some (.inr (.inl (0, .inl (p1_a28))))) (f_40 : h[40]? = some (.inr (.inr (8, p1_o40)))) (f_41 : h[41]? = some (.inr (.inr (9, p1_o41)))) (f_42 : h[42]? = some (.inr (.inl (0, .inl (List.replicate 64 0))))) (f_43 : h[43]? = some (.inr (.inl (0, .inl (List.replicate 64 0))))) (f_44 : h[44]? = some (.inr (.inl (1, .inr (.inl (List.replicate 64 0)))))) (f_45 : h[45]? = some (.inr (.inl (1, .inr (.inl (List.replicate 64 0)))))) (f_101 : h[101]? = some (.inr (.inr (24, p1_o101)))) (f_108 : h[108]? = some (.inr (.inr (22, p1_o108)))) : ab_fin (hb_Gz (some z4, some z5, some z6) (some (0, 6, fun i => .int (xs i)))) hb_GT 2046 (mL_law, []) 297 [(4, .int 0), (3, .ref 3466), (2, .ref 101), (1, .ref 0), (0, .retAddr 9)] [] h p1_Q := by
  have lt0 : ∀ a, a < 3467 → a < h.length := fun a q => by rw [hl]; exact q
  show ab_fin _ _ _ _ _ _ _ (ab_ov h []) _
  refine ab_fin.s2 (i := .aload_n 1) (k := 1) (pc' := 298) (lv' := [(4, .int 0), (3, .ref 3466), (2, .ref 101), (1, .ref 0), (0, .retAddr 9)]) (st' := [.ref 0]) (by decide +kernel) rfl rfl ?_
  refine ab_fin.call (i := .invokevirtual 86) (k := 3) (y := 3077) (As := [.ref 0]) (rest := []) (M' := (mX12_program, [])) (by decide +kernel) (ab_cv rfl rfl (ab_ov_no f_0 rfl) ⟨(Nat.le_of_ble_eq_true rfl), (Nat.le_of_ble_eq_true rfl)⟩ rfl) rfl (Nat.le_of_ble_eq_true rfl) ?_
  show ab_fin _ _ _ _ 0 [(0, .ref 0)] [] _ _
  refine ab_fin.s2 (i := .aload_n 0) (k := 1) (pc' := 1) (lv' := [(0, .ref 0)]) (st' := [.ref 0]) (by decide +kernel) rfl rfl ?_
  refine ab_fin.getf (ix := 21) (k := 1) (v := .ref 40) (pc' := 4) (by decide +kernel) rfl (ab_ov_no f_0 rfl) rfl rfl ?_
  refine ab_fin.s2 (i := .aload_n 0) (k := 1) (pc' := 5) (lv' := [(0, .ref 0)]) (st' := [.ref 0, .ref 40]) (by decide +kernel) rfl rfl ?_
  refine ab_fin.getf (ix := 69) (k := 8) (v := .ref 100) (pc' := 8) (by decide +kernel) rfl (ab_ov_no f_0 rfl) rfl rfl ?_
  refine ab_fin.s2 (i := .aload_n 0) (k := 1) (pc' := 9) (lv' := [(0, .ref 0)]) (st' := [.ref 0, .ref 100, .ref 40]) (by decide +kernel) rfl rfl ?_
  refine ab_fin.getf (ix := 77) (k := 9) (v := .int 0) (pc' := 12) (by decide +kernel) rfl (ab_ov_no f_0 rfl) rfl rfl ?_
  refine ab_fin.call (i := .invokevirtual 106) (k := 3) (y := 1794) (As := [.ref 40, .ref 100, .int 0]) (rest := []) (M' := (mX7_readProgram, [])) (by decide +kernel) (ab_cv rfl rfl (ab_ov_no f_40 rfl) ⟨(Nat.le_of_ble_eq_true rfl), (Nat.le_of_ble_eq_true rfl)⟩ rfl) rfl (Nat.le_of_ble_eq_true rfl) ?_
  show ab_fin _ _ _ _ 0 [(0, .ref 40), (1, .ref 100), (2, .int 0)] [] _ _
  refine ab_fin.s2 (i := .aload_n 0) (k := 1) (pc' := 1) (lv' := [(0, .ref 40), (1, .ref 100), (2, .int 0)]) (st' := [.ref 40]) (by decide +kernel) rfl rfl ?_
  refine ab_fin.getf (ix := 12) (k := 1) (v := .ref 41) (pc' := 4) (by decide +kernel) rfl (ab_ov_no f_40 rfl) rfl rfl ?_
  refine ab_fin.s2 (i := .aload_n 1) (k := 1) (pc' := 5) (lv' := [(0, .ref 40), (1, .ref 100), (2, .int 0)]) (st' := [.ref 100, .ref 41]) (by decide +kernel) rfl rfl ?_
  refine ab_fin.s2 (i := .iload_n 2) (k := 1) (pc' := 6) (lv' := [(0, .ref 40), (1, .ref 100), (2, .int 0)]) (st' := [.int 0, .ref 100, .ref 41]) (by decide +kernel) rfl rfl ?_
  refine ab_fin.call (i := .invokevirtual 22) (k := 3) (y := 2049) (As := [.ref 41, .ref 100, .int 0]) (rest := []) (M' := (mX8_cut, [])) (by decide +kernel) (ab_cv rfl rfl (ab_ov_no f_41 rfl) ⟨(Nat.le_of_ble_eq_true rfl), (Nat.le_of_ble_eq_true rfl)⟩ rfl) rfl (Nat.le_of_ble_eq_true rfl) ?_
  show ab_fin _ _ _ _ 0 [(0, .ref 41), (1, .ref 100), (2, .int 0)] [] _ _
  refine ab_fin.s2 (i := .iload_n 2) (k := 1) (pc' := 1) (lv' := [(0, .ref 41), (1, .ref 100), (2, .int 0)]) (st' := [.int 0]) (by decide +kernel) rfl rfl ?_
  refine ab_fin.s1i (i := .iconst 2) (k := 1) (pc' := 2) (n := 2) (by decide +kernel) rfl (by decide +kernel) rfl ?_
  refine ab_fin.s1i (i := .iadd) (k := 1) (pc' := 3) (n := 2) (by decide +kernel) rfl (by decide +kernel) rfl ?_
  refine ab_fin.s2 (i := .istore_n 3) (k := 1) (pc' := 4) (lv' := [(3, .int 2), (0, .ref 41), (1, .ref 100), (2, .int 0)]) (st' := []) (by decide +kernel) rfl rfl ?_
  refine ab_fin.s2 (i := .iload_n 3) (k := 1) (pc' := 5) (lv' := [(3, .int 2), (0, .ref 41), (1, .ref 100), (2, .int 0)]) (st' := [.int 2]) (by decide +kernel) rfl rfl ?_
  refine ab_fin.s2 (i := .aload_n 0) (k := 1) (pc' := 6) (lv' := [(3, .int 2), (0, .ref 41), (1, .ref 100), (2, .int 0)]) (st' := [.ref 41, .int 2]) (by decide +kernel) rfl rfl ?_
  refine ab_fin.getf (ix := 7) (k := 0) (v := .ref 42) (pc' := 9) (by decide +kernel) rfl (ab_ov_no f_41 rfl) rfl rfl ?_
  refine ab_fin.alen (n := 64) (pc' := 10) (by decide +kernel) (ab_ov_no f_42 rfl) (Or.inl (by decide)) (ab_ln (show List.length _ = 64 from (by rw [List.length_replicate])) (by decide +kernel)) rfl ?_
  refine ab_fin.brT (c := (2 : Int32) ≤ (64 : Int32)) (i := .if_icmp .le 43) (off := 43) (t := 53) (r := []) (by decide +kernel) rfl (by decide +kernel) (by decide +kernel) ?_
  refine ab_fin.s2 (i := .aload_n 0) (k := 1) (pc' := 54) (lv' := [(3, .int 2), (0, .ref 41), (1, .ref 100), (2, .int 0)]) (st' := [.ref 41]) (by decide +kernel) rfl rfl ?_
  refine ab_fin.s1i (i := .iconst 0) (k := 1) (pc' := 55) (n := 0) (by decide +kernel) rfl (by decide +kernel) rfl ?_
  refine ab_fin.putf (ix := 29) (h1 := ab_ov h [(41, .inr (.inr (9, (p1_o41).set 4 (.int 0))))]) (pc' := 58) (by decide +kernel) rfl (ab_ov_no f_41 rfl) (ab_klt (n := 5) (by rw [p1_n41]) (by decide)) rfl rfl (ab_ov_set rfl) rfl ?_
  refine ab_fin.s1i (i := .iconst 0) (k := 1) (pc' := 59) (n := 0) (by decide +kernel) rfl (by decide +kernel) rfl ?_
  refine ab_fin.s2 (i := .istore 4) (k := 2) (pc' := 61) (lv' := [(4, .int 0), (3, .int 2), (0, .ref 41), (1, .ref 100), (2, .int 0)]) (st' := []) (by decide +kernel) rfl rfl ?_
  refine ab_fin.s1i (i := .iconst 0) (k := 1) (pc' := 62) (n := 0) (by decide +kernel) rfl (by decide +kernel) rfl ?_
  refine ab_fin.s2 (i := .istore 5) (k := 2) (pc' := 64) (lv' := [(5, .int 0), (4, .int 0), (3, .int 2), (0, .ref 41), (1, .ref 100), (2, .int 0)]) (st' := []) (by decide +kernel) rfl rfl ?_
  refine ab_fin.s2 (i := .iload 5) (k := 2) (pc' := 66) (lv' := [(5, .int 0), (4, .int 0), (3, .int 2), (0, .ref 41), (1, .ref 100), (2, .int 0)]) (st' := [.int 0]) (by decide +kernel) rfl rfl ?_
  refine ab_fin.s2 (i := .iload_n 2) (k := 1) (pc' := 67) (lv' := [(5, .int 0), (4, .int 0), (3, .int 2), (0, .ref 41), (1, .ref 100), (2, .int 0)]) (st' := [.int 0, .int 0]) (by decide +kernel) rfl rfl ?_
  refine ab_fin.brT (c := (0 : Int32) ≤ (0 : Int32)) (i := .if_icmp .ge 25) (off := 25) (t := 92) (r := []) (by decide +kernel) rfl (by decide +kernel) (by decide +kernel) ?_
  refine ab_fin.s2 (i := .aload_n 0) (k := 1) (pc' := 93) (lv' := [(5, .int 0), (4, .int 0), (3, .int 2), (0, .ref 41), (1, .ref 100), (2, .int 0)]) (st' := [.ref 41]) (by decide +kernel) rfl rfl ?_
  refine ab_fin.s1i (i := .iconst 0) (k := 1) (pc' := 94) (n := 0) (by decide +kernel) rfl (by decide +kernel) rfl ?_
  refine ab_fin.s2 (i := .iload_n 2) (k := 1) (pc' := 95) (lv' := [(5, .int 0), (4, .int 0), (3, .int 2), (0, .ref 41), (1, .ref 100), (2, .int 0)]) (st' := [.int 0, .int 0, .ref 41]) (by decide +kernel) rfl rfl ?_
  refine ab_fin.s1l (i := .lconst 0) (k := 1) (pc' := 96) (n := 0) (by decide +kernel) rfl (by decide +kernel) rfl ?_
  refine ab_fin.s1l (i := .lconst 0) (k := 1) (pc' := 97) (n := 0) (by decide +kernel) rfl (by decide +kernel) rfl ?_
  refine ab_fin.call (i := .invokevirtual 37) (k := 3) (y := 2050) (As := [.ref 41, .int 0, .int 0, .long 0, .long 0]) (rest := []) (M' := (mX8_put, [])) (by decide +kernel) (ab_cv rfl rfl (ab_ov_get (lt0 41 (by decide)) rfl) ⟨(Nat.le_of_ble_eq_true rfl), (Nat.le_of_ble_eq_true rfl)⟩ rfl) rfl (Nat.le_of_ble_eq_true rfl) ?_
  show ab_fin _ _ _ _ 0 [(0, .ref 41), (1, .int 0), (2, .int 0), (3, .long 0), (5, .long 0)] [] _ _
  refine ab_fin.s2 (i := .aload_n 0) (k := 1) (pc' := 1) (lv' := [(0, .ref 41), (1, .int 0), (2, .int 0), (3, .long 0), (5, .long 0)]) (st' := [.ref 41]) (by decide +kernel) rfl rfl ?_
  refine ab_fin.getf (ix := 29) (k := 4) (v := .int 0) (pc' := 4) (by decide +kernel) rfl (ab_ov_get (lt0 41 (by decide)) rfl) rfl rfl ?_
  refine ab_fin.s2 (i := .aload_n 0) (k := 1) (pc' := 5) (lv' := [(0, .ref 41), (1, .int 0), (2, .int 0), (3, .long 0), (5, .long 0)]) (st' := [.ref 41, .int 0]) (by decide +kernel) rfl rfl ?_
  refine ab_fin.getf (ix := 7) (k := 0) (v := .ref 42) (pc' := 8) (by decide +kernel) rfl (ab_ov_get (lt0 41 (by decide)) rfl) rfl rfl ?_
  refine ab_fin.alen (n := 64) (pc' := 9) (by decide +kernel) (ab_ov_no f_42 rfl) (Or.inl (by decide)) (ab_ln (show List.length _ = 64 from (by rw [List.length_replicate])) (by decide +kernel)) rfl ?_
  refine ab_fin.brF (c := (64 : Int32) ≤ (0 : Int32)) (i := .if_icmp .ge 54) (off := 54) (t := 63) (pc' := 12) (r := []) (by decide +kernel) rfl (by decide +kernel) rfl (by decide +kernel) ?_
  refine ab_fin.s2 (i := .aload_n 0) (k := 1) (pc' := 13) (lv' := [(0, .ref 41), (1, .int 0), (2, .int 0), (3, .long 0), (5, .long 0)]) (st' := [.ref 41]) (by decide +kernel) rfl rfl ?_
  refine ab_fin.getf (ix := 7) (k := 0) (v := .ref 42) (pc' := 16) (by decide +kernel) rfl (ab_ov_get (lt0 41 (by decide)) rfl) rfl rfl ?_
  refine ab_fin.s2 (i := .aload_n 0) (k := 1) (pc' := 17) (lv' := [(0, .ref 41), (1, .int 0), (2, .int 0), (3, .long 0), (5, .long 0)]) (st' := [.ref 41, .ref 42]) (by decide +kernel) rfl rfl ?_
  refine ab_fin.getf (ix := 29) (k := 4) (v := .int 0) (pc' := 20) (by decide +kernel) rfl (ab_ov_get (lt0 41 (by decide)) rfl) rfl rfl ?_
  refine ab_fin.s2 (i := .iload_n 1) (k := 1) (pc' := 21) (lv' := [(0, .ref 41), (1, .int 0), (2, .int 0), (3, .long 0), (5, .long 0)]) (st' := [.int 0, .int 0, .ref 42]) (by decide +kernel) rfl rfl ?_
  refine ab_fin.iast (h1 := ab_ov h [(42, .inr (.inl (0, .inl ((List.replicate 64 0).set 0 (0))))), (41, .inr (.inr (9, (p1_o41).set 4 (.int 0))))]) (pc' := 22) (by decide +kernel) (ab_ov_no f_42 rfl) (ab_bd (n := 64) (by rw [List.length_replicate]) (by decide +kernel)) (ab_ov_set rfl) rfl ?_
  refine ab_fin.s2 (i := .aload_n 0) (k := 1) (pc' := 23) (lv' := [(0, .ref 41), (1, .int 0), (2, .int 0), (3, .long 0), (5, .long 0)]) (st' := [.ref 41]) (by decide +kernel) rfl rfl ?_
  refine ab_fin.getf (ix := 13) (k := 1) (v := .ref 43) (pc' := 26) (by decide +kernel) rfl (ab_ov_get (lt0 41 (by decide)) rfl) rfl rfl ?_
  refine ab_fin.s2 (i := .aload_n 0) (k := 1) (pc' := 27) (lv' := [(0, .ref 41), (1, .int 0), (2, .int 0), (3, .long 0), (5, .long 0)]) (st' := [.ref 41, .ref 43]) (by decide +kernel) rfl rfl ?_
  refine ab_fin.getf (ix := 29) (k := 4) (v := .int 0) (pc' := 30) (by decide +kernel) rfl (ab_ov_get (lt0 41 (by decide)) rfl) rfl rfl ?_
  refine ab_fin.s2 (i := .iload_n 2) (k := 1) (pc' := 31) (lv' := [(0, .ref 41), (1, .int 0), (2, .int 0), (3, .long 0), (5, .long 0)]) (st' := [.int 0, .int 0, .ref 43]) (by decide +kernel) rfl rfl ?_
  refine ab_fin.iast (h1 := ab_ov h [(43, .inr (.inl (0, .inl ((List.replicate 64 0).set 0 (0))))), (42, .inr (.inl (0, .inl ((List.replicate 64 0).set 0 (0))))), (41, .inr (.inr (9, (p1_o41).set 4 (.int 0))))]) (pc' := 32) (by decide +kernel) (ab_ov_no f_43 rfl) (ab_bd (n := 64) (by rw [List.length_replicate]) (by decide +kernel)) (ab_ov_set rfl) rfl ?_
  refine ab_fin.s2 (i := .aload_n 0) (k := 1) (pc' := 33) (lv' := [(0, .ref 41), (1, .int 0), (2, .int 0), (3, .long 0), (5, .long 0)]) (st' := [.ref 41]) (by decide +kernel) rfl rfl ?_
  refine ab_fin.getf (ix := 16) (k := 2) (v := .ref 44) (pc' := 36) (by decide +kernel) rfl (ab_ov_get (lt0 41 (by decide)) rfl) rfl rfl ?_
  refine ab_fin.s2 (i := .aload_n 0) (k := 1) (pc' := 37) (lv' := [(0, .ref 41), (1, .int 0), (2, .int 0), (3, .long 0), (5, .long 0)]) (st' := [.ref 41, .ref 44]) (by decide +kernel) rfl rfl ?_
  refine ab_fin.getf (ix := 29) (k := 4) (v := .int 0) (pc' := 40) (by decide +kernel) rfl (ab_ov_get (lt0 41 (by decide)) rfl) rfl rfl ?_
  refine ab_fin.s2 (i := .lload_n 3) (k := 1) (pc' := 41) (lv' := [(0, .ref 41), (1, .int 0), (2, .int 0), (3, .long 0), (5, .long 0)]) (st' := [.long 0, .int 0, .ref 44]) (by decide +kernel) rfl rfl ?_
  refine ab_fin.last (h1 := ab_ov h [(44, .inr (.inl (1, .inr (.inl ((List.replicate 64 0).set 0 (0)))))), (43, .inr (.inl (0, .inl ((List.replicate 64 0).set 0 (0))))), (42, .inr (.inl (0, .inl ((List.replicate 64 0).set 0 (0))))), (41, .inr (.inr (9, (p1_o41).set 4 (.int 0))))]) (pc' := 42) (by decide +kernel) (ab_ov_no f_44 rfl) (ab_bd (n := 64) (by rw [List.length_replicate]) (by decide +kernel)) (ab_ov_set rfl) rfl ?_
  refine ab_fin.s2 (i := .aload_n 0) (k := 1) (pc' := 43) (lv' := [(0, .ref 41), (1, .int 0), (2, .int 0), (3, .long 0), (5, .long 0)]) (st' := [.ref 41]) (by decide +kernel) rfl rfl ?_
  refine ab_fin.getf (ix := 20) (k := 3) (v := .ref 45) (pc' := 46) (by decide +kernel) rfl (ab_ov_get (lt0 41 (by decide)) rfl) rfl rfl ?_
  refine ab_fin.s2 (i := .aload_n 0) (k := 1) (pc' := 47) (lv' := [(0, .ref 41), (1, .int 0), (2, .int 0), (3, .long 0), (5, .long 0)]) (st' := [.ref 41, .ref 45]) (by decide +kernel) rfl rfl ?_
  refine ab_fin.getf (ix := 29) (k := 4) (v := .int 0) (pc' := 50) (by decide +kernel) rfl (ab_ov_get (lt0 41 (by decide)) rfl) rfl rfl ?_
  refine ab_fin.s2 (i := .lload 5) (k := 2) (pc' := 52) (lv' := [(0, .ref 41), (1, .int 0), (2, .int 0), (3, .long 0), (5, .long 0)]) (st' := [.long 0, .int 0, .ref 45]) (by decide +kernel) rfl rfl ?_
  refine ab_fin.last (h1 := ab_ov h [(45, .inr (.inl (1, .inr (.inl ((List.replicate 64 0).set 0 (0)))))), (44, .inr (.inl (1, .inr (.inl ((List.replicate 64 0).set 0 (0)))))), (43, .inr (.inl (0, .inl ((List.replicate 64 0).set 0 (0))))), (42, .inr (.inl (0, .inl ((List.replicate 64 0).set 0 (0))))), (41, .inr (.inr (9, (p1_o41).set 4 (.int 0))))]) (pc' := 53) (by decide +kernel) (ab_ov_no f_45 rfl) (ab_bd (n := 64) (by rw [List.length_replicate]) (by decide +kernel)) (ab_ov_set rfl) rfl ?_
  refine ab_fin.s2 (i := .aload_n 0) (k := 1) (pc' := 54) (lv' := [(0, .ref 41), (1, .int 0), (2, .int 0), (3, .long 0), (5, .long 0)]) (st' := [.ref 41]) (by decide +kernel) rfl rfl ?_
  refine ab_fin.s1 (i := .dup) (k := 1) (pc' := 55) (st' := [.ref 41, .ref 41]) (by decide +kernel) rfl rfl ?_
  refine ab_fin.getf (ix := 29) (k := 4) (v := .int 0) (pc' := 58) (by decide +kernel) rfl (ab_ov_get (lt0 41 (by decide)) rfl) rfl rfl ?_
  refine ab_fin.s1i (i := .iconst 1) (k := 1) (pc' := 59) (n := 1) (by decide +kernel) rfl (by decide +kernel) rfl ?_
  refine ab_fin.s1i (i := .iadd) (k := 1) (pc' := 60) (n := 1) (by decide +kernel) rfl (by decide +kernel) rfl ?_
  refine ab_fin.putf (ix := 29) (h1 := ab_ov h [(41, .inr (.inr (9, (p1_o41).set 4 (.int 1)))), (45, .inr (.inl (1, .inr (.inl ((List.replicate 64 0).set 0 (0)))))), (44, .inr (.inl (1, .inr (.inl ((List.replicate 64 0).set 0 (0)))))), (43, .inr (.inl (0, .inl ((List.replicate 64 0).set 0 (0))))), (42, .inr (.inl (0, .inl ((List.replicate 64 0).set 0 (0)))))]) (pc' := 63) (by decide +kernel) rfl (ab_ov_get (lt0 41 (by decide)) rfl) (ab_klt (n := 5) (by rw [List.length_set, p1_n41]) (by decide)) rfl rfl (ab_ov_set rfl) rfl ?_
  refine ab_fin.ret (i := .return_) (k := 1) none (by decide +kernel) rfl ?_
  refine ab_bk.back (pc' := 100) (st' := []) rfl rfl ?_
  refine ab_fin.ret (i := .return_) (k := 1) none (by decide +kernel) rfl ?_
  refine ab_bk.back (pc' := 9) (st' := []) rfl rfl ?_
  refine ab_fin.s2 (i := .aload_n 0) (k := 1) (pc' := 10) (lv' := [(0, .ref 40), (1, .ref 100), (2, .int 0)]) (st' := [.ref 40]) (by decide +kernel) rfl rfl ?_
  refine ab_fin.call (i := .invokevirtual 26) (k := 3) (y := 1795) (As := [.ref 40]) (rest := []) (M' := (mX7_begin, [])) (by decide +kernel) (ab_cv rfl rfl (ab_ov_no f_40 rfl) ⟨(Nat.le_of_ble_eq_true rfl), (Nat.le_of_ble_eq_true rfl)⟩ rfl) rfl (Nat.le_of_ble_eq_true rfl) ?_
  show ab_fin _ _ _ _ 0 [(0, .ref 40)] [] _ _
  refine ab_fin.s2 (i := .aload_n 0) (k := 1) (pc' := 1) (lv' := [(0, .ref 40)]) (st' := [.ref 40]) (by decide +kernel) rfl rfl ?_
  refine ab_fin.s1i (i := .iconst 0) (k := 1) (pc' := 2) (n := 0) (by decide +kernel) rfl (by decide +kernel) rfl ?_
  refine ab_fin.putf (ix := 97) (h1 := ab_ov h [(40, .inr (.inr (8, (p1_o40).set 3 (.int 0)))), (41, .inr (.inr (9, (p1_o41).set 4 (.int 1)))), (45, .inr (.inl (1, .inr (.inl ((List.replicate 64 0).set 0 (0)))))), (44, .inr (.inl (1, .inr (.inl ((List.replicate 64 0).set 0 (0)))))), (43, .inr (.inl (0, .inl ((List.replicate 64 0).set 0 (0))))), (42, .inr (.inl (0, .inl ((List.replicate 64 0).set 0 (0)))))]) (pc' := 5) (by decide +kernel) rfl (ab_ov_no f_40 rfl) (ab_klt (n := 13) (by rw [p1_n40]) (by decide)) rfl rfl (ab_ov_set rfl) rfl ?_
  refine ab_fin.s2 (i := .aload_n 0) (k := 1) (pc' := 6) (lv' := [(0, .ref 40)]) (st' := [.ref 40]) (by decide +kernel) rfl rfl ?_
  refine ab_fin.s1i (i := .iconst (-1)) (k := 1) (pc' := 7) (n := (-1)) (by decide +kernel) rfl (by decide +kernel) rfl ?_
  refine ab_fin.putf (ix := 38) (h1 := ab_ov h [(40, .inr (.inr (8, ((p1_o40).set 3 (.int 0)).set 4 (.int (-1))))), (41, .inr (.inr (9, (p1_o41).set 4 (.int 1)))), (45, .inr (.inl (1, .inr (.inl ((List.replicate 64 0).set 0 (0)))))), (44, .inr (.inl (1, .inr (.inl ((List.replicate 64 0).set 0 (0)))))), (43, .inr (.inl (0, .inl ((List.replicate 64 0).set 0 (0))))), (42, .inr (.inl (0, .inl ((List.replicate 64 0).set 0 (0)))))]) (pc' := 10) (by decide +kernel) rfl (ab_ov_get (lt0 40 (by decide)) rfl) (ab_klt (n := 13) (by rw [List.length_set, p1_n40]) (by decide)) rfl rfl (ab_ov_set rfl) rfl ?_
  refine ab_fin.s2 (i := .aload_n 0) (k := 1) (pc' := 11) (lv' := [(0, .ref 40)]) (st' := [.ref 40]) (by decide +kernel) rfl rfl ?_
  refine ab_fin.s1i (i := .iconst (-1)) (k := 1) (pc' := 12) (n := (-1)) (by decide +kernel) rfl (by decide +kernel) rfl ?_
  refine ab_fin.putf (ix := 100) (h1 := ab_ov h [(40, .inr (.inr (8, (((p1_o40).set 3 (.int 0)).set 4 (.int (-1))).set 5 (.int (-1))))), (41, .inr (.inr (9, (p1_o41).set 4 (.int 1)))), (45, .inr (.inl (1, .inr (.inl ((List.replicate 64 0).set 0 (0)))))), (44, .inr (.inl (1, .inr (.inl ((List.replicate 64 0).set 0 (0)))))), (43, .inr (.inl (0, .inl ((List.replicate 64 0).set 0 (0))))), (42, .inr (.inl (0, .inl ((List.replicate 64 0).set 0 (0)))))]) (pc' := 15) (by decide +kernel) rfl (ab_ov_get (lt0 40 (by decide)) rfl) (ab_klt (n := 13) (by rw [List.length_set, List.length_set, p1_n40]) (by decide)) rfl rfl (ab_ov_set rfl) rfl ?_
  refine ab_fin.s2 (i := .aload_n 0) (k := 1) (pc' := 16) (lv' := [(0, .ref 40)]) (st' := [.ref 40]) (by decide +kernel) rfl rfl ?_
  refine ab_fin.s1i (i := .iconst 0) (k := 1) (pc' := 17) (n := 0) (by decide +kernel) rfl (by decide +kernel) rfl ?_
  refine ab_fin.putf (ix := 103) (h1 := ab_ov h [(40, .inr (.inr (8, ((((p1_o40).set 3 (.int 0)).set 4 (.int (-1))).set 5 (.int (-1))).set 6 (.int 0)))), (41, .inr (.inr (9, (p1_o41).set 4 (.int 1)))), (45, .inr (.inl (1, .inr (.inl ((List.replicate 64 0).set 0 (0)))))), (44, .inr (.inl (1, .inr (.inl ((List.replicate 64 0).set 0 (0)))))), (43, .inr (.inl (0, .inl ((List.replicate 64 0).set 0 (0))))), (42, .inr (.inl (0, .inl ((List.replicate 64 0).set 0 (0)))))]) (pc' := 20) (by decide +kernel) rfl (ab_ov_get (lt0 40 (by decide)) rfl) (ab_klt (n := 13) (by rw [List.length_set, List.length_set, List.length_set, p1_n40]) (by decide)) rfl rfl (ab_ov_set rfl) rfl ?_
  refine ab_fin.ret (i := .return_) (k := 1) none (by decide +kernel) rfl ?_
  refine ab_bk.back (pc' := 13) (st' := []) rfl rfl ?_
  refine ab_fin.s2 (i := .aload_n 0) (k := 1) (pc' := 14) (lv' := [(0, .ref 40), (1, .ref 100), (2, .int 0)]) (st' := [.ref 40]) (by decide +kernel) rfl rfl ?_
  refine ab_fin.getf (ix := 18) (k := 0) (v := .ref 1) (pc' := 17) (by decide +kernel) rfl (ab_ov_get (lt0 40 (by decide)) rfl) rfl rfl ?_
  refine ab_fin.getf (ix := 74) (k := 2) (v := .ref 24) (pc' := 20) (by decide +kernel) rfl (ab_ov_no f_1 rfl) rfl rfl ?_
  refine ab_fin.getf (ix := 78) (k := 3) (v := .int 902) (pc' := 23) (by decide +kernel) rfl (ab_ov_no f_24 rfl) rfl rfl ?_
  refine ab_fin.s2 (i := .istore_n 3) (k := 1) (pc' := 24) (lv' := [(3, .int 902), (0, .ref 40), (1, .ref 100), (2, .int 0)]) (st' := []) (by decide +kernel) rfl rfl ?_
  refine ab_fin.s2 (i := .aload_n 0) (k := 1) (pc' := 25) (lv' := [(3, .int 902), (0, .ref 40), (1, .ref 100), (2, .int 0)]) (st' := [.ref 40]) (by decide +kernel) rfl rfl ?_
  refine ab_fin.s1i (i := .iconst 0) (k := 1) (pc' := 26) (n := 0) (by decide +kernel) rfl (by decide +kernel) rfl ?_
  refine ab_fin.putf (ix := 83) (h1 := ab_ov h [(40, .inr (.inr (8, (((((p1_o40).set 3 (.int 0)).set 4 (.int (-1))).set 5 (.int (-1))).set 6 (.int 0)).set 7 (.int 0)))), (41, .inr (.inr (9, (p1_o41).set 4 (.int 1)))), (45, .inr (.inl (1, .inr (.inl ((List.replicate 64 0).set 0 (0)))))), (44, .inr (.inl (1, .inr (.inl ((List.replicate 64 0).set 0 (0)))))), (43, .inr (.inl (0, .inl ((List.replicate 64 0).set 0 (0))))), (42, .inr (.inl (0, .inl ((List.replicate 64 0).set 0 (0)))))]) (pc' := 29) (by decide +kernel) rfl (ab_ov_get (lt0 40 (by decide)) rfl) (ab_klt (n := 13) (by rw [List.length_set, List.length_set, List.length_set, List.length_set, p1_n40]) (by decide)) rfl rfl (ab_ov_set rfl) rfl ?_
  refine ab_fin.s2 (i := .aload_n 0) (k := 1) (pc' := 30) (lv' := [(3, .int 902), (0, .ref 40), (1, .ref 100), (2, .int 0)]) (st' := [.ref 40]) (by decide +kernel) rfl rfl ?_
  refine ab_fin.s1i (i := .iconst (-1)) (k := 1) (pc' := 31) (n := (-1)) (by decide +kernel) rfl (by decide +kernel) rfl ?_
  refine ab_fin.putf (ix := 87) (h1 := ab_ov h [(40, .inr (.inr (8, ((((((p1_o40).set 3 (.int 0)).set 4 (.int (-1))).set 5 (.int (-1))).set 6 (.int 0)).set 7 (.int 0)).set 8 (.int (-1))))), (41, .inr (.inr (9, (p1_o41).set 4 (.int 1)))), (45, .inr (.inl (1, .inr (.inl ((List.replicate 64 0).set 0 (0)))))), (44, .inr (.inl (1, .inr (.inl ((List.replicate 64 0).set 0 (0)))))), (43, .inr (.inl (0, .inl ((List.replicate 64 0).set 0 (0))))), (42, .inr (.inl (0, .inl ((List.replicate 64 0).set 0 (0)))))]) (pc' := 34) (by decide +kernel) rfl (ab_ov_get (lt0 40 (by decide)) rfl) (ab_klt (n := 13) (by rw [List.length_set, List.length_set, List.length_set, List.length_set, List.length_set, p1_n40]) (by decide)) rfl rfl (ab_ov_set rfl) rfl ?_
  refine ab_fin.s2 (i := .aload_n 0) (k := 1) (pc' := 35) (lv' := [(3, .int 902), (0, .ref 40), (1, .ref 100), (2, .int 0)]) (st' := [.ref 40]) (by decide +kernel) rfl rfl ?_
  refine ab_fin.getf (ix := 18) (k := 0) (v := .ref 1) (pc' := 38) (by decide +kernel) rfl (ab_ov_get (lt0 40 (by decide)) rfl) rfl rfl ?_
  refine ab_fin.getf (ix := 90) (k := 3) (v := .ref 28) (pc' := 41) (by decide +kernel) rfl (ab_ov_no f_1 rfl) rfl rfl ?_
  refine ab_fin.s1i (i := .iconst 3) (k := 1) (pc' := 42) (n := 3) (by decide +kernel) rfl (by decide +kernel) rfl ?_
  refine ab_fin.s1i (i := .iconst 0) (k := 1) (pc' := 43) (n := 0) (by decide +kernel) rfl (by decide +kernel) rfl ?_
  refine ab_fin.iast (h1 := ab_ov h [(28, .inr (.inl (0, .inl ((p1_a28).set 3 (0))))), (40, .inr (.inr (8, ((((((p1_o40).set 3 (.int 0)).set 4 (.int (-1))).set 5 (.int (-1))).set 6 (.int 0)).set 7 (.int 0)).set 8 (.int (-1))))), (41, .inr (.inr (9, (p1_o41).set 4 (.int 1)))), (45, .inr (.inl (1, .inr (.inl ((List.replicate 64 0).set 0 (0)))))), (44, .inr (.inl (1, .inr (.inl ((List.replicate 64 0).set 0 (0)))))), (43, .inr (.inl (0, .inl ((List.replicate 64 0).set 0 (0))))), (42, .inr (.inl (0, .inl ((List.replicate 64 0).set 0 (0)))))]) (pc' := 44) (by decide +kernel) (ab_ov_no f_28 rfl) (ab_bd (n := 4) (by rw [p1_n28]) (by decide +kernel)) (ab_ov_set rfl) rfl ?_
  refine ab_fin.s2 (i := .aload_n 0) (k := 1) (pc' := 45) (lv' := [(3, .int 902), (0, .ref 40), (1, .ref 100), (2, .int 0)]) (st' := [.ref 40]) (by decide +kernel) rfl rfl ?_
  refine ab_fin.s1i (i := .iconst 0) (k := 1) (pc' := 46) (n := 0) (by decide +kernel) rfl (by decide +kernel) rfl ?_
  refine ab_fin.call (i := .invokevirtual 94) (k := 3) (y := 1814) (As := [.ref 40, .int 0]) (rest := []) (M' := (mX7_readBody, [])) (by decide +kernel) (ab_cv rfl rfl (ab_ov_get (lt0 40 (by decide)) rfl) ⟨(Nat.le_of_ble_eq_true rfl), (Nat.le_of_ble_eq_true rfl)⟩ rfl) rfl (Nat.le_of_ble_eq_true rfl) ?_
  show ab_fin _ _ _ _ 0 [(0, .ref 40), (1, .int 0)] [] _ _
  refine ab_fin.s2 (i := .aload_n 0) (k := 1) (pc' := 1) (lv' := [(0, .ref 40), (1, .int 0)]) (st' := [.ref 40]) (by decide +kernel) rfl rfl ?_
  refine ab_fin.getf (ix := 18) (k := 0) (v := .ref 1) (pc' := 4) (by decide +kernel) rfl (ab_ov_get (lt0 40 (by decide)) rfl) rfl rfl ?_
  refine ab_fin.getf (ix := 74) (k := 2) (v := .ref 24) (pc' := 7) (by decide +kernel) rfl (ab_ov_no f_1 rfl) rfl rfl ?_
  refine ab_fin.s2 (i := .iload_n 1) (k := 1) (pc' := 8) (lv' := [(0, .ref 40), (1, .int 0)]) (st' := [.int 0, .ref 24]) (by decide +kernel) rfl rfl ?_
  refine ab_fin.call (i := .invokevirtual 263) (k := 3) (y := 257) (As := [.ref 24, .int 0]) (rest := []) (M' := (mX1_open, [])) (by decide +kernel) (ab_cv rfl rfl (ab_ov_no f_24 rfl) ⟨(Nat.le_of_ble_eq_true rfl), (Nat.le_of_ble_eq_true rfl)⟩ rfl) rfl (Nat.le_of_ble_eq_true rfl) ?_
  show ab_fin _ _ _ _ 0 [(0, .ref 24), (1, .int 0)] [] _ _
  refine ab_fin.s2 (i := .aload_n 0) (k := 1) (pc' := 1) (lv' := [(0, .ref 24), (1, .int 0)]) (st' := [.ref 24]) (by decide +kernel) rfl rfl ?_
  refine ab_fin.s2 (i := .iload_n 1) (k := 1) (pc' := 2) (lv' := [(0, .ref 24), (1, .int 0)]) (st' := [.int 0, .ref 24]) (by decide +kernel) rfl rfl ?_
  refine ab_fin.putf (ix := 21) (h1 := ab_ov h [(24, .inr (.inr (2, (p1_o24).set 3 (.int 0)))), (28, .inr (.inl (0, .inl ((p1_a28).set 3 (0))))), (40, .inr (.inr (8, ((((((p1_o40).set 3 (.int 0)).set 4 (.int (-1))).set 5 (.int (-1))).set 6 (.int 0)).set 7 (.int 0)).set 8 (.int (-1))))), (41, .inr (.inr (9, (p1_o41).set 4 (.int 1)))), (45, .inr (.inl (1, .inr (.inl ((List.replicate 64 0).set 0 (0)))))), (44, .inr (.inl (1, .inr (.inl ((List.replicate 64 0).set 0 (0)))))), (43, .inr (.inl (0, .inl ((List.replicate 64 0).set 0 (0))))), (42, .inr (.inl (0, .inl ((List.replicate 64 0).set 0 (0)))))]) (pc' := 5) (by decide +kernel) rfl (ab_ov_no f_24 rfl) (ab_klt (n := 5) (by rw [p1_n24]) (by decide)) rfl rfl (ab_ov_set rfl) rfl ?_
  refine ab_fin.s2 (i := .aload_n 0) (k := 1) (pc' := 6) (lv' := [(0, .ref 24), (1, .int 0)]) (st' := [.ref 24]) (by decide +kernel) rfl rfl ?_
  refine ab_fin.s2 (i := .iload_n 1) (k := 1) (pc' := 7) (lv' := [(0, .ref 24), (1, .int 0)]) (st' := [.int 0, .ref 24]) (by decide +kernel) rfl rfl ?_
  refine ab_fin.s1i (i := .sipush 901) (k := 3) (pc' := 10) (n := 901) (by decide +kernel) rfl (by decide +kernel) rfl ?_
  refine ab_fin.s1i (i := .iadd) (k := 1) (pc' := 11) (n := 901) (by decide +kernel) rfl (by decide +kernel) rfl ?_
  refine ab_fin.putf (ix := 25) (h1 := ab_ov h [(24, .inr (.inr (2, ((p1_o24).set 3 (.int 0)).set 4 (.int 901)))), (28, .inr (.inl (0, .inl ((p1_a28).set 3 (0))))), (40, .inr (.inr (8, ((((((p1_o40).set 3 (.int 0)).set 4 (.int (-1))).set 5 (.int (-1))).set 6 (.int 0)).set 7 (.int 0)).set 8 (.int (-1))))), (41, .inr (.inr (9, (p1_o41).set 4 (.int 1)))), (45, .inr (.inl (1, .inr (.inl ((List.replicate 64 0).set 0 (0)))))), (44, .inr (.inl (1, .inr (.inl ((List.replicate 64 0).set 0 (0)))))), (43, .inr (.inl (0, .inl ((List.replicate 64 0).set 0 (0))))), (42, .inr (.inl (0, .inl ((List.replicate 64 0).set 0 (0)))))]) (pc' := 14) (by decide +kernel) rfl (ab_ov_get (lt0 24 (by decide)) rfl) (ab_klt (n := 5) (by rw [List.length_set, p1_n24]) (by decide)) rfl rfl (ab_ov_set rfl) rfl ?_
  refine ab_fin.s2 (i := .aload_n 0) (k := 1) (pc' := 15) (lv' := [(0, .ref 24), (1, .int 0)]) (st' := [.ref 24]) (by decide +kernel) rfl rfl ?_
  refine ab_fin.getf (ix := 25) (k := 4) (v := .int 901) (pc' := 18) (by decide +kernel) rfl (ab_ov_get (lt0 24 (by decide)) rfl) rfl rfl ?_
  refine ab_fin.s2 (i := .aload_n 0) (k := 1) (pc' := 19) (lv' := [(0, .ref 24), (1, .int 0)]) (st' := [.ref 24, .int 901]) (by decide +kernel) rfl rfl ?_
  refine ab_fin.getf (ix := 11) (k := 0) (v := .ref 25) (pc' := 22) (by decide +kernel) rfl (ab_ov_get (lt0 24 (by decide)) rfl) rfl rfl ?_
  refine ab_fin.alen (n := 1804) (pc' := 23) (by decide +kernel) (ab_ov_no f_25 rfl) (Or.inl (by decide)) (ab_ln (show List.length _ = 1804 from (by rw [List.length_replicate])) (by decide +kernel)) rfl ?_
  refine ab_fin.brT (c := (901 : Int32) < (1804 : Int32)) (i := .if_icmp .lt 56) (off := 56) (t := 79) (r := []) (by decide +kernel) rfl (by decide +kernel) (by decide +kernel) ?_
  refine ab_fin.s2 (i := .aload_n 0) (k := 1) (pc' := 80) (lv' := [(0, .ref 24), (1, .int 0)]) (st' := [.ref 24]) (by decide +kernel) rfl rfl ?_
  refine ab_fin.getf (ix := 18) (k := 2) (v := .ref 27) (pc' := 83) (by decide +kernel) rfl (ab_ov_get (lt0 24 (by decide)) rfl) rfl rfl ?_
  refine ab_fin.s2 (i := .aload_n 0) (k := 1) (pc' := 84) (lv' := [(0, .ref 24), (1, .int 0)]) (st' := [.ref 24, .ref 27]) (by decide +kernel) rfl rfl ?_
  refine ab_fin.getf (ix := 21) (k := 3) (v := .int 0) (pc' := 87) (by decide +kernel) rfl (ab_ov_get (lt0 24 (by decide)) rfl) rfl rfl ?_
  refine ab_fin.s1i (i := .iconst 0) (k := 1) (pc' := 88) (n := 0) (by decide +kernel) rfl (by decide +kernel) rfl ?_
  refine ab_fin.iast (h1 := ab_ov h [(27, .inr (.inl (0, .inl ((List.replicate 1804 0).set 0 (0))))), (24, .inr (.inr (2, ((p1_o24).set 3 (.int 0)).set 4 (.int 901)))), (28, .inr (.inl (0, .inl ((p1_a28).set 3 (0))))), (40, .inr (.inr (8, ((((((p1_o40).set 3 (.int 0)).set 4 (.int (-1))).set 5 (.int (-1))).set 6 (.int 0)).set 7 (.int 0)).set 8 (.int (-1))))), (41, .inr (.inr (9, (p1_o41).set 4 (.int 1)))), (45, .inr (.inl (1, .inr (.inl ((List.replicate 64 0).set 0 (0)))))), (44, .inr (.inl (1, .inr (.inl ((List.replicate 64 0).set 0 (0)))))), (43, .inr (.inl (0, .inl ((List.replicate 64 0).set 0 (0))))), (42, .inr (.inl (0, .inl ((List.replicate 64 0).set 0 (0)))))]) (pc' := 89) (by decide +kernel) (ab_ov_no f_27 rfl) (ab_bd (n := 1804) (by rw [List.length_replicate]) (by decide +kernel)) (ab_ov_set rfl) rfl ?_
  refine ab_fin.ret (i := .return_) (k := 1) none (by decide +kernel) rfl ?_
  refine ab_bk.back (pc' := 11) (st' := []) rfl rfl ?_
  refine ab_fin.s2 (i := .aload_n 0) (k := 1) (pc' := 12) (lv' := [(0, .ref 40), (1, .int 0)]) (st' := [.ref 40]) (by decide +kernel) rfl rfl ?_
  refine ab_fin.s1i (i := .iconst 0) (k := 1) (pc' := 13) (n := 0) (by decide +kernel) rfl (by decide +kernel) rfl ?_
  refine ab_fin.putf (ix := 265) (h1 := ab_ov h [(40, .inr (.inr (8, (((((((p1_o40).set 3 (.int 0)).set 4 (.int (-1))).set 5 (.int (-1))).set 6 (.int 0)).set 7 (.int 0)).set 8 (.int (-1))).set 9 (.int 0)))), (27, .inr (.inl (0, .inl ((List.replicate 1804 0).set 0 (0))))), (24, .inr (.inr (2, ((p1_o24).set 3 (.int 0)).set 4 (.int 901)))), (28, .inr (.inl (0, .inl ((p1_a28).set 3 (0))))), (41, .inr (.inr (9, (p1_o41).set 4 (.int 1)))), (45, .inr (.inl (1, .inr (.inl ((List.replicate 64 0).set 0 (0)))))), (44, .inr (.inl (1, .inr (.inl ((List.replicate 64 0).set 0 (0)))))), (43, .inr (.inl (0, .inl ((List.replicate 64 0).set 0 (0))))), (42, .inr (.inl (0, .inl ((List.replicate 64 0).set 0 (0)))))]) (pc' := 16) (by decide +kernel) rfl (ab_ov_get (lt0 40 (by decide)) rfl) (ab_klt (n := 13) (by rw [List.length_set, List.length_set, List.length_set, List.length_set, List.length_set, List.length_set, p1_n40]) (by decide)) rfl rfl (ab_ov_set rfl) rfl ?_
  refine ab_fin.s2 (i := .aload_n 0) (k := 1) (pc' := 17) (lv' := [(0, .ref 40), (1, .int 0)]) (st' := [.ref 40]) (by decide +kernel) rfl rfl ?_
  refine ab_fin.s1i (i := .iconst 1) (k := 1) (pc' := 18) (n := 1) (by decide +kernel) rfl (by decide +kernel) rfl ?_
  refine ab_fin.call (i := .invokevirtual 268) (k := 3) (y := 1816) (As := [.ref 40, .int 1]) (rest := []) (M' := (mX7_readE, [])) (by decide +kernel) (ab_cv rfl rfl (ab_ov_get (lt0 40 (by decide)) rfl) ⟨(Nat.le_of_ble_eq_true rfl), (Nat.le_of_ble_eq_true rfl)⟩ rfl) rfl (Nat.le_of_ble_eq_true rfl) ?_
  show ab_fin _ _ _ _ 0 [(0, .ref 40), (1, .int 1)] [] _ _
  refine ab_fin.s2 (i := .iload_n 1) (k := 1) (pc' := 1) (lv' := [(0, .ref 40), (1, .int 1)]) (st' := [.int 1]) (by decide +kernel) rfl rfl ?_
  refine ab_fin.s1i (i := .bipush 12) (k := 2) (pc' := 3) (n := 12) (by decide +kernel) rfl (by decide +kernel) rfl ?_
  refine ab_fin.brT (c := (1 : Int32) ≤ (12 : Int32)) (i := .if_icmp .le 9) (off := 9) (t := 12) (r := []) (by decide +kernel) rfl (by decide +kernel) (by decide +kernel) ?_
  refine ab_fin.s2 (i := .aload_n 0) (k := 1) (pc' := 13) (lv' := [(0, .ref 40), (1, .int 1)]) (st' := [.ref 40]) (by decide +kernel) rfl rfl ?_
  refine ab_fin.call (i := .invokevirtual 41) (k := 3) (y := 1798) (As := [.ref 40]) (rest := []) (M' := (mX7_sign, [])) (by decide +kernel) (ab_cv rfl rfl (ab_ov_get (lt0 40 (by decide)) rfl) ⟨(Nat.le_of_ble_eq_true rfl), (Nat.le_of_ble_eq_true rfl)⟩ rfl) rfl (Nat.le_of_ble_eq_true rfl) ?_
  show ab_fin _ _ _ _ 0 [(0, .ref 40)] [] _ _
  refine ab_fin.s2 (i := .aload_n 0) (k := 1) (pc' := 1) (lv' := [(0, .ref 40)]) (st' := [.ref 40]) (by decide +kernel) rfl rfl ?_
  refine ab_fin.getf (ix := 12) (k := 1) (v := .ref 41) (pc' := 4) (by decide +kernel) rfl (ab_ov_get (lt0 40 (by decide)) rfl) rfl rfl ?_
  refine ab_fin.getf (ix := 109) (k := 0) (v := .ref 42) (pc' := 7) (by decide +kernel) rfl (ab_ov_get (lt0 41 (by decide)) rfl) rfl rfl ?_
  refine ab_fin.s2 (i := .aload_n 0) (k := 1) (pc' := 8) (lv' := [(0, .ref 40)]) (st' := [.ref 40, .ref 42]) (by decide +kernel) rfl rfl ?_
  refine ab_fin.getf (ix := 97) (k := 3) (v := .int 0) (pc' := 11) (by decide +kernel) rfl (ab_ov_get (lt0 40 (by decide)) rfl) rfl rfl ?_
  refine ab_fin.iald (v := 0) (pc' := 12) (by decide +kernel) (ab_ov_get (lt0 42 (by decide)) rfl) (ab_bd (n := 64) (by rw [List.length_set, List.length_replicate]) (by decide +kernel)) rfl rfl ?_
  refine ab_fin.ret (i := .ireturn) (k := 1) (some (.int 0)) (by decide +kernel) rfl ?_
  refine ab_bk.back (pc' := 16) (st' := [.int 0]) rfl rfl ?_
  refine ab_fin.s3 (i := .tableswitch 205 29 51 #[116, 205, 205, 205, 205, 205, 205, 205, 205, 205, 205, 205, 205, 108, 205, 205, 124, 124, 205, 132, 205, 140, 140]) (k := 108) (t := 221) (st' := []) (by decide +kernel) (ab_swD (by decide +kernel) (by decide +kernel)) ?_
  refine ab_fin.s2 (i := .aload_n 0) (k := 1) (pc' := 222) (lv' := [(0, .ref 40), (1, .int 1)]) (st' := [.ref 40]) (by decide +kernel) rfl rfl ?_
  refine ab_fin.s2 (i := .iload_n 1) (k := 1) (pc' := 223) (lv' := [(0, .ref 40), (1, .int 1)]) (st' := [.int 1, .ref 40]) (by decide +kernel) rfl rfl ?_
  refine ab_fin.call (i := .invokevirtual 292) (k := 3) (y := 1822) (As := [.ref 40, .int 1]) (rest := []) (M' := (mX7_readCompared, [])) (by decide +kernel) (ab_cv rfl rfl (ab_ov_get (lt0 40 (by decide)) rfl) ⟨(Nat.le_of_ble_eq_true rfl), (Nat.le_of_ble_eq_true rfl)⟩ rfl) rfl (Nat.le_of_ble_eq_true rfl) ?_
  show ab_fin _ _ _ _ 0 [(0, .ref 40), (1, .int 1)] [] _ _
  refine ab_fin.s2 (i := .aload_n 0) (k := 1) (pc' := 1) (lv' := [(0, .ref 40), (1, .int 1)]) (st' := [.ref 40]) (by decide +kernel) rfl rfl ?_
  refine ab_fin.getf (ix := 18) (k := 0) (v := .ref 1) (pc' := 4) (by decide +kernel) rfl (ab_ov_get (lt0 40 (by decide)) rfl) rfl rfl ?_
  refine ab_fin.getf (ix := 74) (k := 2) (v := .ref 24) (pc' := 7) (by decide +kernel) rfl (ab_ov_no f_1 rfl) rfl rfl ?_
  refine ab_fin.getf (ix := 78) (k := 3) (v := .int 0) (pc' := 10) (by decide +kernel) rfl (ab_ov_get (lt0 24 (by decide)) rfl) rfl rfl ?_
  refine ab_fin.s2 (i := .istore_n 2) (k := 1) (pc' := 11) (lv' := [(2, .int 0), (0, .ref 40), (1, .int 1)]) (st' := []) (by decide +kernel) rfl rfl ?_
  refine ab_fin.s2 (i := .aload_n 0) (k := 1) (pc' := 12) (lv' := [(2, .int 0), (0, .ref 40), (1, .int 1)]) (st' := [.ref 40]) (by decide +kernel) rfl rfl ?_
  refine ab_fin.s2 (i := .iload_n 1) (k := 1) (pc' := 13) (lv' := [(2, .int 0), (0, .ref 40), (1, .int 1)]) (st' := [.int 1, .ref 40]) (by decide +kernel) rfl rfl ?_
  refine ab_fin.call (i := .invokevirtual 301) (k := 3) (y := 1823) (As := [.ref 40, .int 1]) (rest := []) (M' := (mX7_readSum, [])) (by decide +kernel) (ab_cv rfl rfl (ab_ov_get (lt0 40 (by decide)) rfl) ⟨(Nat.le_of_ble_eq_true rfl), (Nat.le_of_ble_eq_true rfl)⟩ rfl) rfl (Nat.le_of_ble_eq_true rfl) ?_
  show ab_fin _ _ _ _ 0 [(0, .ref 40), (1, .int 1)] [] _ _
  refine ab_fin.s2 (i := .aload_n 0) (k := 1) (pc' := 1) (lv' := [(0, .ref 40), (1, .int 1)]) (st' := [.ref 40]) (by decide +kernel) rfl rfl ?_
  refine ab_fin.getf (ix := 18) (k := 0) (v := .ref 1) (pc' := 4) (by decide +kernel) rfl (ab_ov_get (lt0 40 (by decide)) rfl) rfl rfl ?_
  refine ab_fin.getf (ix := 74) (k := 2) (v := .ref 24) (pc' := 7) (by decide +kernel) rfl (ab_ov_no f_1 rfl) rfl rfl ?_
  refine ab_fin.getf (ix := 78) (k := 3) (v := .int 0) (pc' := 10) (by decide +kernel) rfl (ab_ov_get (lt0 24 (by decide)) rfl) rfl rfl ?_
  refine ab_fin.s2 (i := .istore_n 2) (k := 1) (pc' := 11) (lv' := [(2, .int 0), (0, .ref 40), (1, .int 1)]) (st' := []) (by decide +kernel) rfl rfl ?_
  refine ab_fin.s1i (i := .iconst (-1)) (k := 1) (pc' := 12) (n := (-1)) (by decide +kernel) rfl (by decide +kernel) rfl ?_
  refine ab_fin.s2 (i := .istore_n 3) (k := 1) (pc' := 13) (lv' := [(3, .int (-1)), (2, .int 0), (0, .ref 40), (1, .int 1)]) (st' := []) (by decide +kernel) rfl rfl ?_
  refine ab_fin.s1i (i := .iconst 1) (k := 1) (pc' := 14) (n := 1) (by decide +kernel) rfl (by decide +kernel) rfl ?_
  refine ab_fin.s2 (i := .istore 4) (k := 2) (pc' := 16) (lv' := [(4, .int 1), (3, .int (-1)), (2, .int 0), (0, .ref 40), (1, .int 1)]) (st' := []) (by decide +kernel) rfl rfl ?_
  refine ab_fin.s1i (i := .iconst 0) (k := 1) (pc' := 17) (n := 0) (by decide +kernel) rfl (by decide +kernel) rfl ?_
  refine ab_fin.s2 (i := .istore 5) (k := 2) (pc' := 19) (lv' := [(5, .int 0), (4, .int 1), (3, .int (-1)), (2, .int 0), (0, .ref 40), (1, .int 1)]) (st' := []) (by decide +kernel) rfl rfl ?_
  refine ab_fin.s2 (i := .iload 5) (k := 2) (pc' := 21) (lv' := [(5, .int 0), (4, .int 1), (3, .int (-1)), (2, .int 0), (0, .ref 40), (1, .int 1)]) (st' := [.int 0]) (by decide +kernel) rfl rfl ?_
  refine ab_fin.s2 (i := .aload_n 0) (k := 1) (pc' := 22) (lv' := [(5, .int 0), (4, .int 1), (3, .int (-1)), (2, .int 0), (0, .ref 40), (1, .int 1)]) (st' := [.ref 40, .int 0]) (by decide +kernel) rfl rfl ?_
  refine ab_fin.getf (ix := 12) (k := 1) (v := .ref 41) (pc' := 25) (by decide +kernel) rfl (ab_ov_get (lt0 40 (by decide)) rfl) rfl rfl ?_
  refine ab_fin.getf (ix := 34) (k := 4) (v := .int 1) (pc' := 28) (by decide +kernel) rfl (ab_ov_get (lt0 41 (by decide)) rfl) rfl rfl ?_
  refine ab_fin.brF (c := (1 : Int32) ≤ (0 : Int32)) (i := .if_icmp .ge 90) (off := 90) (t := 118) (pc' := 31) (r := []) (by decide +kernel) rfl (by decide +kernel) rfl (by decide +kernel) ?_
  refine ab_fin.s2 (i := .iload 4) (k := 2) (pc' := 33) (lv' := [(5, .int 0), (4, .int 1), (3, .int (-1)), (2, .int 0), (0, .ref 40), (1, .int 1)]) (st' := [.int 1]) (by decide +kernel) rfl rfl ?_
  refine ab_fin.brF (c := (1 : Int32) = 0) (i := .ifCond .eq 85) (off := 85) (t := 118) (pc' := 36) (r := []) (by decide +kernel) rfl (by decide +kernel) rfl (by decide +kernel) ?_
  refine ab_fin.s2 (i := .aload_n 0) (k := 1) (pc' := 37) (lv' := [(5, .int 0), (4, .int 1), (3, .int (-1)), (2, .int 0), (0, .ref 40), (1, .int 1)]) (st' := [.ref 40]) (by decide +kernel) rfl rfl ?_
  refine ab_fin.s2 (i := .iload_n 1) (k := 1) (pc' := 38) (lv' := [(5, .int 0), (4, .int 1), (3, .int (-1)), (2, .int 0), (0, .ref 40), (1, .int 1)]) (st' := [.int 1, .ref 40]) (by decide +kernel) rfl rfl ?_
  refine ab_fin.call (i := .invokevirtual 304) (k := 3) (y := 1824) (As := [.ref 40, .int 1]) (rest := []) (M' := (mX7_readProduct, [])) (by decide +kernel) (ab_cv rfl rfl (ab_ov_get (lt0 40 (by decide)) rfl) ⟨(Nat.le_of_ble_eq_true rfl), (Nat.le_of_ble_eq_true rfl)⟩ rfl) rfl (Nat.le_of_ble_eq_true rfl) ?_
  show ab_fin _ _ _ _ 0 [(0, .ref 40), (1, .int 1)] [] _ _
  refine ab_fin.s2 (i := .aload_n 0) (k := 1) (pc' := 1) (lv' := [(0, .ref 40), (1, .int 1)]) (st' := [.ref 40]) (by decide +kernel) rfl rfl ?_
  refine ab_fin.getf (ix := 18) (k := 0) (v := .ref 1) (pc' := 4) (by decide +kernel) rfl (ab_ov_get (lt0 40 (by decide)) rfl) rfl rfl ?_
  refine ab_fin.getf (ix := 74) (k := 2) (v := .ref 24) (pc' := 7) (by decide +kernel) rfl (ab_ov_no f_1 rfl) rfl rfl ?_
  refine ab_fin.getf (ix := 78) (k := 3) (v := .int 0) (pc' := 10) (by decide +kernel) rfl (ab_ov_get (lt0 24 (by decide)) rfl) rfl rfl ?_
  refine ab_fin.s2 (i := .istore_n 2) (k := 1) (pc' := 11) (lv' := [(2, .int 0), (0, .ref 40), (1, .int 1)]) (st' := []) (by decide +kernel) rfl rfl ?_
  refine ab_fin.s1i (i := .iconst (-1)) (k := 1) (pc' := 12) (n := (-1)) (by decide +kernel) rfl (by decide +kernel) rfl ?_
  refine ab_fin.s2 (i := .istore_n 3) (k := 1) (pc' := 13) (lv' := [(3, .int (-1)), (2, .int 0), (0, .ref 40), (1, .int 1)]) (st' := []) (by decide +kernel) rfl rfl ?_
  refine ab_fin.s1i (i := .iconst 1) (k := 1) (pc' := 14) (n := 1) (by decide +kernel) rfl (by decide +kernel) rfl ?_
  refine ab_fin.s2 (i := .istore 4) (k := 2) (pc' := 16) (lv' := [(4, .int 1), (3, .int (-1)), (2, .int 0), (0, .ref 40), (1, .int 1)]) (st' := []) (by decide +kernel) rfl rfl ?_
  refine ab_fin.s1i (i := .iconst 0) (k := 1) (pc' := 17) (n := 0) (by decide +kernel) rfl (by decide +kernel) rfl ?_
  refine ab_fin.s2 (i := .istore 5) (k := 2) (pc' := 19) (lv' := [(5, .int 0), (4, .int 1), (3, .int (-1)), (2, .int 0), (0, .ref 40), (1, .int 1)]) (st' := []) (by decide +kernel) rfl rfl ?_
  refine ab_fin.s2 (i := .iload 5) (k := 2) (pc' := 21) (lv' := [(5, .int 0), (4, .int 1), (3, .int (-1)), (2, .int 0), (0, .ref 40), (1, .int 1)]) (st' := [.int 0]) (by decide +kernel) rfl rfl ?_
  refine ab_fin.s2 (i := .aload_n 0) (k := 1) (pc' := 22) (lv' := [(5, .int 0), (4, .int 1), (3, .int (-1)), (2, .int 0), (0, .ref 40), (1, .int 1)]) (st' := [.ref 40, .int 0]) (by decide +kernel) rfl rfl ?_
  refine ab_fin.getf (ix := 12) (k := 1) (v := .ref 41) (pc' := 25) (by decide +kernel) rfl (ab_ov_get (lt0 40 (by decide)) rfl) rfl rfl ?_
  refine ab_fin.getf (ix := 34) (k := 4) (v := .int 1) (pc' := 28) (by decide +kernel) rfl (ab_ov_get (lt0 41 (by decide)) rfl) rfl rfl ?_
  refine ab_fin.brF (c := (1 : Int32) ≤ (0 : Int32)) (i := .if_icmp .ge 93) (off := 93) (t := 121) (pc' := 31) (r := []) (by decide +kernel) rfl (by decide +kernel) rfl (by decide +kernel) ?_
  refine ab_fin.s2 (i := .iload 4) (k := 2) (pc' := 33) (lv' := [(5, .int 0), (4, .int 1), (3, .int (-1)), (2, .int 0), (0, .ref 40), (1, .int 1)]) (st' := [.int 1]) (by decide +kernel) rfl rfl ?_
  refine ab_fin.brF (c := (1 : Int32) = 0) (i := .ifCond .eq 88) (off := 88) (t := 121) (pc' := 36) (r := []) (by decide +kernel) rfl (by decide +kernel) rfl (by decide +kernel) ?_
  refine ab_fin.s2 (i := .aload_n 0) (k := 1) (pc' := 37) (lv' := [(5, .int 0), (4, .int 1), (3, .int (-1)), (2, .int 0), (0, .ref 40), (1, .int 1)]) (st' := [.ref 40]) (by decide +kernel) rfl rfl ?_
  refine ab_fin.s2 (i := .iload_n 1) (k := 1) (pc' := 38) (lv' := [(5, .int 0), (4, .int 1), (3, .int (-1)), (2, .int 0), (0, .ref 40), (1, .int 1)]) (st' := [.int 1, .ref 40]) (by decide +kernel) rfl rfl ?_
  refine ab_fin.s1i (i := .iconst 1) (k := 1) (pc' := 39) (n := 1) (by decide +kernel) rfl (by decide +kernel) rfl ?_
  refine ab_fin.s1i (i := .iadd) (k := 1) (pc' := 40) (n := 2) (by decide +kernel) rfl (by decide +kernel) rfl ?_
  refine ab_fin.call (i := .invokevirtual 307) (k := 3) (y := 1825) (As := [.ref 40, .int 2]) (rest := []) (M' := (mX7_readP, [])) (by decide +kernel) (ab_cv rfl rfl (ab_ov_get (lt0 40 (by decide)) rfl) ⟨(Nat.le_of_ble_eq_true rfl), (Nat.le_of_ble_eq_true rfl)⟩ rfl) rfl (Nat.le_of_ble_eq_true rfl) ?_
  show ab_fin _ _ _ _ 0 [(0, .ref 40), (1, .int 2)] [] _ _
  refine ab_fin.s2 (i := .iload_n 1) (k := 1) (pc' := 1) (lv' := [(0, .ref 40), (1, .int 2)]) (st' := [.int 2]) (by decide +kernel) rfl rfl ?_
  refine ab_fin.s1i (i := .bipush 12) (k := 2) (pc' := 3) (n := 12) (by decide +kernel) rfl (by decide +kernel) rfl ?_
  refine ab_fin.brT (c := (2 : Int32) ≤ (12 : Int32)) (i := .if_icmp .le 9) (off := 9) (t := 12) (r := []) (by decide +kernel) rfl (by decide +kernel) (by decide +kernel) ?_
  refine ab_fin.s2 (i := .aload_n 0) (k := 1) (pc' := 13) (lv' := [(0, .ref 40), (1, .int 2)]) (st' := [.ref 40]) (by decide +kernel) rfl rfl ?_
  refine ab_fin.call (i := .invokevirtual 41) (k := 3) (y := 1798) (As := [.ref 40]) (rest := []) (M' := (mX7_sign, [])) (by decide +kernel) (ab_cv rfl rfl (ab_ov_get (lt0 40 (by decide)) rfl) ⟨(Nat.le_of_ble_eq_true rfl), (Nat.le_of_ble_eq_true rfl)⟩ rfl) rfl (Nat.le_of_ble_eq_true rfl) ?_
  show ab_fin _ _ _ _ 0 [(0, .ref 40)] [] _ _
  refine ab_fin.s2 (i := .aload_n 0) (k := 1) (pc' := 1) (lv' := [(0, .ref 40)]) (st' := [.ref 40]) (by decide +kernel) rfl rfl ?_
  refine ab_fin.getf (ix := 12) (k := 1) (v := .ref 41) (pc' := 4) (by decide +kernel) rfl (ab_ov_get (lt0 40 (by decide)) rfl) rfl rfl ?_
  refine ab_fin.getf (ix := 109) (k := 0) (v := .ref 42) (pc' := 7) (by decide +kernel) rfl (ab_ov_get (lt0 41 (by decide)) rfl) rfl rfl ?_
  refine ab_fin.s2 (i := .aload_n 0) (k := 1) (pc' := 8) (lv' := [(0, .ref 40)]) (st' := [.ref 40, .ref 42]) (by decide +kernel) rfl rfl ?_
  refine ab_fin.getf (ix := 97) (k := 3) (v := .int 0) (pc' := 11) (by decide +kernel) rfl (ab_ov_get (lt0 40 (by decide)) rfl) rfl rfl ?_
  refine ab_fin.iald (v := 0) (pc' := 12) (by decide +kernel) (ab_ov_get (lt0 42 (by decide)) rfl) (ab_bd (n := 64) (by rw [List.length_set, List.length_replicate]) (by decide +kernel)) rfl rfl ?_
  refine ab_fin.ret (i := .ireturn) (k := 1) (some (.int 0)) (by decide +kernel) rfl ?_
  refine ab_bk.back (pc' := 16) (st' := [.int 0]) rfl rfl ?_
  refine ab_fin.s3 (i := .lookupswitch 178 #[(2, 96), (3, 60), (4, 158), (10, 60), (13, 112), (52, 104)]) (k := 60) (t := 194) (st' := []) (by decide +kernel) (ab_lsw (by decide +kernel) (by decide +kernel)) ?_
  refine ab_fin.s2 (i := .aload_n 0) (k := 1) (pc' := 195) (lv' := [(0, .ref 40), (1, .int 2)]) (st' := [.ref 40]) (by decide +kernel) rfl rfl ?_
  refine ab_fin.s1i (i := .iconst (-1)) (k := 1) (pc' := 196) (n := (-1)) (by decide +kernel) rfl (by decide +kernel) rfl ?_
  refine ab_fin.call (i := .invokevirtual 57) (k := 3) (y := 1799) (As := [.ref 40, .int (-1)]) (rest := []) (M' := (mX7_take, [])) (by decide +kernel) (ab_cv rfl rfl (ab_ov_get (lt0 40 (by decide)) rfl) ⟨(Nat.le_of_ble_eq_true rfl), (Nat.le_of_ble_eq_true rfl)⟩ rfl) rfl (Nat.le_of_ble_eq_true rfl) ?_
  show ab_fin _ _ _ _ 0 [(0, .ref 40), (1, .int (-1))] [] _ _
  refine ab_fin.s2 (i := .aload_n 0) (k := 1) (pc' := 1) (lv' := [(0, .ref 40), (1, .int (-1))]) (st' := [.ref 40]) (by decide +kernel) rfl rfl ?_
  refine ab_fin.getf (ix := 12) (k := 1) (v := .ref 41) (pc' := 4) (by decide +kernel) rfl (ab_ov_get (lt0 40 (by decide)) rfl) rfl rfl ?_
  refine ab_fin.getf (ix := 109) (k := 0) (v := .ref 42) (pc' := 7) (by decide +kernel) rfl (ab_ov_get (lt0 41 (by decide)) rfl) rfl rfl ?_
  refine ab_fin.s2 (i := .aload_n 0) (k := 1) (pc' := 8) (lv' := [(0, .ref 40), (1, .int (-1))]) (st' := [.ref 40, .ref 42]) (by decide +kernel) rfl rfl ?_
  refine ab_fin.getf (ix := 97) (k := 3) (v := .int 0) (pc' := 11) (by decide +kernel) rfl (ab_ov_get (lt0 40 (by decide)) rfl) rfl rfl ?_
  refine ab_fin.iald (v := 0) (pc' := 12) (by decide +kernel) (ab_ov_get (lt0 42 (by decide)) rfl) (ab_bd (n := 64) (by rw [List.length_set, List.length_replicate]) (by decide +kernel)) rfl rfl ?_
  refine ab_fin.s2 (i := .iload_n 1) (k := 1) (pc' := 13) (lv' := [(0, .ref 40), (1, .int (-1))]) (st' := [.int (-1), .int 0]) (by decide +kernel) rfl rfl ?_
  refine ab_fin.brT (c := ¬ (0 : Int32) = (-1 : Int32)) (i := .if_icmp .ne 16) (off := 16) (t := 29) (r := []) (by decide +kernel) rfl (by decide +kernel) (by decide +kernel) ?_
  refine ab_fin.s2 (i := .aload_n 0) (k := 1) (pc' := 30) (lv' := [(0, .ref 40), (1, .int (-1))]) (st' := [.ref 40]) (by decide +kernel) rfl rfl ?_
  refine ab_fin.getf (ix := 38) (k := 4) (v := .int (-1)) (pc' := 33) (by decide +kernel) rfl (ab_ov_get (lt0 40 (by decide)) rfl) rfl rfl ?_
  refine ab_fin.brF (c := 0 ≤ (-1 : Int32)) (i := .ifCond .ge 19) (off := 19) (t := 52) (pc' := 36) (r := []) (by decide +kernel) rfl (by decide +kernel) rfl (by decide +kernel) ?_
  refine ab_fin.s2 (i := .aload_n 0) (k := 1) (pc' := 37) (lv' := [(0, .ref 40), (1, .int (-1))]) (st' := [.ref 40]) (by decide +kernel) rfl rfl ?_
  refine ab_fin.s2 (i := .aload_n 0) (k := 1) (pc' := 38) (lv' := [(0, .ref 40), (1, .int (-1))]) (st' := [.ref 40, .ref 40]) (by decide +kernel) rfl rfl ?_
  refine ab_fin.getf (ix := 12) (k := 1) (v := .ref 41) (pc' := 41) (by decide +kernel) rfl (ab_ov_get (lt0 40 (by decide)) rfl) rfl rfl ?_
  refine ab_fin.getf (ix := 112) (k := 1) (v := .ref 43) (pc' := 44) (by decide +kernel) rfl (ab_ov_get (lt0 41 (by decide)) rfl) rfl rfl ?_
  refine ab_fin.s2 (i := .aload_n 0) (k := 1) (pc' := 45) (lv' := [(0, .ref 40), (1, .int (-1))]) (st' := [.ref 40, .ref 43, .ref 40]) (by decide +kernel) rfl rfl ?_
  refine ab_fin.getf (ix := 97) (k := 3) (v := .int 0) (pc' := 48) (by decide +kernel) rfl (ab_ov_get (lt0 40 (by decide)) rfl) rfl rfl ?_
  refine ab_fin.iald (v := 0) (pc' := 49) (by decide +kernel) (ab_ov_get (lt0 43 (by decide)) rfl) (ab_bd (n := 64) (by rw [List.length_set, List.length_replicate]) (by decide +kernel)) rfl rfl ?_
  refine ab_fin.putf (ix := 38) (h1 := ab_ov h [(40, .inr (.inr (8, (((((((p1_o40).set 3 (.int 0)).set 5 (.int (-1))).set 6 (.int 0)).set 7 (.int 0)).set 8 (.int (-1))).set 9 (.int 0)).set 4 (.int 0)))), (27, .inr (.inl (0, .inl ((List.replicate 1804 0).set 0 (0))))), (24, .inr (.inr (2, ((p1_o24).set 3 (.int 0)).set 4 (.int 901)))), (28, .inr (.inl (0, .inl ((p1_a28).set 3 (0))))), (41, .inr (.inr (9, (p1_o41).set 4 (.int 1)))), (45, .inr (.inl (1, .inr (.inl ((List.replicate 64 0).set 0 (0)))))), (44, .inr (.inl (1, .inr (.inl ((List.replicate 64 0).set 0 (0)))))), (43, .inr (.inl (0, .inl ((List.replicate 64 0).set 0 (0))))), (42, .inr (.inl (0, .inl ((List.replicate 64 0).set 0 (0)))))]) (pc' := 52) (by decide +kernel) rfl (ab_ov_get (lt0 40 (by decide)) rfl) (ab_klt (n := 13) (by rw [List.length_set, List.length_set, List.length_set, List.length_set, List.length_set, List.length_set, List.length_set, p1_n40]) (by decide)) rfl rfl (ab_ov_set rfl) rfl ?_
  refine ab_fin.s2 (i := .aload_n 0) (k := 1) (pc' := 53) (lv' := [(0, .ref 40), (1, .int (-1))]) (st' := [.ref 40]) (by decide +kernel) rfl rfl ?_
  refine ab_fin.s2 (i := .aload_n 0) (k := 1) (pc' := 54) (lv' := [(0, .ref 40), (1, .int (-1))]) (st' := [.ref 40, .ref 40]) (by decide +kernel) rfl rfl ?_
  refine ab_fin.getf (ix := 12) (k := 1) (v := .ref 41) (pc' := 57) (by decide +kernel) rfl (ab_ov_get (lt0 40 (by decide)) rfl) rfl rfl ?_
  refine ab_fin.getf (ix := 34) (k := 4) (v := .int 1) (pc' := 60) (by decide +kernel) rfl (ab_ov_get (lt0 41 (by decide)) rfl) rfl rfl ?_
  refine ab_fin.s1i (i := .iconst 1) (k := 1) (pc' := 61) (n := 1) (by decide +kernel) rfl (by decide +kernel) rfl ?_
  refine ab_fin.s1i (i := .isub) (k := 1) (pc' := 62) (n := 0) (by decide +kernel) rfl (by decide +kernel) rfl ?_
  refine ab_fin.putf (ix := 97) (h1 := ab_ov h [(40, .inr (.inr (8, (((((((p1_o40).set 5 (.int (-1))).set 6 (.int 0)).set 7 (.int 0)).set 8 (.int (-1))).set 9 (.int 0)).set 4 (.int 0)).set 3 (.int 0)))), (27, .inr (.inl (0, .inl ((List.replicate 1804 0).set 0 (0))))), (24, .inr (.inr (2, ((p1_o24).set 3 (.int 0)).set 4 (.int 901)))), (28, .inr (.inl (0, .inl ((p1_a28).set 3 (0))))), (41, .inr (.inr (9, (p1_o41).set 4 (.int 1)))), (45, .inr (.inl (1, .inr (.inl ((List.replicate 64 0).set 0 (0)))))), (44, .inr (.inl (1, .inr (.inl ((List.replicate 64 0).set 0 (0)))))), (43, .inr (.inl (0, .inl ((List.replicate 64 0).set 0 (0))))), (42, .inr (.inl (0, .inl ((List.replicate 64 0).set 0 (0)))))]) (pc' := 65) (by decide +kernel) rfl (ab_ov_get (lt0 40 (by decide)) rfl) (ab_klt (n := 13) (by rw [List.length_set, List.length_set, List.length_set, List.length_set, List.length_set, List.length_set, List.length_set, p1_n40]) (by decide)) rfl rfl (ab_ov_set rfl) rfl ?_
  refine ab_fin.ret (i := .return_) (k := 1) none (by decide +kernel) rfl ?_
  refine ab_bk.back (pc' := 199) (st' := []) rfl rfl ?_
  refine ab_fin.ret (i := .return_) (k := 1) none (by decide +kernel) rfl ?_
  refine ab_bk.back (pc' := 43) (st' := []) rfl rfl ?_
  refine ab_fin.s2 (i := .iload_n 3) (k := 1) (pc' := 44) (lv' := [(5, .int 0), (4, .int 1), (3, .int (-1)), (2, .int 0), (0, .ref 40), (1, .int 1)]) (st' := [.int (-1)]) (by decide +kernel) rfl rfl ?_
  refine ab_fin.s1i (i := .iconst (-1)) (k := 1) (pc' := 45) (n := (-1)) (by decide +kernel) rfl (by decide +kernel) rfl ?_
  refine ab_fin.brT (c := (-1 : Int32) = (-1 : Int32)) (i := .if_icmp .eq 27) (off := 27) (t := 72) (r := []) (by decide +kernel) rfl (by decide +kernel) (by decide +kernel) ?_
  refine ab_fin.s2 (i := .aload_n 0) (k := 1) (pc' := 73) (lv' := [(5, .int 0), (4, .int 1), (3, .int (-1)), (2, .int 0), (0, .ref 40), (1, .int 1)]) (st' := [.ref 40]) (by decide +kernel) rfl rfl ?_
  refine ab_fin.call (i := .invokevirtual 41) (k := 3) (y := 1798) (As := [.ref 40]) (rest := []) (M' := (mX7_sign, [])) (by decide +kernel) (ab_cv rfl rfl (ab_ov_get (lt0 40 (by decide)) rfl) ⟨(Nat.le_of_ble_eq_true rfl), (Nat.le_of_ble_eq_true rfl)⟩ rfl) rfl (Nat.le_of_ble_eq_true rfl) ?_
  show ab_fin _ _ _ _ 0 [(0, .ref 40)] [] _ _
  refine ab_fin.s2 (i := .aload_n 0) (k := 1) (pc' := 1) (lv' := [(0, .ref 40)]) (st' := [.ref 40]) (by decide +kernel) rfl rfl ?_
  refine ab_fin.getf (ix := 12) (k := 1) (v := .ref 41) (pc' := 4) (by decide +kernel) rfl (ab_ov_get (lt0 40 (by decide)) rfl) rfl rfl ?_
  refine ab_fin.getf (ix := 109) (k := 0) (v := .ref 42) (pc' := 7) (by decide +kernel) rfl (ab_ov_get (lt0 41 (by decide)) rfl) rfl rfl ?_
  refine ab_fin.s2 (i := .aload_n 0) (k := 1) (pc' := 8) (lv' := [(0, .ref 40)]) (st' := [.ref 40, .ref 42]) (by decide +kernel) rfl rfl ?_
  refine ab_fin.getf (ix := 97) (k := 3) (v := .int 0) (pc' := 11) (by decide +kernel) rfl (ab_ov_get (lt0 40 (by decide)) rfl) rfl rfl ?_
  refine ab_fin.iald (v := 0) (pc' := 12) (by decide +kernel) (ab_ov_get (lt0 42 (by decide)) rfl) (ab_bd (n := 64) (by rw [List.length_set, List.length_replicate]) (by decide +kernel)) rfl rfl ?_
  refine ab_fin.ret (i := .ireturn) (k := 1) (some (.int 0)) (by decide +kernel) rfl ?_
  refine ab_bk.back (pc' := 76) (st' := [.int 0]) rfl rfl ?_
  refine ab_fin.s2 (i := .istore_n 3) (k := 1) (pc' := 77) (lv' := [(3, .int 0), (5, .int 0), (4, .int 1), (2, .int 0), (0, .ref 40), (1, .int 1)]) (st' := []) (by decide +kernel) rfl rfl ?_
  refine ab_fin.s2 (i := .iload_n 3) (k := 1) (pc' := 78) (lv' := [(3, .int 0), (5, .int 0), (4, .int 1), (2, .int 0), (0, .ref 40), (1, .int 1)]) (st' := [.int 0]) (by decide +kernel) rfl rfl ?_
  refine ab_fin.s1i (i := .bipush 11) (k := 2) (pc' := 80) (n := 11) (by decide +kernel) rfl (by decide +kernel) rfl ?_
  refine ab_fin.brF (c := (0 : Int32) = (11 : Int32)) (i := .if_icmp .eq 9) (off := 9) (t := 89) (pc' := 83) (r := []) (by decide +kernel) rfl (by decide +kernel) rfl (by decide +kernel) ?_
  refine ab_fin.s2 (i := .iload_n 3) (k := 1) (pc' := 84) (lv' := [(3, .int 0), (5, .int 0), (4, .int 1), (2, .int 0), (0, .ref 40), (1, .int 1)]) (st' := [.int 0]) (by decide +kernel) rfl rfl ?_
  refine ab_fin.s1i (i := .bipush 12) (k := 2) (pc' := 86) (n := 12) (by decide +kernel) rfl (by decide +kernel) rfl ?_
  refine ab_fin.brT (c := ¬ (0 : Int32) = (12 : Int32)) (i := .if_icmp .ne 7) (off := 7) (t := 93) (r := []) (by decide +kernel) rfl (by decide +kernel) (by decide +kernel) ?_
  refine ab_fin.s1i (i := .iconst 0) (k := 1) (pc' := 94) (n := 0) (by decide +kernel) rfl (by decide +kernel) rfl ?_
  refine ab_fin.s2 (i := .istore 4) (k := 2) (pc' := 96) (lv' := [(4, .int 0), (3, .int 0), (5, .int 0), (2, .int 0), (0, .ref 40), (1, .int 1)]) (st' := []) (by decide +kernel) rfl rfl ?_
  refine ab_fin.s2 (i := .iload 4) (k := 2) (pc' := 98) (lv' := [(4, .int 0), (3, .int 0), (5, .int 0), (2, .int 0), (0, .ref 40), (1, .int 1)]) (st' := [.int 0]) (by decide +kernel) rfl rfl ?_
  refine ab_fin.brT (c := (0 : Int32) = 0) (i := .ifCond .eq 17) (off := 17) (t := 115) (r := []) (by decide +kernel) rfl (by decide +kernel) (by decide +kernel) ?_
  refine ab_fin.inc (i := .iinc 5 1) (k := 3) (pc' := 118) (j := 5) (n := 1) (lv' := [(4, .int 0), (3, .int 0), (2, .int 0), (0, .ref 40), (1, .int 1)]) (by decide +kernel) rfl (by decide +kernel) rfl ?_
  refine ab_fin.s3 (i := .goto (-99)) (k := 3) (t := 19) (st' := []) (by decide +kernel) (ab_goto (by decide +kernel)) ?_
  refine ab_fin.s2 (i := .iload 5) (k := 2) (pc' := 21) (lv' := [(5, .int 1), (4, .int 0), (3, .int 0), (2, .int 0), (0, .ref 40), (1, .int 1)]) (st' := [.int 1]) (by decide +kernel) rfl rfl ?_
  refine ab_fin.s2 (i := .aload_n 0) (k := 1) (pc' := 22) (lv' := [(5, .int 1), (4, .int 0), (3, .int 0), (2, .int 0), (0, .ref 40), (1, .int 1)]) (st' := [.ref 40, .int 1]) (by decide +kernel) rfl rfl ?_
  refine ab_fin.getf (ix := 12) (k := 1) (v := .ref 41) (pc' := 25) (by decide +kernel) rfl (ab_ov_get (lt0 40 (by decide)) rfl) rfl rfl ?_
  refine ab_fin.getf (ix := 34) (k := 4) (v := .int 1) (pc' := 28) (by decide +kernel) rfl (ab_ov_get (lt0 41 (by decide)) rfl) rfl rfl ?_
  refine ab_fin.brT (c := (1 : Int32) ≤ (1 : Int32)) (i := .if_icmp .ge 93) (off := 93) (t := 121) (r := []) (by decide +kernel) rfl (by decide +kernel) (by decide +kernel) ?_
  refine ab_fin.ret (i := .return_) (k := 1) none (by decide +kernel) rfl ?_
  refine ab_bk.back (pc' := 41) (st' := []) rfl rfl ?_
  refine ab_fin.s2 (i := .iload_n 3) (k := 1) (pc' := 42) (lv' := [(5, .int 0), (4, .int 1), (3, .int (-1)), (2, .int 0), (0, .ref 40), (1, .int 1)]) (st' := [.int (-1)]) (by decide +kernel) rfl rfl ?_
  refine ab_fin.s1i (i := .iconst (-1)) (k := 1) (pc' := 43) (n := (-1)) (by decide +kernel) rfl (by decide +kernel) rfl ?_
  refine ab_fin.brT (c := (-1 : Int32) = (-1 : Int32)) (i := .if_icmp .eq 26) (off := 26) (t := 69) (r := []) (by decide +kernel) rfl (by decide +kernel) (by decide +kernel) ?_
  refine ab_fin.s2 (i := .aload_n 0) (k := 1) (pc' := 70) (lv' := [(5, .int 0), (4, .int 1), (3, .int (-1)), (2, .int 0), (0, .ref 40), (1, .int 1)]) (st' := [.ref 40]) (by decide +kernel) rfl rfl ?_
  refine ab_fin.call (i := .invokevirtual 41) (k := 3) (y := 1798) (As := [.ref 40]) (rest := []) (M' := (mX7_sign, [])) (by decide +kernel) (ab_cv rfl rfl (ab_ov_get (lt0 40 (by decide)) rfl) ⟨(Nat.le_of_ble_eq_true rfl), (Nat.le_of_ble_eq_true rfl)⟩ rfl) rfl (Nat.le_of_ble_eq_true rfl) ?_
  show ab_fin _ _ _ _ 0 [(0, .ref 40)] [] _ _
  refine ab_fin.s2 (i := .aload_n 0) (k := 1) (pc' := 1) (lv' := [(0, .ref 40)]) (st' := [.ref 40]) (by decide +kernel) rfl rfl ?_
  refine ab_fin.getf (ix := 12) (k := 1) (v := .ref 41) (pc' := 4) (by decide +kernel) rfl (ab_ov_get (lt0 40 (by decide)) rfl) rfl rfl ?_
  refine ab_fin.getf (ix := 109) (k := 0) (v := .ref 42) (pc' := 7) (by decide +kernel) rfl (ab_ov_get (lt0 41 (by decide)) rfl) rfl rfl ?_
  refine ab_fin.s2 (i := .aload_n 0) (k := 1) (pc' := 8) (lv' := [(0, .ref 40)]) (st' := [.ref 40, .ref 42]) (by decide +kernel) rfl rfl ?_
  refine ab_fin.getf (ix := 97) (k := 3) (v := .int 0) (pc' := 11) (by decide +kernel) rfl (ab_ov_get (lt0 40 (by decide)) rfl) rfl rfl ?_
  refine ab_fin.iald (v := 0) (pc' := 12) (by decide +kernel) (ab_ov_get (lt0 42 (by decide)) rfl) (ab_bd (n := 64) (by rw [List.length_set, List.length_replicate]) (by decide +kernel)) rfl rfl ?_
  refine ab_fin.ret (i := .ireturn) (k := 1) (some (.int 0)) (by decide +kernel) rfl ?_
  refine ab_bk.back (pc' := 73) (st' := [.int 0]) rfl rfl ?_
  refine ab_fin.s2 (i := .istore_n 3) (k := 1) (pc' := 74) (lv' := [(3, .int 0), (5, .int 0), (4, .int 1), (2, .int 0), (0, .ref 40), (1, .int 1)]) (st' := []) (by decide +kernel) rfl rfl ?_
  refine ab_fin.s2 (i := .iload_n 3) (k := 1) (pc' := 75) (lv' := [(3, .int 0), (5, .int 0), (4, .int 1), (2, .int 0), (0, .ref 40), (1, .int 1)]) (st' := [.int 0]) (by decide +kernel) rfl rfl ?_
  refine ab_fin.s1i (i := .bipush 9) (k := 2) (pc' := 77) (n := 9) (by decide +kernel) rfl (by decide +kernel) rfl ?_
  refine ab_fin.brF (c := (0 : Int32) = (9 : Int32)) (i := .if_icmp .eq 9) (off := 9) (t := 86) (pc' := 80) (r := []) (by decide +kernel) rfl (by decide +kernel) rfl (by decide +kernel) ?_
  refine ab_fin.s2 (i := .iload_n 3) (k := 1) (pc' := 81) (lv' := [(3, .int 0), (5, .int 0), (4, .int 1), (2, .int 0), (0, .ref 40), (1, .int 1)]) (st' := [.int 0]) (by decide +kernel) rfl rfl ?_
  refine ab_fin.s1i (i := .bipush 10) (k := 2) (pc' := 83) (n := 10) (by decide +kernel) rfl (by decide +kernel) rfl ?_
  refine ab_fin.brT (c := ¬ (0 : Int32) = (10 : Int32)) (i := .if_icmp .ne 7) (off := 7) (t := 90) (r := []) (by decide +kernel) rfl (by decide +kernel) (by decide +kernel) ?_
  refine ab_fin.s1i (i := .iconst 0) (k := 1) (pc' := 91) (n := 0) (by decide +kernel) rfl (by decide +kernel) rfl ?_
  refine ab_fin.s2 (i := .istore 4) (k := 2) (pc' := 93) (lv' := [(4, .int 0), (3, .int 0), (5, .int 0), (2, .int 0), (0, .ref 40), (1, .int 1)]) (st' := []) (by decide +kernel) rfl rfl ?_
  refine ab_fin.s2 (i := .iload 4) (k := 2) (pc' := 95) (lv' := [(4, .int 0), (3, .int 0), (5, .int 0), (2, .int 0), (0, .ref 40), (1, .int 1)]) (st' := [.int 0]) (by decide +kernel) rfl rfl ?_
  refine ab_fin.brT (c := (0 : Int32) = 0) (i := .ifCond .eq 17) (off := 17) (t := 112) (r := []) (by decide +kernel) rfl (by decide +kernel) (by decide +kernel) ?_
  refine ab_fin.inc (i := .iinc 5 1) (k := 3) (pc' := 115) (j := 5) (n := 1) (lv' := [(4, .int 0), (3, .int 0), (2, .int 0), (0, .ref 40), (1, .int 1)]) (by decide +kernel) rfl (by decide +kernel) rfl ?_
  refine ab_fin.s3 (i := .goto (-96)) (k := 3) (t := 19) (st' := []) (by decide +kernel) (ab_goto (by decide +kernel)) ?_
  refine ab_fin.s2 (i := .iload 5) (k := 2) (pc' := 21) (lv' := [(5, .int 1), (4, .int 0), (3, .int 0), (2, .int 0), (0, .ref 40), (1, .int 1)]) (st' := [.int 1]) (by decide +kernel) rfl rfl ?_
  refine ab_fin.s2 (i := .aload_n 0) (k := 1) (pc' := 22) (lv' := [(5, .int 1), (4, .int 0), (3, .int 0), (2, .int 0), (0, .ref 40), (1, .int 1)]) (st' := [.ref 40, .int 1]) (by decide +kernel) rfl rfl ?_
  refine ab_fin.getf (ix := 12) (k := 1) (v := .ref 41) (pc' := 25) (by decide +kernel) rfl (ab_ov_get (lt0 40 (by decide)) rfl) rfl rfl ?_
  refine ab_fin.getf (ix := 34) (k := 4) (v := .int 1) (pc' := 28) (by decide +kernel) rfl (ab_ov_get (lt0 41 (by decide)) rfl) rfl rfl ?_
  refine ab_fin.brT (c := (1 : Int32) ≤ (1 : Int32)) (i := .if_icmp .ge 90) (off := 90) (t := 118) (r := []) (by decide +kernel) rfl (by decide +kernel) (by decide +kernel) ?_
  refine ab_fin.ret (i := .return_) (k := 1) none (by decide +kernel) rfl ?_
  refine ab_bk.back (pc' := 16) (st' := []) rfl rfl ?_
  refine ab_fin.s2 (i := .aload_n 0) (k := 1) (pc' := 17) (lv' := [(2, .int 0), (0, .ref 40), (1, .int 1)]) (st' := [.ref 40]) (by decide +kernel) rfl rfl ?_
  refine ab_fin.call (i := .invokevirtual 41) (k := 3) (y := 1798) (As := [.ref 40]) (rest := []) (M' := (mX7_sign, [])) (by decide +kernel) (ab_cv rfl rfl (ab_ov_get (lt0 40 (by decide)) rfl) ⟨(Nat.le_of_ble_eq_true rfl), (Nat.le_of_ble_eq_true rfl)⟩ rfl) rfl (Nat.le_of_ble_eq_true rfl) ?_
  show ab_fin _ _ _ _ 0 [(0, .ref 40)] [] _ _
  refine ab_fin.s2 (i := .aload_n 0) (k := 1) (pc' := 1) (lv' := [(0, .ref 40)]) (st' := [.ref 40]) (by decide +kernel) rfl rfl ?_
  refine ab_fin.getf (ix := 12) (k := 1) (v := .ref 41) (pc' := 4) (by decide +kernel) rfl (ab_ov_get (lt0 40 (by decide)) rfl) rfl rfl ?_
  refine ab_fin.getf (ix := 109) (k := 0) (v := .ref 42) (pc' := 7) (by decide +kernel) rfl (ab_ov_get (lt0 41 (by decide)) rfl) rfl rfl ?_
  refine ab_fin.s2 (i := .aload_n 0) (k := 1) (pc' := 8) (lv' := [(0, .ref 40)]) (st' := [.ref 40, .ref 42]) (by decide +kernel) rfl rfl ?_
  refine ab_fin.getf (ix := 97) (k := 3) (v := .int 0) (pc' := 11) (by decide +kernel) rfl (ab_ov_get (lt0 40 (by decide)) rfl) rfl rfl ?_
  refine ab_fin.iald (v := 0) (pc' := 12) (by decide +kernel) (ab_ov_get (lt0 42 (by decide)) rfl) (ab_bd (n := 64) (by rw [List.length_set, List.length_replicate]) (by decide +kernel)) rfl rfl ?_
  refine ab_fin.ret (i := .ireturn) (k := 1) (some (.int 0)) (by decide +kernel) rfl ?_
  refine ab_bk.back (pc' := 20) (st' := [.int 0]) rfl rfl ?_
  refine ab_fin.s2 (i := .istore_n 3) (k := 1) (pc' := 21) (lv' := [(3, .int 0), (2, .int 0), (0, .ref 40), (1, .int 1)]) (st' := []) (by decide +kernel) rfl rfl ?_
  refine ab_fin.s2 (i := .iload_n 3) (k := 1) (pc' := 22) (lv' := [(3, .int 0), (2, .int 0), (0, .ref 40), (1, .int 1)]) (st' := [.int 0]) (by decide +kernel) rfl rfl ?_
  refine ab_fin.s1i (i := .bipush 33) (k := 2) (pc' := 24) (n := 33) (by decide +kernel) rfl (by decide +kernel) rfl ?_
  refine ab_fin.brT (c := ¬ (0 : Int32) = (33 : Int32)) (i := .if_icmp .ne 37) (off := 37) (t := 61) (r := []) (by decide +kernel) rfl (by decide +kernel) (by decide +kernel) ?_
  refine ab_fin.s2 (i := .iload_n 3) (k := 1) (pc' := 62) (lv' := [(3, .int 0), (2, .int 0), (0, .ref 40), (1, .int 1)]) (st' := [.int 0]) (by decide +kernel) rfl rfl ?_
  refine ab_fin.s1i (i := .bipush 15) (k := 2) (pc' := 64) (n := 15) (by decide +kernel) rfl (by decide +kernel) rfl ?_
  refine ab_fin.brF (c := (0 : Int32) = (15 : Int32)) (i := .if_icmp .eq 15) (off := 15) (t := 79) (pc' := 67) (r := []) (by decide +kernel) rfl (by decide +kernel) rfl (by decide +kernel) ?_
  refine ab_fin.s2 (i := .iload_n 3) (k := 1) (pc' := 68) (lv' := [(3, .int 0), (2, .int 0), (0, .ref 40), (1, .int 1)]) (st' := [.int 0]) (by decide +kernel) rfl rfl ?_
  refine ab_fin.s1i (i := .bipush 17) (k := 2) (pc' := 70) (n := 17) (by decide +kernel) rfl (by decide +kernel) rfl ?_
  refine ab_fin.brF (c := (0 : Int32) = (17 : Int32)) (i := .if_icmp .eq 9) (off := 9) (t := 79) (pc' := 73) (r := []) (by decide +kernel) rfl (by decide +kernel) rfl (by decide +kernel) ?_
  refine ab_fin.s2 (i := .iload_n 3) (k := 1) (pc' := 74) (lv' := [(3, .int 0), (2, .int 0), (0, .ref 40), (1, .int 1)]) (st' := [.int 0]) (by decide +kernel) rfl rfl ?_
  refine ab_fin.s1i (i := .bipush 16) (k := 2) (pc' := 76) (n := 16) (by decide +kernel) rfl (by decide +kernel) rfl ?_
  refine ab_fin.brT (c := ¬ (0 : Int32) = (16 : Int32)) (i := .if_icmp .ne 57) (off := 57) (t := 133) (r := []) (by decide +kernel) rfl (by decide +kernel) (by decide +kernel) ?_
  refine ab_fin.ret (i := .return_) (k := 1) none (by decide +kernel) rfl ?_
  refine ab_bk.back (pc' := 226) (st' := []) rfl rfl ?_
  refine ab_fin.ret (i := .return_) (k := 1) none (by decide +kernel) rfl ?_
  refine ab_bk.back (pc' := 21) (st' := []) rfl rfl ?_
  refine ab_fin.s2 (i := .aload_n 0) (k := 1) (pc' := 22) (lv' := [(0, .ref 40), (1, .int 0)]) (st' := [.ref 40]) (by decide +kernel) rfl rfl ?_
  refine ab_fin.getf (ix := 18) (k := 0) (v := .ref 1) (pc' := 25) (by decide +kernel) rfl (ab_ov_get (lt0 40 (by decide)) rfl) rfl rfl ?_
  refine ab_fin.getf (ix := 74) (k := 2) (v := .ref 24) (pc' := 28) (by decide +kernel) rfl (ab_ov_no f_1 rfl) rfl rfl ?_
  refine ab_fin.s1i (i := .bipush 25) (k := 2) (pc' := 30) (n := 25) (by decide +kernel) rfl (by decide +kernel) rfl ?_
  refine ab_fin.s1i (i := .iconst 0) (k := 1) (pc' := 31) (n := 0) (by decide +kernel) rfl (by decide +kernel) rfl ?_
  refine ab_fin.call (i := .invokevirtual 271) (k := 3) (y := 258) (As := [.ref 24, .int 25, .int 0]) (rest := []) (M' := (mX1_emit, [])) (by decide +kernel) (ab_cv rfl rfl (ab_ov_get (lt0 24 (by decide)) rfl) ⟨(Nat.le_of_ble_eq_true rfl), (Nat.le_of_ble_eq_true rfl)⟩ rfl) rfl (Nat.le_of_ble_eq_true rfl) ?_
  show ab_fin _ _ _ _ 0 [(0, .ref 24), (1, .int 25), (2, .int 0)] [] _ _
  refine ab_fin.s2 (i := .aload_n 0) (k := 1) (pc' := 1) (lv' := [(0, .ref 24), (1, .int 25), (2, .int 0)]) (st' := [.ref 24]) (by decide +kernel) rfl rfl ?_
  refine ab_fin.getf (ix := 21) (k := 3) (v := .int 0) (pc' := 4) (by decide +kernel) rfl (ab_ov_get (lt0 24 (by decide)) rfl) rfl rfl ?_
  refine ab_fin.s2 (i := .aload_n 0) (k := 1) (pc' := 5) (lv' := [(0, .ref 24), (1, .int 25), (2, .int 0)]) (st' := [.ref 24, .int 0]) (by decide +kernel) rfl rfl ?_
  refine ab_fin.getf (ix := 25) (k := 4) (v := .int 901) (pc' := 8) (by decide +kernel) rfl (ab_ov_get (lt0 24 (by decide)) rfl) rfl rfl ?_
  refine ab_fin.brF (c := (901 : Int32) ≤ (0 : Int32)) (i := .if_icmp .ge 43) (off := 43) (t := 51) (pc' := 11) (r := []) (by decide +kernel) rfl (by decide +kernel) rfl (by decide +kernel) ?_
  refine ab_fin.s2 (i := .aload_n 0) (k := 1) (pc' := 12) (lv' := [(0, .ref 24), (1, .int 25), (2, .int 0)]) (st' := [.ref 24]) (by decide +kernel) rfl rfl ?_
  refine ab_fin.getf (ix := 11) (k := 0) (v := .ref 25) (pc' := 15) (by decide +kernel) rfl (ab_ov_get (lt0 24 (by decide)) rfl) rfl rfl ?_
  refine ab_fin.s2 (i := .aload_n 0) (k := 1) (pc' := 16) (lv' := [(0, .ref 24), (1, .int 25), (2, .int 0)]) (st' := [.ref 24, .ref 25]) (by decide +kernel) rfl rfl ?_
  refine ab_fin.getf (ix := 21) (k := 3) (v := .int 0) (pc' := 19) (by decide +kernel) rfl (ab_ov_get (lt0 24 (by decide)) rfl) rfl rfl ?_
  refine ab_fin.s2 (i := .iload_n 1) (k := 1) (pc' := 20) (lv' := [(0, .ref 24), (1, .int 25), (2, .int 0)]) (st' := [.int 25, .int 0, .ref 25]) (by decide +kernel) rfl rfl ?_
  refine ab_fin.iast (h1 := ab_ov h [(25, .inr (.inl (0, .inl ((List.replicate 1804 0).set 0 (25))))), (40, .inr (.inr (8, (((((((p1_o40).set 5 (.int (-1))).set 6 (.int 0)).set 7 (.int 0)).set 8 (.int (-1))).set 9 (.int 0)).set 4 (.int 0)).set 3 (.int 0)))), (27, .inr (.inl (0, .inl ((List.replicate 1804 0).set 0 (0))))), (24, .inr (.inr (2, ((p1_o24).set 3 (.int 0)).set 4 (.int 901)))), (28, .inr (.inl (0, .inl ((p1_a28).set 3 (0))))), (41, .inr (.inr (9, (p1_o41).set 4 (.int 1)))), (45, .inr (.inl (1, .inr (.inl ((List.replicate 64 0).set 0 (0)))))), (44, .inr (.inl (1, .inr (.inl ((List.replicate 64 0).set 0 (0)))))), (43, .inr (.inl (0, .inl ((List.replicate 64 0).set 0 (0))))), (42, .inr (.inl (0, .inl ((List.replicate 64 0).set 0 (0)))))]) (pc' := 21) (by decide +kernel) (ab_ov_no f_25 rfl) (ab_bd (n := 1804) (by rw [List.length_replicate]) (by decide +kernel)) (ab_ov_set rfl) rfl ?_
  refine ab_fin.s2 (i := .aload_n 0) (k := 1) (pc' := 22) (lv' := [(0, .ref 24), (1, .int 25), (2, .int 0)]) (st' := [.ref 24]) (by decide +kernel) rfl rfl ?_
  refine ab_fin.getf (ix := 15) (k := 1) (v := .ref 26) (pc' := 25) (by decide +kernel) rfl (ab_ov_get (lt0 24 (by decide)) rfl) rfl rfl ?_
  refine ab_fin.s2 (i := .aload_n 0) (k := 1) (pc' := 26) (lv' := [(0, .ref 24), (1, .int 25), (2, .int 0)]) (st' := [.ref 24, .ref 26]) (by decide +kernel) rfl rfl ?_
  refine ab_fin.getf (ix := 21) (k := 3) (v := .int 0) (pc' := 29) (by decide +kernel) rfl (ab_ov_get (lt0 24 (by decide)) rfl) rfl rfl ?_
  refine ab_fin.s2 (i := .iload_n 2) (k := 1) (pc' := 30) (lv' := [(0, .ref 24), (1, .int 25), (2, .int 0)]) (st' := [.int 0, .int 0, .ref 26]) (by decide +kernel) rfl rfl ?_
  refine ab_fin.iast (h1 := ab_ov h [(26, .inr (.inl (0, .inl ((List.replicate 1804 0).set 0 (0))))), (25, .inr (.inl (0, .inl ((List.replicate 1804 0).set 0 (25))))), (40, .inr (.inr (8, (((((((p1_o40).set 5 (.int (-1))).set 6 (.int 0)).set 7 (.int 0)).set 8 (.int (-1))).set 9 (.int 0)).set 4 (.int 0)).set 3 (.int 0)))), (27, .inr (.inl (0, .inl ((List.replicate 1804 0).set 0 (0))))), (24, .inr (.inr (2, ((p1_o24).set 3 (.int 0)).set 4 (.int 901)))), (28, .inr (.inl (0, .inl ((p1_a28).set 3 (0))))), (41, .inr (.inr (9, (p1_o41).set 4 (.int 1)))), (45, .inr (.inl (1, .inr (.inl ((List.replicate 64 0).set 0 (0)))))), (44, .inr (.inl (1, .inr (.inl ((List.replicate 64 0).set 0 (0)))))), (43, .inr (.inl (0, .inl ((List.replicate 64 0).set 0 (0))))), (42, .inr (.inl (0, .inl ((List.replicate 64 0).set 0 (0)))))]) (pc' := 31) (by decide +kernel) (ab_ov_no f_26 rfl) (ab_bd (n := 1804) (by rw [List.length_replicate]) (by decide +kernel)) (ab_ov_set rfl) rfl ?_
  refine ab_fin.s2 (i := .aload_n 0) (k := 1) (pc' := 32) (lv' := [(0, .ref 24), (1, .int 25), (2, .int 0)]) (st' := [.ref 24]) (by decide +kernel) rfl rfl ?_
  refine ab_fin.s1 (i := .dup) (k := 1) (pc' := 33) (st' := [.ref 24, .ref 24]) (by decide +kernel) rfl rfl ?_
  refine ab_fin.getf (ix := 21) (k := 3) (v := .int 0) (pc' := 36) (by decide +kernel) rfl (ab_ov_get (lt0 24 (by decide)) rfl) rfl rfl ?_
  refine ab_fin.s1i (i := .iconst 1) (k := 1) (pc' := 37) (n := 1) (by decide +kernel) rfl (by decide +kernel) rfl ?_
  refine ab_fin.s1i (i := .iadd) (k := 1) (pc' := 38) (n := 1) (by decide +kernel) rfl (by decide +kernel) rfl ?_
  refine ab_fin.putf (ix := 21) (h1 := ab_ov h [(24, .inr (.inr (2, ((p1_o24).set 4 (.int 901)).set 3 (.int 1)))), (26, .inr (.inl (0, .inl ((List.replicate 1804 0).set 0 (0))))), (25, .inr (.inl (0, .inl ((List.replicate 1804 0).set 0 (25))))), (40, .inr (.inr (8, (((((((p1_o40).set 5 (.int (-1))).set 6 (.int 0)).set 7 (.int 0)).set 8 (.int (-1))).set 9 (.int 0)).set 4 (.int 0)).set 3 (.int 0)))), (27, .inr (.inl (0, .inl ((List.replicate 1804 0).set 0 (0))))), (28, .inr (.inl (0, .inl ((p1_a28).set 3 (0))))), (41, .inr (.inr (9, (p1_o41).set 4 (.int 1)))), (45, .inr (.inl (1, .inr (.inl ((List.replicate 64 0).set 0 (0)))))), (44, .inr (.inl (1, .inr (.inl ((List.replicate 64 0).set 0 (0)))))), (43, .inr (.inl (0, .inl ((List.replicate 64 0).set 0 (0))))), (42, .inr (.inl (0, .inl ((List.replicate 64 0).set 0 (0)))))]) (pc' := 41) (by decide +kernel) rfl (ab_ov_get (lt0 24 (by decide)) rfl) (ab_klt (n := 5) (by rw [List.length_set, List.length_set, p1_n24]) (by decide)) rfl rfl (ab_ov_set rfl) rfl ?_
  refine ab_fin.s2 (i := .aload_n 0) (k := 1) (pc' := 42) (lv' := [(0, .ref 24), (1, .int 25), (2, .int 0)]) (st' := [.ref 24]) (by decide +kernel) rfl rfl ?_
  refine ab_fin.getf (ix := 18) (k := 2) (v := .ref 27) (pc' := 45) (by decide +kernel) rfl (ab_ov_get (lt0 24 (by decide)) rfl) rfl rfl ?_
  refine ab_fin.s2 (i := .aload_n 0) (k := 1) (pc' := 46) (lv' := [(0, .ref 24), (1, .int 25), (2, .int 0)]) (st' := [.ref 24, .ref 27]) (by decide +kernel) rfl rfl ?_
  refine ab_fin.getf (ix := 21) (k := 3) (v := .int 1) (pc' := 49) (by decide +kernel) rfl (ab_ov_get (lt0 24 (by decide)) rfl) rfl rfl ?_
  refine ab_fin.s1i (i := .iconst 0) (k := 1) (pc' := 50) (n := 0) (by decide +kernel) rfl (by decide +kernel) rfl ?_
  refine ab_fin.iast (h1 := ab_ov h [(27, .inr (.inl (0, .inl (((List.replicate 1804 0).set 0 (0)).set 1 (0))))), (24, .inr (.inr (2, ((p1_o24).set 4 (.int 901)).set 3 (.int 1)))), (26, .inr (.inl (0, .inl ((List.replicate 1804 0).set 0 (0))))), (25, .inr (.inl (0, .inl ((List.replicate 1804 0).set 0 (25))))), (40, .inr (.inr (8, (((((((p1_o40).set 5 (.int (-1))).set 6 (.int 0)).set 7 (.int 0)).set 8 (.int (-1))).set 9 (.int 0)).set 4 (.int 0)).set 3 (.int 0)))), (28, .inr (.inl (0, .inl ((p1_a28).set 3 (0))))), (41, .inr (.inr (9, (p1_o41).set 4 (.int 1)))), (45, .inr (.inl (1, .inr (.inl ((List.replicate 64 0).set 0 (0)))))), (44, .inr (.inl (1, .inr (.inl ((List.replicate 64 0).set 0 (0)))))), (43, .inr (.inl (0, .inl ((List.replicate 64 0).set 0 (0))))), (42, .inr (.inl (0, .inl ((List.replicate 64 0).set 0 (0)))))]) (pc' := 51) (by decide +kernel) (ab_ov_get (lt0 27 (by decide)) rfl) (ab_bd (n := 1804) (by rw [List.length_set, List.length_replicate]) (by decide +kernel)) (ab_ov_set rfl) rfl ?_
  refine ab_fin.ret (i := .return_) (k := 1) none (by decide +kernel) rfl ?_
  refine ab_bk.back (pc' := 34) (st' := []) rfl rfl ?_
  refine ab_fin.ret (i := .return_) (k := 1) none (by decide +kernel) rfl ?_
  refine ab_bk.back (pc' := 49) (st' := []) rfl rfl ?_
  refine ab_fin.s2 (i := .aload_n 0) (k := 1) (pc' := 50) (lv' := [(3, .int 902), (0, .ref 40), (1, .ref 100), (2, .int 0)]) (st' := [.ref 40]) (by decide +kernel) rfl rfl ?_
  refine ab_fin.call (i := .invokevirtual 41) (k := 3) (y := 1798) (As := [.ref 40]) (rest := []) (M' := (mX7_sign, [])) (by decide +kernel) (ab_cv rfl rfl (ab_ov_get (lt0 40 (by decide)) rfl) ⟨(Nat.le_of_ble_eq_true rfl), (Nat.le_of_ble_eq_true rfl)⟩ rfl) rfl (Nat.le_of_ble_eq_true rfl) ?_
  show ab_fin _ _ _ _ 0 [(0, .ref 40)] [] _ _
  refine ab_fin.s2 (i := .aload_n 0) (k := 1) (pc' := 1) (lv' := [(0, .ref 40)]) (st' := [.ref 40]) (by decide +kernel) rfl rfl ?_
  refine ab_fin.getf (ix := 12) (k := 1) (v := .ref 41) (pc' := 4) (by decide +kernel) rfl (ab_ov_get (lt0 40 (by decide)) rfl) rfl rfl ?_
  refine ab_fin.getf (ix := 109) (k := 0) (v := .ref 42) (pc' := 7) (by decide +kernel) rfl (ab_ov_get (lt0 41 (by decide)) rfl) rfl rfl ?_
  refine ab_fin.s2 (i := .aload_n 0) (k := 1) (pc' := 8) (lv' := [(0, .ref 40)]) (st' := [.ref 40, .ref 42]) (by decide +kernel) rfl rfl ?_
  refine ab_fin.getf (ix := 97) (k := 3) (v := .int 0) (pc' := 11) (by decide +kernel) rfl (ab_ov_get (lt0 40 (by decide)) rfl) rfl rfl ?_
  refine ab_fin.iald (v := 0) (pc' := 12) (by decide +kernel) (ab_ov_get (lt0 42 (by decide)) rfl) (ab_bd (n := 64) (by rw [List.length_set, List.length_replicate]) (by decide +kernel)) rfl rfl ?_
  refine ab_fin.ret (i := .ireturn) (k := 1) (some (.int 0)) (by decide +kernel) rfl ?_
  refine ab_bk.back (pc' := 53) (st' := [.int 0]) rfl rfl ?_
  refine ab_fin.brT (c := (0 : Int32) = 0) (i := .ifCond .eq 8) (off := 8) (t := 61) (r := []) (by decide +kernel) rfl (by decide +kernel) (by decide +kernel) ?_
  refine ab_fin.s2 (i := .aload_n 0) (k := 1) (pc' := 62) (lv' := [(3, .int 902), (0, .ref 40), (1, .ref 100), (2, .int 0)]) (st' := [.ref 40]) (by decide +kernel) rfl rfl ?_
  refine ab_fin.getf (ix := 18) (k := 0) (v := .ref 1) (pc' := 65) (by decide +kernel) rfl (ab_ov_get (lt0 40 (by decide)) rfl) rfl rfl ?_
  refine ab_fin.getf (ix := 74) (k := 2) (v := .ref 24) (pc' := 68) (by decide +kernel) rfl (ab_ov_no f_1 rfl) rfl rfl ?_
  refine ab_fin.s2 (i := .iload_n 3) (k := 1) (pc' := 69) (lv' := [(3, .int 902), (0, .ref 40), (1, .ref 100), (2, .int 0)]) (st' := [.int 902, .ref 24]) (by decide +kernel) rfl rfl ?_
  refine ab_fin.putf (ix := 78) (h1 := ab_ov h [(24, .inr (.inr (2, ((p1_o24).set 4 (.int 901)).set 3 (.int 902)))), (27, .inr (.inl (0, .inl (((List.replicate 1804 0).set 0 (0)).set 1 (0))))), (26, .inr (.inl (0, .inl ((List.replicate 1804 0).set 0 (0))))), (25, .inr (.inl (0, .inl ((List.replicate 1804 0).set 0 (25))))), (40, .inr (.inr (8, (((((((p1_o40).set 5 (.int (-1))).set 6 (.int 0)).set 7 (.int 0)).set 8 (.int (-1))).set 9 (.int 0)).set 4 (.int 0)).set 3 (.int 0)))), (28, .inr (.inl (0, .inl ((p1_a28).set 3 (0))))), (41, .inr (.inr (9, (p1_o41).set 4 (.int 1)))), (45, .inr (.inl (1, .inr (.inl ((List.replicate 64 0).set 0 (0)))))), (44, .inr (.inl (1, .inr (.inl ((List.replicate 64 0).set 0 (0)))))), (43, .inr (.inl (0, .inl ((List.replicate 64 0).set 0 (0))))), (42, .inr (.inl (0, .inl ((List.replicate 64 0).set 0 (0)))))]) (pc' := 72) (by decide +kernel) rfl (ab_ov_get (lt0 24 (by decide)) rfl) (ab_klt (n := 5) (by rw [List.length_set, List.length_set, p1_n24]) (by decide)) rfl rfl (ab_ov_set rfl) rfl ?_
  refine ab_fin.s2 (i := .aload_n 0) (k := 1) (pc' := 73) (lv' := [(3, .int 902), (0, .ref 40), (1, .ref 100), (2, .int 0)]) (st' := [.ref 40]) (by decide +kernel) rfl rfl ?_
  refine ab_fin.call (i := .invokevirtual 71) (k := 3) (y := 1797) (As := [.ref 40]) (rest := []) (M' := (mX7_verdict, [])) (by decide +kernel) (ab_cv rfl rfl (ab_ov_get (lt0 40 (by decide)) rfl) ⟨(Nat.le_of_ble_eq_true rfl), (Nat.le_of_ble_eq_true rfl)⟩ rfl) rfl (Nat.le_of_ble_eq_true rfl) ?_
  show ab_fin _ _ _ _ 0 [(0, .ref 40)] [] _ _
  refine ab_fin.s2 (i := .aload_n 0) (k := 1) (pc' := 1) (lv' := [(0, .ref 40)]) (st' := [.ref 40]) (by decide +kernel) rfl rfl ?_
  refine ab_fin.getf (ix := 38) (k := 4) (v := .int 0) (pc' := 4) (by decide +kernel) rfl (ab_ov_get (lt0 40 (by decide)) rfl) rfl rfl ?_
  refine ab_fin.brF (c := (0 : Int32) < 0) (i := .ifCond .lt 13) (off := 13) (t := 17) (pc' := 7) (r := []) (by decide +kernel) rfl (by decide +kernel) rfl (by decide +kernel) ?_
  refine ab_fin.s2 (i := .aload_n 0) (k := 1) (pc' := 8) (lv' := [(0, .ref 40)]) (st' := [.ref 40]) (by decide +kernel) rfl rfl ?_
  refine ab_fin.s1i (i := .iconst 1) (k := 1) (pc' := 9) (n := 1) (by decide +kernel) rfl (by decide +kernel) rfl ?_
  refine ab_fin.putf (ix := 106) (h1 := ab_ov h [(40, .inr (.inr (8, ((((((((p1_o40).set 5 (.int (-1))).set 6 (.int 0)).set 7 (.int 0)).set 8 (.int (-1))).set 9 (.int 0)).set 4 (.int 0)).set 3 (.int 0)).set 2 (.int 1)))), (24, .inr (.inr (2, ((p1_o24).set 4 (.int 901)).set 3 (.int 902)))), (27, .inr (.inl (0, .inl (((List.replicate 1804 0).set 0 (0)).set 1 (0))))), (26, .inr (.inl (0, .inl ((List.replicate 1804 0).set 0 (0))))), (25, .inr (.inl (0, .inl ((List.replicate 1804 0).set 0 (25))))), (28, .inr (.inl (0, .inl ((p1_a28).set 3 (0))))), (41, .inr (.inr (9, (p1_o41).set 4 (.int 1)))), (45, .inr (.inl (1, .inr (.inl ((List.replicate 64 0).set 0 (0)))))), (44, .inr (.inl (1, .inr (.inl ((List.replicate 64 0).set 0 (0)))))), (43, .inr (.inl (0, .inl ((List.replicate 64 0).set 0 (0))))), (42, .inr (.inl (0, .inl ((List.replicate 64 0).set 0 (0)))))]) (pc' := 12) (by decide +kernel) rfl (ab_ov_get (lt0 40 (by decide)) rfl) (ab_klt (n := 13) (by rw [List.length_set, List.length_set, List.length_set, List.length_set, List.length_set, List.length_set, List.length_set, p1_n40]) (by decide)) rfl rfl (ab_ov_set rfl) rfl ?_
  refine ab_fin.s2 (i := .aload_n 0) (k := 1) (pc' := 13) (lv' := [(0, .ref 40)]) (st' := [.ref 40]) (by decide +kernel) rfl rfl ?_
  refine ab_fin.getf (ix := 38) (k := 4) (v := .int 0) (pc' := 16) (by decide +kernel) rfl (ab_ov_get (lt0 40 (by decide)) rfl) rfl rfl ?_
  refine ab_fin.ret (i := .ireturn) (k := 1) (some (.int 0)) (by decide +kernel) rfl ?_
  refine ab_bk.back (pc' := 76) (st' := [.int 0]) rfl rfl ?_
  refine ab_fin.ret (i := .ireturn) (k := 1) (some (.int 0)) (by decide +kernel) rfl ?_
  refine ab_bk.back (pc' := 15) (st' := [.int 0]) rfl rfl ?_
  refine ab_fin.s2 (i := .istore_n 1) (k := 1) (pc' := 16) (lv' := [(1, .int 0), (0, .ref 0)]) (st' := []) (by decide +kernel) rfl rfl ?_
  refine ab_fin.s2 (i := .aload_n 0) (k := 1) (pc' := 17) (lv' := [(1, .int 0), (0, .ref 0)]) (st' := [.ref 0]) (by decide +kernel) rfl rfl ?_
  refine ab_fin.s1i (i := .iconst 0) (k := 1) (pc' := 18) (n := 0) (by decide +kernel) rfl (by decide +kernel) rfl ?_
  refine ab_fin.putf (ix := 77) (h1 := ab_ov h [(0, .inr (.inr (13, (p1_o0).set 9 (.int 0)))), (40, .inr (.inr (8, ((((((((p1_o40).set 5 (.int (-1))).set 6 (.int 0)).set 7 (.int 0)).set 8 (.int (-1))).set 9 (.int 0)).set 4 (.int 0)).set 3 (.int 0)).set 2 (.int 1)))), (24, .inr (.inr (2, ((p1_o24).set 4 (.int 901)).set 3 (.int 902)))), (27, .inr (.inl (0, .inl (((List.replicate 1804 0).set 0 (0)).set 1 (0))))), (26, .inr (.inl (0, .inl ((List.replicate 1804 0).set 0 (0))))), (25, .inr (.inl (0, .inl ((List.replicate 1804 0).set 0 (25))))), (28, .inr (.inl (0, .inl ((p1_a28).set 3 (0))))), (41, .inr (.inr (9, (p1_o41).set 4 (.int 1)))), (45, .inr (.inl (1, .inr (.inl ((List.replicate 64 0).set 0 (0)))))), (44, .inr (.inl (1, .inr (.inl ((List.replicate 64 0).set 0 (0)))))), (43, .inr (.inl (0, .inl ((List.replicate 64 0).set 0 (0))))), (42, .inr (.inl (0, .inl ((List.replicate 64 0).set 0 (0)))))]) (pc' := 21) (by decide +kernel) rfl (ab_ov_no f_0 rfl) (ab_klt (n := 14) (by rw [p1_n0]) (by decide)) rfl rfl (ab_ov_set rfl) rfl ?_
  refine ab_fin.s2 (i := .aload_n 0) (k := 1) (pc' := 22) (lv' := [(1, .int 0), (0, .ref 0)]) (st' := [.ref 0]) (by decide +kernel) rfl rfl ?_
  refine ab_fin.s2 (i := .iload_n 1) (k := 1) (pc' := 23) (lv' := [(1, .int 0), (0, .ref 0)]) (st' := [.int 0, .ref 0]) (by decide +kernel) rfl rfl ?_
  refine ab_fin.brT (c := 0 ≤ (0 : Int32)) (i := .ifCond .ge 7) (off := 7) (t := 30) (r := [.ref 0]) (by decide +kernel) rfl (by decide +kernel) (by decide +kernel) ?_
  refine ab_fin.s1i (i := .iconst 0) (k := 1) (pc' := 31) (n := 0) (by decide +kernel) rfl (by decide +kernel) rfl ?_
  refine ab_fin.putf (ix := 109) (h1 := ab_ov h [(0, .inr (.inr (13, ((p1_o0).set 9 (.int 0)).set 13 (.int 0)))), (40, .inr (.inr (8, ((((((((p1_o40).set 5 (.int (-1))).set 6 (.int 0)).set 7 (.int 0)).set 8 (.int (-1))).set 9 (.int 0)).set 4 (.int 0)).set 3 (.int 0)).set 2 (.int 1)))), (24, .inr (.inr (2, ((p1_o24).set 4 (.int 901)).set 3 (.int 902)))), (27, .inr (.inl (0, .inl (((List.replicate 1804 0).set 0 (0)).set 1 (0))))), (26, .inr (.inl (0, .inl ((List.replicate 1804 0).set 0 (0))))), (25, .inr (.inl (0, .inl ((List.replicate 1804 0).set 0 (25))))), (28, .inr (.inl (0, .inl ((p1_a28).set 3 (0))))), (41, .inr (.inr (9, (p1_o41).set 4 (.int 1)))), (45, .inr (.inl (1, .inr (.inl ((List.replicate 64 0).set 0 (0)))))), (44, .inr (.inl (1, .inr (.inl ((List.replicate 64 0).set 0 (0)))))), (43, .inr (.inl (0, .inl ((List.replicate 64 0).set 0 (0))))), (42, .inr (.inl (0, .inl ((List.replicate 64 0).set 0 (0)))))]) (pc' := 34) (by decide +kernel) rfl (ab_ov_get (lt0 0 (by decide)) rfl) (ab_klt (n := 14) (by rw [List.length_set, p1_n0]) (by decide)) rfl rfl (ab_ov_set rfl) rfl ?_
  refine ab_fin.s2 (i := .iload_n 1) (k := 1) (pc' := 35) (lv' := [(1, .int 0), (0, .ref 0)]) (st' := [.int 0]) (by decide +kernel) rfl rfl ?_
  refine ab_fin.ret (i := .ireturn) (k := 1) (some (.int 0)) (by decide +kernel) rfl ?_
  refine ab_bk.back (pc' := 301) (st' := [.int 0]) rfl rfl ?_
  refine ab_fin.s2 (i := .aload_n 2) (k := 1) (pc' := 302) (lv' := [(4, .int 0), (3, .ref 3466), (2, .ref 101), (1, .ref 0), (0, .retAddr 9)]) (st' := [.ref 101, .int 0]) (by decide +kernel) rfl rfl ?_
  refine ab_fin.call (i := .invokevirtual 89) (k := 3) (y := 6093) (As := [.ref 101]) (rest := [.int 0]) (M' := (mX23_program, [(43, 85, 88, 223)])) (by decide +kernel) (ab_cv rfl rfl (ab_ov_no f_101 rfl) ⟨(Nat.le_of_ble_eq_true rfl), (Nat.le_of_ble_eq_true rfl)⟩ rfl) rfl (Nat.le_of_ble_eq_true rfl) ?_
  show ab_fin _ _ _ _ 0 [(0, .ref 101)] [] _ _
  refine ab_fin.s2 (i := .aload_n 0) (k := 1) (pc' := 1) (lv' := [(0, .ref 101)]) (st' := [.ref 101]) (by decide +kernel) rfl rfl ?_
  refine ab_fin.s1i (i := .iconst 0) (k := 1) (pc' := 2) (n := 0) (by decide +kernel) rfl (by decide +kernel) rfl ?_
  refine ab_fin.putf (ix := 1000) (h1 := ab_ov h [(101, .inr (.inr (24, (p1_o101).set 110 (.int 0)))), (0, .inr (.inr (13, ((p1_o0).set 9 (.int 0)).set 13 (.int 0)))), (40, .inr (.inr (8, ((((((((p1_o40).set 5 (.int (-1))).set 6 (.int 0)).set 7 (.int 0)).set 8 (.int (-1))).set 9 (.int 0)).set 4 (.int 0)).set 3 (.int 0)).set 2 (.int 1)))), (24, .inr (.inr (2, ((p1_o24).set 4 (.int 901)).set 3 (.int 902)))), (27, .inr (.inl (0, .inl (((List.replicate 1804 0).set 0 (0)).set 1 (0))))), (26, .inr (.inl (0, .inl ((List.replicate 1804 0).set 0 (0))))), (25, .inr (.inl (0, .inl ((List.replicate 1804 0).set 0 (25))))), (28, .inr (.inl (0, .inl ((p1_a28).set 3 (0))))), (41, .inr (.inr (9, (p1_o41).set 4 (.int 1)))), (45, .inr (.inl (1, .inr (.inl ((List.replicate 64 0).set 0 (0)))))), (44, .inr (.inl (1, .inr (.inl ((List.replicate 64 0).set 0 (0)))))), (43, .inr (.inl (0, .inl ((List.replicate 64 0).set 0 (0))))), (42, .inr (.inl (0, .inl ((List.replicate 64 0).set 0 (0)))))]) (pc' := 5) (by decide +kernel) rfl (ab_ov_no f_101 rfl) (ab_klt (n := 115) (by rw [p1_n101]) (by decide)) rfl rfl (ab_ov_set rfl) rfl ?_
  refine ab_fin.s2 (i := .aload_n 0) (k := 1) (pc' := 6) (lv' := [(0, .ref 101)]) (st' := [.ref 101]) (by decide +kernel) rfl rfl ?_
  refine ab_fin.s1 (i := .aconst_null) (k := 1) (pc' := 7) (st' := [.null, .ref 101]) (by decide +kernel) rfl rfl ?_
  refine ab_fin.putf (ix := 885) (h1 := ab_ov h [(101, .inr (.inr (24, ((p1_o101).set 110 (.int 0)).set 10 (.null)))), (0, .inr (.inr (13, ((p1_o0).set 9 (.int 0)).set 13 (.int 0)))), (40, .inr (.inr (8, ((((((((p1_o40).set 5 (.int (-1))).set 6 (.int 0)).set 7 (.int 0)).set 8 (.int (-1))).set 9 (.int 0)).set 4 (.int 0)).set 3 (.int 0)).set 2 (.int 1)))), (24, .inr (.inr (2, ((p1_o24).set 4 (.int 901)).set 3 (.int 902)))), (27, .inr (.inl (0, .inl (((List.replicate 1804 0).set 0 (0)).set 1 (0))))), (26, .inr (.inl (0, .inl ((List.replicate 1804 0).set 0 (0))))), (25, .inr (.inl (0, .inl ((List.replicate 1804 0).set 0 (25))))), (28, .inr (.inl (0, .inl ((p1_a28).set 3 (0))))), (41, .inr (.inr (9, (p1_o41).set 4 (.int 1)))), (45, .inr (.inl (1, .inr (.inl ((List.replicate 64 0).set 0 (0)))))), (44, .inr (.inl (1, .inr (.inl ((List.replicate 64 0).set 0 (0)))))), (43, .inr (.inl (0, .inl ((List.replicate 64 0).set 0 (0))))), (42, .inr (.inl (0, .inl ((List.replicate 64 0).set 0 (0)))))]) (pc' := 10) (by decide +kernel) rfl (ab_ov_get (lt0 101 (by decide)) rfl) (ab_klt (n := 115) (by rw [List.length_set, p1_n101]) (by decide)) rfl rfl (ab_ov_set rfl) rfl ?_
  refine ab_fin.s2 (i := .aload_n 0) (k := 1) (pc' := 11) (lv' := [(0, .ref 101)]) (st' := [.ref 101]) (by decide +kernel) rfl rfl ?_
  refine ab_fin.getf (ix := 957) (k := 9) (v := .ref 108) (pc' := 14) (by decide +kernel) rfl (ab_ov_get (lt0 101 (by decide)) rfl) rfl rfl ?_
  refine ab_fin.s1i (i := .iconst 0) (k := 1) (pc' := 15) (n := 0) (by decide +kernel) rfl (by decide +kernel) rfl ?_
  refine ab_fin.putf (ix := 983) (h1 := ab_ov h [(108, .inr (.inr (22, (p1_o108).set 1 (.int 0)))), (101, .inr (.inr (24, ((p1_o101).set 110 (.int 0)).set 10 (.null)))), (0, .inr (.inr (13, ((p1_o0).set 9 (.int 0)).set 13 (.int 0)))), (40, .inr (.inr (8, ((((((((p1_o40).set 5 (.int (-1))).set 6 (.int 0)).set 7 (.int 0)).set 8 (.int (-1))).set 9 (.int 0)).set 4 (.int 0)).set 3 (.int 0)).set 2 (.int 1)))), (24, .inr (.inr (2, ((p1_o24).set 4 (.int 901)).set 3 (.int 902)))), (27, .inr (.inl (0, .inl (((List.replicate 1804 0).set 0 (0)).set 1 (0))))), (26, .inr (.inl (0, .inl ((List.replicate 1804 0).set 0 (0))))), (25, .inr (.inl (0, .inl ((List.replicate 1804 0).set 0 (25))))), (28, .inr (.inl (0, .inl ((p1_a28).set 3 (0))))), (41, .inr (.inr (9, (p1_o41).set 4 (.int 1)))), (45, .inr (.inl (1, .inr (.inl ((List.replicate 64 0).set 0 (0)))))), (44, .inr (.inl (1, .inr (.inl ((List.replicate 64 0).set 0 (0)))))), (43, .inr (.inl (0, .inl ((List.replicate 64 0).set 0 (0))))), (42, .inr (.inl (0, .inl ((List.replicate 64 0).set 0 (0)))))]) (pc' := 18) (by decide +kernel) rfl (ab_ov_no f_108 rfl) (ab_klt (n := 2) (by rw [p1_n108]) (by decide)) rfl rfl (ab_ov_set rfl) rfl ?_
  refine ab_fin.s2 (i := .aload_n 0) (k := 1) (pc' := 19) (lv' := [(0, .ref 101)]) (st' := [.ref 101]) (by decide +kernel) rfl rfl ?_
  refine ab_fin.s2 (i := .aload_n 0) (k := 1) (pc' := 20) (lv' := [(0, .ref 101)]) (st' := [.ref 101, .ref 101]) (by decide +kernel) rfl rfl ?_
  refine ab_fin.getf (ix := 957) (k := 9) (v := .ref 108) (pc' := 23) (by decide +kernel) rfl (ab_ov_get (lt0 101 (by decide)) rfl) rfl rfl ?_
  refine ab_fin.putf (ix := 353) (h1 := ab_ov h [(101, .inr (.inr (24, (((p1_o101).set 110 (.int 0)).set 10 (.null)).set 34 (.ref 108)))), (108, .inr (.inr (22, (p1_o108).set 1 (.int 0)))), (0, .inr (.inr (13, ((p1_o0).set 9 (.int 0)).set 13 (.int 0)))), (40, .inr (.inr (8, ((((((((p1_o40).set 5 (.int (-1))).set 6 (.int 0)).set 7 (.int 0)).set 8 (.int (-1))).set 9 (.int 0)).set 4 (.int 0)).set 3 (.int 0)).set 2 (.int 1)))), (24, .inr (.inr (2, ((p1_o24).set 4 (.int 901)).set 3 (.int 902)))), (27, .inr (.inl (0, .inl (((List.replicate 1804 0).set 0 (0)).set 1 (0))))), (26, .inr (.inl (0, .inl ((List.replicate 1804 0).set 0 (0))))), (25, .inr (.inl (0, .inl ((List.replicate 1804 0).set 0 (25))))), (28, .inr (.inl (0, .inl ((p1_a28).set 3 (0))))), (41, .inr (.inr (9, (p1_o41).set 4 (.int 1)))), (45, .inr (.inl (1, .inr (.inl ((List.replicate 64 0).set 0 (0)))))), (44, .inr (.inl (1, .inr (.inl ((List.replicate 64 0).set 0 (0)))))), (43, .inr (.inl (0, .inl ((List.replicate 64 0).set 0 (0))))), (42, .inr (.inl (0, .inl ((List.replicate 64 0).set 0 (0)))))]) (pc' := 26) (by decide +kernel) rfl (ab_ov_get (lt0 101 (by decide)) rfl) (ab_klt (n := 115) (by rw [List.length_set, List.length_set, p1_n101]) (by decide)) rfl rfl (ab_ov_set rfl) rfl ?_
  refine ab_fin.s2 (i := .aload_n 0) (k := 1) (pc' := 27) (lv' := [(0, .ref 101)]) (st' := [.ref 101]) (by decide +kernel) rfl rfl ?_
  refine ab_fin.s1i (i := .iconst (-1)) (k := 1) (pc' := 28) (n := (-1)) (by decide +kernel) rfl (by decide +kernel) rfl ?_
  refine ab_fin.putf (ix := 369) (h1 := ab_ov h [(101, .inr (.inr (24, ((((p1_o101).set 110 (.int 0)).set 10 (.null)).set 34 (.ref 108)).set 33 (.int (-1))))), (108, .inr (.inr (22, (p1_o108).set 1 (.int 0)))), (0, .inr (.inr (13, ((p1_o0).set 9 (.int 0)).set 13 (.int 0)))), (40, .inr (.inr (8, ((((((((p1_o40).set 5 (.int (-1))).set 6 (.int 0)).set 7 (.int 0)).set 8 (.int (-1))).set 9 (.int 0)).set 4 (.int 0)).set 3 (.int 0)).set 2 (.int 1)))), (24, .inr (.inr (2, ((p1_o24).set 4 (.int 901)).set 3 (.int 902)))), (27, .inr (.inl (0, .inl (((List.replicate 1804 0).set 0 (0)).set 1 (0))))), (26, .inr (.inl (0, .inl ((List.replicate 1804 0).set 0 (0))))), (25, .inr (.inl (0, .inl ((List.replicate 1804 0).set 0 (25))))), (28, .inr (.inl (0, .inl ((p1_a28).set 3 (0))))), (41, .inr (.inr (9, (p1_o41).set 4 (.int 1)))), (45, .inr (.inl (1, .inr (.inl ((List.replicate 64 0).set 0 (0)))))), (44, .inr (.inl (1, .inr (.inl ((List.replicate 64 0).set 0 (0)))))), (43, .inr (.inl (0, .inl ((List.replicate 64 0).set 0 (0))))), (42, .inr (.inl (0, .inl ((List.replicate 64 0).set 0 (0)))))]) (pc' := 31) (by decide +kernel) rfl (ab_ov_get (lt0 101 (by decide)) rfl) (ab_klt (n := 115) (by rw [List.length_set, List.length_set, List.length_set, p1_n101]) (by decide)) rfl rfl (ab_ov_set rfl) rfl ?_
  refine ab_fin.s2 (i := .aload_n 0) (k := 1) (pc' := 32) (lv' := [(0, .ref 101)]) (st' := [.ref 101]) (by decide +kernel) rfl rfl ?_
  refine ab_fin.s1i (i := .iconst 0) (k := 1) (pc' := 33) (n := 0) (by decide +kernel) rfl (by decide +kernel) rfl ?_
  refine ab_fin.putf (ix := 339) (h1 := ab_ov h [(101, .inr (.inr (24, (((((p1_o101).set 110 (.int 0)).set 10 (.null)).set 34 (.ref 108)).set 33 (.int (-1))).set 32 (.int 0)))), (108, .inr (.inr (22, (p1_o108).set 1 (.int 0)))), (0, .inr (.inr (13, ((p1_o0).set 9 (.int 0)).set 13 (.int 0)))), (40, .inr (.inr (8, ((((((((p1_o40).set 5 (.int (-1))).set 6 (.int 0)).set 7 (.int 0)).set 8 (.int (-1))).set 9 (.int 0)).set 4 (.int 0)).set 3 (.int 0)).set 2 (.int 1)))), (24, .inr (.inr (2, ((p1_o24).set 4 (.int 901)).set 3 (.int 902)))), (27, .inr (.inl (0, .inl (((List.replicate 1804 0).set 0 (0)).set 1 (0))))), (26, .inr (.inl (0, .inl ((List.replicate 1804 0).set 0 (0))))), (25, .inr (.inl (0, .inl ((List.replicate 1804 0).set 0 (25))))), (28, .inr (.inl (0, .inl ((p1_a28).set 3 (0))))), (41, .inr (.inr (9, (p1_o41).set 4 (.int 1)))), (45, .inr (.inl (1, .inr (.inl ((List.replicate 64 0).set 0 (0)))))), (44, .inr (.inl (1, .inr (.inl ((List.replicate 64 0).set 0 (0)))))), (43, .inr (.inl (0, .inl ((List.replicate 64 0).set 0 (0))))), (42, .inr (.inl (0, .inl ((List.replicate 64 0).set 0 (0)))))]) (pc' := 36) (by decide +kernel) rfl (ab_ov_get (lt0 101 (by decide)) rfl) (ab_klt (n := 115) (by rw [List.length_set, List.length_set, List.length_set, List.length_set, p1_n101]) (by decide)) rfl rfl (ab_ov_set rfl) rfl ?_
  refine ab_fin.s2 (i := .aload_n 0) (k := 1) (pc' := 37) (lv' := [(0, .ref 101)]) (st' := [.ref 101]) (by decide +kernel) rfl rfl ?_
  refine ab_fin.s1i (i := .iconst 0) (k := 1) (pc' := 38) (n := 0) (by decide +kernel) rfl (by decide +kernel) rfl ?_
  refine ab_fin.putf (ix := 256) (h1 := ab_ov h [(101, .inr (.inr (24, ((((((p1_o101).set 110 (.int 0)).set 10 (.null)).set 34 (.ref 108)).set 33 (.int (-1))).set 32 (.int 0)).set 21 (.int 0)))), (108, .inr (.inr (22, (p1_o108).set 1 (.int 0)))), (0, .inr (.inr (13, ((p1_o0).set 9 (.int 0)).set 13 (.int 0)))), (40, .inr (.inr (8, ((((((((p1_o40).set 5 (.int (-1))).set 6 (.int 0)).set 7 (.int 0)).set 8 (.int (-1))).set 9 (.int 0)).set 4 (.int 0)).set 3 (.int 0)).set 2 (.int 1)))), (24, .inr (.inr (2, ((p1_o24).set 4 (.int 901)).set 3 (.int 902)))), (27, .inr (.inl (0, .inl (((List.replicate 1804 0).set 0 (0)).set 1 (0))))), (26, .inr (.inl (0, .inl ((List.replicate 1804 0).set 0 (0))))), (25, .inr (.inl (0, .inl ((List.replicate 1804 0).set 0 (25))))), (28, .inr (.inl (0, .inl ((p1_a28).set 3 (0))))), (41, .inr (.inr (9, (p1_o41).set 4 (.int 1)))), (45, .inr (.inl (1, .inr (.inl ((List.replicate 64 0).set 0 (0)))))), (44, .inr (.inl (1, .inr (.inl ((List.replicate 64 0).set 0 (0)))))), (43, .inr (.inl (0, .inl ((List.replicate 64 0).set 0 (0))))), (42, .inr (.inl (0, .inl ((List.replicate 64 0).set 0 (0)))))]) (pc' := 41) (by decide +kernel) rfl (ab_ov_get (lt0 101 (by decide)) rfl) (ab_klt (n := 115) (by rw [List.length_set, List.length_set, List.length_set, List.length_set, List.length_set, p1_n101]) (by decide)) rfl rfl (ab_ov_set rfl) rfl ?_
  refine ab_fin.s1 (i := .aconst_null) (k := 1) (pc' := 42) (st' := [.null]) (by decide +kernel) rfl rfl ?_
  refine ab_fin.s2 (i := .astore_n 2) (k := 1) (pc' := 43) (lv' := [(2, .null), (0, .ref 101)]) (st' := []) (by decide +kernel) rfl rfl ?_
  refine ab_fin.s2 (i := .aload_n 0) (k := 1) (pc' := 44) (lv' := [(2, .null), (0, .ref 101)]) (st' := [.ref 101]) (by decide +kernel) rfl rfl ?_
  refine ab_fin.call (i := .invokevirtual 263) (k := 3) (y := 5914) (As := [.ref 101]) (rest := []) (M' := (mX23_start, [])) (by decide +kernel) (ab_cv rfl rfl (ab_ov_get (lt0 101 (by decide)) rfl) ⟨(Nat.le_of_ble_eq_true rfl), (Nat.le_of_ble_eq_true rfl)⟩ rfl) rfl (Nat.le_of_ble_eq_true rfl) ?_
  show ab_fin _ _ _ _ 0 [(0, .ref 101)] [] _ _
  refine ab_fin.s2 (i := .aload_n 0) (k := 1) (pc' := 1) (lv' := [(0, .ref 101)]) (st' := [.ref 101]) (by decide +kernel) rfl rfl ?_
  refine ab_fin.s1i (i := .iconst 0) (k := 1) (pc' := 2) (n := 0) (by decide +kernel) rfl (by decide +kernel) rfl ?_
  refine ab_fin.putf (ix := 177) (h1 := ab_ov h [(101, .inr (.inr (24, (((((((p1_o101).set 110 (.int 0)).set 10 (.null)).set 34 (.ref 108)).set 33 (.int (-1))).set 32 (.int 0)).set 21 (.int 0)).set 16 (.int 0)))), (108, .inr (.inr (22, (p1_o108).set 1 (.int 0)))), (0, .inr (.inr (13, ((p1_o0).set 9 (.int 0)).set 13 (.int 0)))), (40, .inr (.inr (8, ((((((((p1_o40).set 5 (.int (-1))).set 6 (.int 0)).set 7 (.int 0)).set 8 (.int (-1))).set 9 (.int 0)).set 4 (.int 0)).set 3 (.int 0)).set 2 (.int 1)))), (24, .inr (.inr (2, ((p1_o24).set 4 (.int 901)).set 3 (.int 902)))), (27, .inr (.inl (0, .inl (((List.replicate 1804 0).set 0 (0)).set 1 (0))))), (26, .inr (.inl (0, .inl ((List.replicate 1804 0).set 0 (0))))), (25, .inr (.inl (0, .inl ((List.replicate 1804 0).set 0 (25))))), (28, .inr (.inl (0, .inl ((p1_a28).set 3 (0))))), (41, .inr (.inr (9, (p1_o41).set 4 (.int 1)))), (45, .inr (.inl (1, .inr (.inl ((List.replicate 64 0).set 0 (0)))))), (44, .inr (.inl (1, .inr (.inl ((List.replicate 64 0).set 0 (0)))))), (43, .inr (.inl (0, .inl ((List.replicate 64 0).set 0 (0))))), (42, .inr (.inl (0, .inl ((List.replicate 64 0).set 0 (0)))))]) (pc' := 5) (by decide +kernel) rfl (ab_ov_get (lt0 101 (by decide)) rfl) (ab_klt (n := 115) (by rw [List.length_set, List.length_set, List.length_set, List.length_set, List.length_set, List.length_set, p1_n101]) (by decide)) rfl rfl (ab_ov_set rfl) rfl ?_
  refine ab_fin.s2 (i := .aload_n 0) (k := 1) (pc' := 6) (lv' := [(0, .ref 101)]) (st' := [.ref 101]) (by decide +kernel) rfl rfl ?_
  refine ab_fin.s1i (i := .iconst 0) (k := 1) (pc' := 7) (n := 0) (by decide +kernel) rfl (by decide +kernel) rfl ?_
  refine ab_fin.putf (ix := 253) (h1 := ab_ov h [(101, .inr (.inr (24, ((((((((p1_o101).set 110 (.int 0)).set 10 (.null)).set 34 (.ref 108)).set 33 (.int (-1))).set 32 (.int 0)).set 21 (.int 0)).set 16 (.int 0)).set 20 (.int 0)))), (108, .inr (.inr (22, (p1_o108).set 1 (.int 0)))), (0, .inr (.inr (13, ((p1_o0).set 9 (.int 0)).set 13 (.int 0)))), (40, .inr (.inr (8, ((((((((p1_o40).set 5 (.int (-1))).set 6 (.int 0)).set 7 (.int 0)).set 8 (.int (-1))).set 9 (.int 0)).set 4 (.int 0)).set 3 (.int 0)).set 2 (.int 1)))), (24, .inr (.inr (2, ((p1_o24).set 4 (.int 901)).set 3 (.int 902)))), (27, .inr (.inl (0, .inl (((List.replicate 1804 0).set 0 (0)).set 1 (0))))), (26, .inr (.inl (0, .inl ((List.replicate 1804 0).set 0 (0))))), (25, .inr (.inl (0, .inl ((List.replicate 1804 0).set 0 (25))))), (28, .inr (.inl (0, .inl ((p1_a28).set 3 (0))))), (41, .inr (.inr (9, (p1_o41).set 4 (.int 1)))), (45, .inr (.inl (1, .inr (.inl ((List.replicate 64 0).set 0 (0)))))), (44, .inr (.inl (1, .inr (.inl ((List.replicate 64 0).set 0 (0)))))), (43, .inr (.inl (0, .inl ((List.replicate 64 0).set 0 (0))))), (42, .inr (.inl (0, .inl ((List.replicate 64 0).set 0 (0)))))]) (pc' := 10) (by decide +kernel) rfl (ab_ov_get (lt0 101 (by decide)) rfl) (ab_klt (n := 115) (by rw [List.length_set, List.length_set, List.length_set, List.length_set, List.length_set, List.length_set, List.length_set, p1_n101]) (by decide)) rfl rfl (ab_ov_set rfl) rfl ?_
  refine ab_fin.s2 (i := .aload_n 0) (k := 1) (pc' := 11) (lv' := [(0, .ref 101)]) (st' := [.ref 101]) (by decide +kernel) rfl rfl ?_
  refine ab_fin.s1i (i := .iconst (-1)) (k := 1) (pc' := 12) (n := (-1)) (by decide +kernel) rfl (by decide +kernel) rfl ?_
  refine ab_fin.putf (ix := 247) (h1 := ab_ov h [(101, .inr (.inr (24, (((((((((p1_o101).set 110 (.int 0)).set 10 (.null)).set 34 (.ref 108)).set 33 (.int (-1))).set 32 (.int 0)).set 21 (.int 0)).set 16 (.int 0)).set 20 (.int 0)).set 23 (.int (-1))))), (108, .inr (.inr (22, (p1_o108).set 1 (.int 0)))), (0, .inr (.inr (13, ((p1_o0).set 9 (.int 0)).set 13 (.int 0)))), (40, .inr (.inr (8, ((((((((p1_o40).set 5 (.int (-1))).set 6 (.int 0)).set 7 (.int 0)).set 8 (.int (-1))).set 9 (.int 0)).set 4 (.int 0)).set 3 (.int 0)).set 2 (.int 1)))), (24, .inr (.inr (2, ((p1_o24).set 4 (.int 901)).set 3 (.int 902)))), (27, .inr (.inl (0, .inl (((List.replicate 1804 0).set 0 (0)).set 1 (0))))), (26, .inr (.inl (0, .inl ((List.replicate 1804 0).set 0 (0))))), (25, .inr (.inl (0, .inl ((List.replicate 1804 0).set 0 (25))))), (28, .inr (.inl (0, .inl ((p1_a28).set 3 (0))))), (41, .inr (.inr (9, (p1_o41).set 4 (.int 1)))), (45, .inr (.inl (1, .inr (.inl ((List.replicate 64 0).set 0 (0)))))), (44, .inr (.inl (1, .inr (.inl ((List.replicate 64 0).set 0 (0)))))), (43, .inr (.inl (0, .inl ((List.replicate 64 0).set 0 (0))))), (42, .inr (.inl (0, .inl ((List.replicate 64 0).set 0 (0)))))]) (pc' := 15) (by decide +kernel) rfl (ab_ov_get (lt0 101 (by decide)) rfl) (ab_klt (n := 115) (by rw [List.length_set, List.length_set, List.length_set, List.length_set, List.length_set, List.length_set, List.length_set, List.length_set, p1_n101]) (by decide)) rfl rfl (ab_ov_set rfl) rfl ?_
  refine ab_fin.s2 (i := .aload_n 0) (k := 1) (pc' := 16) (lv' := [(0, .ref 101)]) (st' := [.ref 101]) (by decide +kernel) rfl rfl ?_
  refine ab_fin.s1i (i := .iconst 0) (k := 1) (pc' := 17) (n := 0) (by decide +kernel) rfl (by decide +kernel) rfl ?_
  refine ab_fin.putf (ix := 250) (h1 := ab_ov h [(101, .inr (.inr (24, ((((((((((p1_o101).set 110 (.int 0)).set 10 (.null)).set 34 (.ref 108)).set 33 (.int (-1))).set 32 (.int 0)).set 21 (.int 0)).set 16 (.int 0)).set 20 (.int 0)).set 23 (.int (-1))).set 24 (.int 0)))), (108, .inr (.inr (22, (p1_o108).set 1 (.int 0)))), (0, .inr (.inr (13, ((p1_o0).set 9 (.int 0)).set 13 (.int 0)))), (40, .inr (.inr (8, ((((((((p1_o40).set 5 (.int (-1))).set 6 (.int 0)).set 7 (.int 0)).set 8 (.int (-1))).set 9 (.int 0)).set 4 (.int 0)).set 3 (.int 0)).set 2 (.int 1)))), (24, .inr (.inr (2, ((p1_o24).set 4 (.int 901)).set 3 (.int 902)))), (27, .inr (.inl (0, .inl (((List.replicate 1804 0).set 0 (0)).set 1 (0))))), (26, .inr (.inl (0, .inl ((List.replicate 1804 0).set 0 (0))))), (25, .inr (.inl (0, .inl ((List.replicate 1804 0).set 0 (25))))), (28, .inr (.inl (0, .inl ((p1_a28).set 3 (0))))), (41, .inr (.inr (9, (p1_o41).set 4 (.int 1)))), (45, .inr (.inl (1, .inr (.inl ((List.replicate 64 0).set 0 (0)))))), (44, .inr (.inl (1, .inr (.inl ((List.replicate 64 0).set 0 (0)))))), (43, .inr (.inl (0, .inl ((List.replicate 64 0).set 0 (0))))), (42, .inr (.inl (0, .inl ((List.replicate 64 0).set 0 (0)))))]) (pc' := 20) (by decide +kernel) rfl (ab_ov_get (lt0 101 (by decide)) rfl) (ab_klt (n := 115) (by rw [List.length_set, List.length_set, List.length_set, List.length_set, List.length_set, List.length_set, List.length_set, List.length_set, List.length_set, p1_n101]) (by decide)) rfl rfl (ab_ov_set rfl) rfl ?_
  refine ab_fin.s2 (i := .aload_n 0) (k := 1) (pc' := 21) (lv' := [(0, .ref 101)]) (st' := [.ref 101]) (by decide +kernel) rfl rfl ?_
  refine ab_fin.call (i := .invokevirtual 239) (k := 3) (y := 5902) (As := [.ref 101]) (rest := []) (M' := (mX23_next, [])) (by decide +kernel) (ab_cv rfl rfl (ab_ov_get (lt0 101 (by decide)) rfl) ⟨(Nat.le_of_ble_eq_true rfl), (Nat.le_of_ble_eq_true rfl)⟩ rfl) rfl (Nat.le_of_ble_eq_true rfl) ?_
  show ab_fin _ _ _ _ 0 [(0, .ref 101)] [] _ _
  refine ab_fin.s2 (i := .aload_n 0) (k := 1) (pc' := 1) (lv' := [(0, .ref 101)]) (st' := [.ref 101]) (by decide +kernel) rfl rfl ?_
  refine ab_fin.getf (ix := 177) (k := 16) (v := .int 0) (pc' := 4) (by decide +kernel) rfl (ab_ov_get (lt0 101 (by decide)) rfl) rfl rfl ?_
  refine ab_fin.s2 (i := .aload_n 0) (k := 1) (pc' := 5) (lv' := [(0, .ref 101)]) (st' := [.ref 101, .int 0]) (by decide +kernel) rfl rfl ?_
  refine ab_fin.getf (ix := 180) (k := 15) (v := .int 0) (pc' := 8) (by decide +kernel) rfl (ab_ov_get (lt0 101 (by decide)) rfl) rfl rfl ?_
  refine ab_fin.brT (c := (0 : Int32) ≤ (0 : Int32)) (i := .if_icmp .ge 94) (off := 94) (t := 102) (r := []) (by decide +kernel) rfl (by decide +kernel) (by decide +kernel) ?_
  refine ab_fin.s2 (i := .aload_n 0) (k := 1) (pc' := 103) (lv' := [(0, .ref 101)]) (st' := [.ref 101]) (by decide +kernel) rfl rfl ?_
  refine ab_fin.s2 (i := .aload_n 0) (k := 1) (pc' := 104) (lv' := [(0, .ref 101)]) (st' := [.ref 101, .ref 101]) (by decide +kernel) rfl rfl ?_
  refine ab_fin.getf (ix := 177) (k := 16) (v := .int 0) (pc' := 107) (by decide +kernel) rfl (ab_ov_get (lt0 101 (by decide)) rfl) rfl rfl ?_
  refine ab_fin.putf (ix := 106) (h1 := ab_ov h [(101, .inr (.inr (24, (((((((((((p1_o101).set 110 (.int 0)).set 10 (.null)).set 34 (.ref 108)).set 33 (.int (-1))).set 32 (.int 0)).set 21 (.int 0)).set 16 (.int 0)).set 20 (.int 0)).set 23 (.int (-1))).set 24 (.int 0)).set 18 (.int 0)))), (108, .inr (.inr (22, (p1_o108).set 1 (.int 0)))), (0, .inr (.inr (13, ((p1_o0).set 9 (.int 0)).set 13 (.int 0)))), (40, .inr (.inr (8, ((((((((p1_o40).set 5 (.int (-1))).set 6 (.int 0)).set 7 (.int 0)).set 8 (.int (-1))).set 9 (.int 0)).set 4 (.int 0)).set 3 (.int 0)).set 2 (.int 1)))), (24, .inr (.inr (2, ((p1_o24).set 4 (.int 901)).set 3 (.int 902)))), (27, .inr (.inl (0, .inl (((List.replicate 1804 0).set 0 (0)).set 1 (0))))), (26, .inr (.inl (0, .inl ((List.replicate 1804 0).set 0 (0))))), (25, .inr (.inl (0, .inl ((List.replicate 1804 0).set 0 (25))))), (28, .inr (.inl (0, .inl ((p1_a28).set 3 (0))))), (41, .inr (.inr (9, (p1_o41).set 4 (.int 1)))), (45, .inr (.inl (1, .inr (.inl ((List.replicate 64 0).set 0 (0)))))), (44, .inr (.inl (1, .inr (.inl ((List.replicate 64 0).set 0 (0)))))), (43, .inr (.inl (0, .inl ((List.replicate 64 0).set 0 (0))))), (42, .inr (.inl (0, .inl ((List.replicate 64 0).set 0 (0)))))]) (pc' := 110) (by decide +kernel) rfl (ab_ov_get (lt0 101 (by decide)) rfl) (ab_klt (n := 115) (by rw [List.length_set, List.length_set, List.length_set, List.length_set, List.length_set, List.length_set, List.length_set, List.length_set, List.length_set, List.length_set, p1_n101]) (by decide)) rfl rfl (ab_ov_set rfl) rfl ?_
  refine ab_fin.s2 (i := .aload_n 0) (k := 1) (pc' := 111) (lv' := [(0, .ref 101)]) (st' := [.ref 101]) (by decide +kernel) rfl rfl ?_
  refine ab_fin.getf (ix := 177) (k := 16) (v := .int 0) (pc' := 114) (by decide +kernel) rfl (ab_ov_get (lt0 101 (by decide)) rfl) rfl rfl ?_
  refine ab_fin.s2 (i := .aload_n 0) (k := 1) (pc' := 115) (lv' := [(0, .ref 101)]) (st' := [.ref 101, .int 0]) (by decide +kernel) rfl rfl ?_
  refine ab_fin.getf (ix := 180) (k := 15) (v := .int 0) (pc' := 118) (by decide +kernel) rfl (ab_ov_get (lt0 101 (by decide)) rfl) rfl rfl ?_
  refine ab_fin.brF (c := ¬ (0 : Int32) = (0 : Int32)) (i := .if_icmp .ne 9) (off := 9) (t := 127) (pc' := 121) (r := []) (by decide +kernel) rfl (by decide +kernel) rfl (by decide +kernel) ?_
  refine ab_fin.s2 (i := .aload_n 0) (k := 1) (pc' := 122) (lv' := [(0, .ref 101)]) (st' := [.ref 101]) (by decide +kernel) rfl rfl ?_
  refine ab_fin.s1i (i := .iconst 0) (k := 1) (pc' := 123) (n := 0) (by decide +kernel) rfl (by decide +kernel) rfl ?_
  refine ab_fin.putf (ix := 183) (h1 := ab_ov h [(101, .inr (.inr (24, ((((((((((((p1_o101).set 110 (.int 0)).set 10 (.null)).set 34 (.ref 108)).set 33 (.int (-1))).set 32 (.int 0)).set 21 (.int 0)).set 16 (.int 0)).set 20 (.int 0)).set 23 (.int (-1))).set 24 (.int 0)).set 18 (.int 0)).set 17 (.int 0)))), (108, .inr (.inr (22, (p1_o108).set 1 (.int 0)))), (0, .inr (.inr (13, ((p1_o0).set 9 (.int 0)).set 13 (.int 0)))), (40, .inr (.inr (8, ((((((((p1_o40).set 5 (.int (-1))).set 6 (.int 0)).set 7 (.int 0)).set 8 (.int (-1))).set 9 (.int 0)).set 4 (.int 0)).set 3 (.int 0)).set 2 (.int 1)))), (24, .inr (.inr (2, ((p1_o24).set 4 (.int 901)).set 3 (.int 902)))), (27, .inr (.inl (0, .inl (((List.replicate 1804 0).set 0 (0)).set 1 (0))))), (26, .inr (.inl (0, .inl ((List.replicate 1804 0).set 0 (0))))), (25, .inr (.inl (0, .inl ((List.replicate 1804 0).set 0 (25))))), (28, .inr (.inl (0, .inl ((p1_a28).set 3 (0))))), (41, .inr (.inr (9, (p1_o41).set 4 (.int 1)))), (45, .inr (.inl (1, .inr (.inl ((List.replicate 64 0).set 0 (0)))))), (44, .inr (.inl (1, .inr (.inl ((List.replicate 64 0).set 0 (0)))))), (43, .inr (.inl (0, .inl ((List.replicate 64 0).set 0 (0))))), (42, .inr (.inl (0, .inl ((List.replicate 64 0).set 0 (0)))))]) (pc' := 126) (by decide +kernel) rfl (ab_ov_get (lt0 101 (by decide)) rfl) (ab_klt (n := 115) (by rw [List.length_set, List.length_set, List.length_set, List.length_set, List.length_set, List.length_set, List.length_set, List.length_set, List.length_set, List.length_set, List.length_set, p1_n101]) (by decide)) rfl rfl (ab_ov_set rfl) rfl ?_
  refine ab_fin.ret (i := .return_) (k := 1) none (by decide +kernel) rfl ?_
  refine ab_bk.back (pc' := 24) (st' := []) rfl rfl ?_
  refine ab_fin.ret (i := .return_) (k := 1) none (by decide +kernel) rfl ?_
  refine ab_bk.back (pc' := 47) (st' := []) rfl rfl ?_
  refine ab_fin.s2 (i := .aload_n 0) (k := 1) (pc' := 48) (lv' := [(2, .null), (0, .ref 101)]) (st' := [.ref 101]) (by decide +kernel) rfl rfl ?_
  refine ab_fin.call (i := .invokevirtual 372) (k := 3) (y := 5930) (As := [.ref 101]) (rest := []) (M' := (mX23_e, [])) (by decide +kernel) (ab_cv rfl rfl (ab_ov_get (lt0 101 (by decide)) rfl) ⟨(Nat.le_of_ble_eq_true rfl), (Nat.le_of_ble_eq_true rfl)⟩ rfl) rfl (Nat.le_of_ble_eq_true rfl) ?_
  show ab_fin _ _ _ _ 0 [(0, .ref 101)] [] _ _
  refine ab_fin.s2 (i := .aload_n 0) (k := 1) (pc' := 1) (lv' := [(0, .ref 101)]) (st' := [.ref 101]) (by decide +kernel) rfl rfl ?_
  refine ab_fin.call (i := .invokevirtual 420) (k := 3) (y := 5911) (As := [.ref 101]) (rest := []) (M' := (mX23_into, [])) (by decide +kernel) (ab_cv rfl rfl (ab_ov_get (lt0 101 (by decide)) rfl) ⟨(Nat.le_of_ble_eq_true rfl), (Nat.le_of_ble_eq_true rfl)⟩ rfl) rfl (Nat.le_of_ble_eq_true rfl) ?_
  show ab_fin _ _ _ _ 0 [(0, .ref 101)] [] _ _
  refine ab_fin.s2 (i := .aload_n 0) (k := 1) (pc' := 1) (lv' := [(0, .ref 101)]) (st' := [.ref 101]) (by decide +kernel) rfl rfl ?_
  refine ab_fin.getf (ix := 253) (k := 20) (v := .int 0) (pc' := 4) (by decide +kernel) rfl (ab_ov_get (lt0 101 (by decide)) rfl) rfl rfl ?_
  refine ab_fin.s1i (i := .bipush 12) (k := 2) (pc' := 6) (n := 12) (by decide +kernel) rfl (by decide +kernel) rfl ?_
  refine ab_fin.brT (c := ¬ (0 : Int32) = (12 : Int32)) (i := .if_icmp .ne 8) (off := 8) (t := 14) (r := []) (by decide +kernel) rfl (by decide +kernel) (by decide +kernel) ?_
  refine ab_fin.s2 (i := .aload_n 0) (k := 1) (pc' := 15) (lv' := [(0, .ref 101)]) (st' := [.ref 101]) (by decide +kernel) rfl rfl ?_
  refine ab_fin.s1 (i := .dup) (k := 1) (pc' := 16) (st' := [.ref 101, .ref 101]) (by decide +kernel) rfl rfl ?_
  refine ab_fin.getf (ix := 253) (k := 20) (v := .int 0) (pc' := 19) (by decide +kernel) rfl (ab_ov_get (lt0 101 (by decide)) rfl) rfl rfl ?_
  refine ab_fin.s1i (i := .iconst 1) (k := 1) (pc' := 20) (n := 1) (by decide +kernel) rfl (by decide +kernel) rfl ?_
  refine ab_fin.s1i (i := .iadd) (k := 1) (pc' := 21) (n := 1) (by decide +kernel) rfl (by decide +kernel) rfl ?_
  refine ab_fin.putf (ix := 253) (h1 := ab_ov h [(101, .inr (.inr (24, ((((((((((((p1_o101).set 110 (.int 0)).set 10 (.null)).set 34 (.ref 108)).set 33 (.int (-1))).set 32 (.int 0)).set 21 (.int 0)).set 16 (.int 0)).set 23 (.int (-1))).set 24 (.int 0)).set 18 (.int 0)).set 17 (.int 0)).set 20 (.int 1)))), (108, .inr (.inr (22, (p1_o108).set 1 (.int 0)))), (0, .inr (.inr (13, ((p1_o0).set 9 (.int 0)).set 13 (.int 0)))), (40, .inr (.inr (8, ((((((((p1_o40).set 5 (.int (-1))).set 6 (.int 0)).set 7 (.int 0)).set 8 (.int (-1))).set 9 (.int 0)).set 4 (.int 0)).set 3 (.int 0)).set 2 (.int 1)))), (24, .inr (.inr (2, ((p1_o24).set 4 (.int 901)).set 3 (.int 902)))), (27, .inr (.inl (0, .inl (((List.replicate 1804 0).set 0 (0)).set 1 (0))))), (26, .inr (.inl (0, .inl ((List.replicate 1804 0).set 0 (0))))), (25, .inr (.inl (0, .inl ((List.replicate 1804 0).set 0 (25))))), (28, .inr (.inl (0, .inl ((p1_a28).set 3 (0))))), (41, .inr (.inr (9, (p1_o41).set 4 (.int 1)))), (45, .inr (.inl (1, .inr (.inl ((List.replicate 64 0).set 0 (0)))))), (44, .inr (.inl (1, .inr (.inl ((List.replicate 64 0).set 0 (0)))))), (43, .inr (.inl (0, .inl ((List.replicate 64 0).set 0 (0))))), (42, .inr (.inl (0, .inl ((List.replicate 64 0).set 0 (0)))))]) (pc' := 24) (by decide +kernel) rfl (ab_ov_get (lt0 101 (by decide)) rfl) (ab_klt (n := 115) (by rw [List.length_set, List.length_set, List.length_set, List.length_set, List.length_set, List.length_set, List.length_set, List.length_set, List.length_set, List.length_set, List.length_set, List.length_set, p1_n101]) (by decide)) rfl rfl (ab_ov_set rfl) rfl ?_
  refine ab_fin.ret (i := .return_) (k := 1) none (by decide +kernel) rfl ?_
  refine ab_bk.back (pc' := 4) (st' := []) rfl rfl ?_
  refine ab_fin.s2 (i := .aload_n 0) (k := 1) (pc' := 5) (lv' := [(0, .ref 101)]) (st' := [.ref 101]) (by decide +kernel) rfl rfl ?_
  refine ab_fin.getf (ix := 106) (k := 18) (v := .int 0) (pc' := 8) (by decide +kernel) rfl (ab_ov_get (lt0 101 (by decide)) rfl) rfl rfl ?_
  refine ab_fin.s2 (i := .istore_n 1) (k := 1) (pc' := 9) (lv' := [(1, .int 0), (0, .ref 101)]) (st' := []) (by decide +kernel) rfl rfl ?_
  refine ab_fin.s2 (i := .aload_n 0) (k := 1) (pc' := 10) (lv' := [(1, .int 0), (0, .ref 101)]) (st' := [.ref 101]) (by decide +kernel) rfl rfl ?_
  refine ab_fin.s8 (i := .ldc 151) (k := 2) (pc' := 12) (st' := [.retAddr 158, .ref 101]) (by decide +kernel) rfl rfl rfl rfl ?_
  refine ab_fin.call (i := .invokevirtual 266) (k := 3) (y := 5908) (As := [.ref 101, .retAddr 158]) (rest := []) (M' := (mX23_skip, [])) (by decide +kernel) (ab_cv rfl rfl (ab_ov_get (lt0 101 (by decide)) rfl) ⟨(Nat.le_of_ble_eq_true rfl), (Nat.le_of_ble_eq_true rfl)⟩ rfl) rfl (Nat.le_of_ble_eq_true rfl) ?_
  show ab_fin _ _ _ _ 0 [(0, .ref 101), (1, .retAddr 158)] [] _ _
  refine ab_fin.s2 (i := .aload_n 0) (k := 1) (pc' := 1) (lv' := [(0, .ref 101), (1, .retAddr 158)]) (st' := [.ref 101]) (by decide +kernel) rfl rfl ?_
  refine ab_fin.s2 (i := .aload_n 1) (k := 1) (pc' := 2) (lv' := [(0, .ref 101), (1, .retAddr 158)]) (st' := [.retAddr 158, .ref 101]) (by decide +kernel) rfl rfl ?_
  refine ab_fin.call (i := .invokevirtual 242) (k := 3) (y := 5905) (As := [.ref 101, .retAddr 158]) (rest := []) (M' := (mX23_is_, [])) (by decide +kernel) (ab_cv rfl rfl (ab_ov_get (lt0 101 (by decide)) rfl) ⟨(Nat.le_of_ble_eq_true rfl), (Nat.le_of_ble_eq_true rfl)⟩ rfl) rfl (Nat.le_of_ble_eq_true rfl) ?_
  show ab_fin _ _ _ _ 0 [(0, .ref 101), (1, .retAddr 158)] [] _ _
  refine ab_fin.s2 (i := .aload_n 0) (k := 1) (pc' := 1) (lv' := [(0, .ref 101), (1, .retAddr 158)]) (st' := [.ref 101]) (by decide +kernel) rfl rfl ?_
  refine ab_fin.getf (ix := 183) (k := 17) (v := .int 0) (pc' := 4) (by decide +kernel) rfl (ab_ov_get (lt0 101 (by decide)) rfl) rfl rfl ?_
  refine ab_fin.s1i (i := .iconst 1) (k := 1) (pc' := 5) (n := 1) (by decide +kernel) rfl (by decide +kernel) rfl ?_
  refine ab_fin.brT (c := ¬ (0 : Int32) = (1 : Int32)) (i := .if_icmp .ne 18) (off := 18) (t := 23) (r := []) (by decide +kernel) rfl (by decide +kernel) (by decide +kernel) ?_
  refine ab_fin.s1i (i := .iconst 0) (k := 1) (pc' := 24) (n := 0) (by decide +kernel) rfl (by decide +kernel) rfl ?_
  refine ab_fin.ret (i := .ireturn) (k := 1) (some (.int 0)) (by decide +kernel) rfl ?_
  refine ab_bk.back (pc' := 5) (st' := [.int 0]) rfl rfl ?_
  refine ab_fin.brF (c := ¬ (0 : Int32) = 0) (i := .ifCond .ne 5) (off := 5) (t := 10) (pc' := 8) (r := []) (by decide +kernel) rfl (by decide +kernel) rfl (by decide +kernel) ?_
  refine ab_fin.s1i (i := .iconst 0) (k := 1) (pc' := 9) (n := 0) (by decide +kernel) rfl (by decide +kernel) rfl ?_
  refine ab_fin.ret (i := .ireturn) (k := 1) (some (.int 0)) (by decide +kernel) rfl ?_
  refine ab_bk.back (pc' := 15) (st' := [.int 0]) rfl rfl ?_
  refine ab_fin.brT (c := (0 : Int32) = 0) (i := .ifCond .eq 55) (off := 55) (t := 70) (r := []) (by decide +kernel) rfl (by decide +kernel) (by decide +kernel) ?_
  refine ab_fin.s2 (i := .aload_n 0) (k := 1) (pc' := 71) (lv' := [(1, .int 0), (0, .ref 101)]) (st' := [.ref 101]) (by decide +kernel) rfl rfl ?_
  refine ab_fin.s8 (i := .ldc 140) (k := 2) (pc' := 73) (st' := [.retAddr 146, .ref 101]) (by decide +kernel) rfl rfl rfl rfl ?_
  refine ab_fin.call (i := .invokevirtual 266) (k := 3) (y := 5908) (As := [.ref 101, .retAddr 146]) (rest := []) (M' := (mX23_skip, [])) (by decide +kernel) (ab_cv rfl rfl (ab_ov_get (lt0 101 (by decide)) rfl) ⟨(Nat.le_of_ble_eq_true rfl), (Nat.le_of_ble_eq_true rfl)⟩ rfl) rfl (Nat.le_of_ble_eq_true rfl) ?_
  show ab_fin _ _ _ _ 0 [(0, .ref 101), (1, .retAddr 146)] [] _ _
  refine ab_fin.s2 (i := .aload_n 0) (k := 1) (pc' := 1) (lv' := [(0, .ref 101), (1, .retAddr 146)]) (st' := [.ref 101]) (by decide +kernel) rfl rfl ?_
  refine ab_fin.s2 (i := .aload_n 1) (k := 1) (pc' := 2) (lv' := [(0, .ref 101), (1, .retAddr 146)]) (st' := [.retAddr 146, .ref 101]) (by decide +kernel) rfl rfl ?_
  refine ab_fin.call (i := .invokevirtual 242) (k := 3) (y := 5905) (As := [.ref 101, .retAddr 146]) (rest := []) (M' := (mX23_is_, [])) (by decide +kernel) (ab_cv rfl rfl (ab_ov_get (lt0 101 (by decide)) rfl) ⟨(Nat.le_of_ble_eq_true rfl), (Nat.le_of_ble_eq_true rfl)⟩ rfl) rfl (Nat.le_of_ble_eq_true rfl) ?_
  show ab_fin _ _ _ _ 0 [(0, .ref 101), (1, .retAddr 146)] [] _ _
  refine ab_fin.s2 (i := .aload_n 0) (k := 1) (pc' := 1) (lv' := [(0, .ref 101), (1, .retAddr 146)]) (st' := [.ref 101]) (by decide +kernel) rfl rfl ?_
  refine ab_fin.getf (ix := 183) (k := 17) (v := .int 0) (pc' := 4) (by decide +kernel) rfl (ab_ov_get (lt0 101 (by decide)) rfl) rfl rfl ?_
  refine ab_fin.s1i (i := .iconst 1) (k := 1) (pc' := 5) (n := 1) (by decide +kernel) rfl (by decide +kernel) rfl ?_
  refine ab_fin.brT (c := ¬ (0 : Int32) = (1 : Int32)) (i := .if_icmp .ne 18) (off := 18) (t := 23) (r := []) (by decide +kernel) rfl (by decide +kernel) (by decide +kernel) ?_
  refine ab_fin.s1i (i := .iconst 0) (k := 1) (pc' := 24) (n := 0) (by decide +kernel) rfl (by decide +kernel) rfl ?_
  refine ab_fin.ret (i := .ireturn) (k := 1) (some (.int 0)) (by decide +kernel) rfl ?_
  refine ab_bk.back (pc' := 5) (st' := [.int 0]) rfl rfl ?_
  refine ab_fin.brF (c := ¬ (0 : Int32) = 0) (i := .ifCond .ne 5) (off := 5) (t := 10) (pc' := 8) (r := []) (by decide +kernel) rfl (by decide +kernel) rfl (by decide +kernel) ?_
  refine ab_fin.s1i (i := .iconst 0) (k := 1) (pc' := 9) (n := 0) (by decide +kernel) rfl (by decide +kernel) rfl ?_
  refine ab_fin.ret (i := .ireturn) (k := 1) (some (.int 0)) (by decide +kernel) rfl ?_
  refine ab_bk.back (pc' := 76) (st' := [.int 0]) rfl rfl ?_
  refine ab_fin.brT (c := (0 : Int32) = 0) (i := .ifCond .eq 56) (off := 56) (t := 132) (r := []) (by decide +kernel) rfl (by decide +kernel) (by decide +kernel) ?_
  refine ab_fin.s2 (i := .aload_n 0) (k := 1) (pc' := 133) (lv' := [(1, .int 0), (0, .ref 101)]) (st' := [.ref 101]) (by decide +kernel) rfl rfl ?_
  refine ab_fin.s8 (i := .ldc 173) (k := 2) (pc' := 135) (st' := [.retAddr 180, .ref 101]) (by decide +kernel) rfl rfl rfl rfl ?_
  refine ab_fin.call (i := .invokevirtual 242) (k := 3) (y := 5905) (As := [.ref 101, .retAddr 180]) (rest := []) (M' := (mX23_is_, [])) (by decide +kernel) (ab_cv rfl rfl (ab_ov_get (lt0 101 (by decide)) rfl) ⟨(Nat.le_of_ble_eq_true rfl), (Nat.le_of_ble_eq_true rfl)⟩ rfl) rfl (Nat.le_of_ble_eq_true rfl) ?_
  show ab_fin _ _ _ _ 0 [(0, .ref 101), (1, .retAddr 180)] [] _ _
  refine ab_fin.s2 (i := .aload_n 0) (k := 1) (pc' := 1) (lv' := [(0, .ref 101), (1, .retAddr 180)]) (st' := [.ref 101]) (by decide +kernel) rfl rfl ?_
  refine ab_fin.getf (ix := 183) (k := 17) (v := .int 0) (pc' := 4) (by decide +kernel) rfl (ab_ov_get (lt0 101 (by decide)) rfl) rfl rfl ?_
  refine ab_fin.s1i (i := .iconst 1) (k := 1) (pc' := 5) (n := 1) (by decide +kernel) rfl (by decide +kernel) rfl ?_
  refine ab_fin.brT (c := ¬ (0 : Int32) = (1 : Int32)) (i := .if_icmp .ne 18) (off := 18) (t := 23) (r := []) (by decide +kernel) rfl (by decide +kernel) (by decide +kernel) ?_
  refine ab_fin.s1i (i := .iconst 0) (k := 1) (pc' := 24) (n := 0) (by decide +kernel) rfl (by decide +kernel) rfl ?_
  refine ab_fin.ret (i := .ireturn) (k := 1) (some (.int 0)) (by decide +kernel) rfl ?_
  refine ab_bk.back (pc' := 138) (st' := [.int 0]) rfl rfl ?_
  refine ab_fin.brF (c := ¬ (0 : Int32) = 0) (i := .ifCond .ne 12) (off := 12) (t := 150) (pc' := 141) (r := []) (by decide +kernel) rfl (by decide +kernel) rfl (by decide +kernel) ?_
  refine ab_fin.s2 (i := .aload_n 0) (k := 1) (pc' := 142) (lv' := [(1, .int 0), (0, .ref 101)]) (st' := [.ref 101]) (by decide +kernel) rfl rfl ?_
  refine ab_fin.s8 (i := .ldc 175) (k := 2) (pc' := 144) (st' := [.retAddr 182, .ref 101]) (by decide +kernel) rfl rfl rfl rfl ?_
  refine ab_fin.call (i := .invokevirtual 242) (k := 3) (y := 5905) (As := [.ref 101, .retAddr 182]) (rest := []) (M' := (mX23_is_, [])) (by decide +kernel) (ab_cv rfl rfl (ab_ov_get (lt0 101 (by decide)) rfl) ⟨(Nat.le_of_ble_eq_true rfl), (Nat.le_of_ble_eq_true rfl)⟩ rfl) rfl (Nat.le_of_ble_eq_true rfl) ?_
  show ab_fin _ _ _ _ 0 [(0, .ref 101), (1, .retAddr 182)] [] _ _
  refine ab_fin.s2 (i := .aload_n 0) (k := 1) (pc' := 1) (lv' := [(0, .ref 101), (1, .retAddr 182)]) (st' := [.ref 101]) (by decide +kernel) rfl rfl ?_
  refine ab_fin.getf (ix := 183) (k := 17) (v := .int 0) (pc' := 4) (by decide +kernel) rfl (ab_ov_get (lt0 101 (by decide)) rfl) rfl rfl ?_
  refine ab_fin.s1i (i := .iconst 1) (k := 1) (pc' := 5) (n := 1) (by decide +kernel) rfl (by decide +kernel) rfl ?_
  refine ab_fin.brT (c := ¬ (0 : Int32) = (1 : Int32)) (i := .if_icmp .ne 18) (off := 18) (t := 23) (r := []) (by decide +kernel) rfl (by decide +kernel) (by decide +kernel) ?_
  refine ab_fin.s1i (i := .iconst 0) (k := 1) (pc' := 24) (n := 0) (by decide +kernel) rfl (by decide +kernel) rfl ?_
  refine ab_fin.ret (i := .ireturn) (k := 1) (some (.int 0)) (by decide +kernel) rfl ?_
  refine ab_bk.back (pc' := 147) (st' := [.int 0]) rfl rfl ?_
  refine ab_fin.brT (c := (0 : Int32) = 0) (i := .ifCond .eq 81) (off := 81) (t := 228) (r := []) (by decide +kernel) rfl (by decide +kernel) (by decide +kernel) ?_
  refine ab_fin.s2 (i := .aload_n 0) (k := 1) (pc' := 229) (lv' := [(1, .int 0), (0, .ref 101)]) (st' := [.ref 101]) (by decide +kernel) rfl rfl ?_
  refine ab_fin.s8 (i := .ldc 171) (k := 2) (pc' := 231) (st' := [.retAddr 178, .ref 101]) (by decide +kernel) rfl rfl rfl rfl ?_
  refine ab_fin.call (i := .invokevirtual 266) (k := 3) (y := 5908) (As := [.ref 101, .retAddr 178]) (rest := []) (M' := (mX23_skip, [])) (by decide +kernel) (ab_cv rfl rfl (ab_ov_get (lt0 101 (by decide)) rfl) ⟨(Nat.le_of_ble_eq_true rfl), (Nat.le_of_ble_eq_true rfl)⟩ rfl) rfl (Nat.le_of_ble_eq_true rfl) ?_
  show ab_fin _ _ _ _ 0 [(0, .ref 101), (1, .retAddr 178)] [] _ _
  refine ab_fin.s2 (i := .aload_n 0) (k := 1) (pc' := 1) (lv' := [(0, .ref 101), (1, .retAddr 178)]) (st' := [.ref 101]) (by decide +kernel) rfl rfl ?_
  refine ab_fin.s2 (i := .aload_n 1) (k := 1) (pc' := 2) (lv' := [(0, .ref 101), (1, .retAddr 178)]) (st' := [.retAddr 178, .ref 101]) (by decide +kernel) rfl rfl ?_
  refine ab_fin.call (i := .invokevirtual 242) (k := 3) (y := 5905) (As := [.ref 101, .retAddr 178]) (rest := []) (M' := (mX23_is_, [])) (by decide +kernel) (ab_cv rfl rfl (ab_ov_get (lt0 101 (by decide)) rfl) ⟨(Nat.le_of_ble_eq_true rfl), (Nat.le_of_ble_eq_true rfl)⟩ rfl) rfl (Nat.le_of_ble_eq_true rfl) ?_
  show ab_fin _ _ _ _ 0 [(0, .ref 101), (1, .retAddr 178)] [] _ _
  refine ab_fin.s2 (i := .aload_n 0) (k := 1) (pc' := 1) (lv' := [(0, .ref 101), (1, .retAddr 178)]) (st' := [.ref 101]) (by decide +kernel) rfl rfl ?_
  refine ab_fin.getf (ix := 183) (k := 17) (v := .int 0) (pc' := 4) (by decide +kernel) rfl (ab_ov_get (lt0 101 (by decide)) rfl) rfl rfl ?_
  refine ab_fin.s1i (i := .iconst 1) (k := 1) (pc' := 5) (n := 1) (by decide +kernel) rfl (by decide +kernel) rfl ?_
  refine ab_fin.brT (c := ¬ (0 : Int32) = (1 : Int32)) (i := .if_icmp .ne 18) (off := 18) (t := 23) (r := []) (by decide +kernel) rfl (by decide +kernel) (by decide +kernel) ?_
  refine ab_fin.s1i (i := .iconst 0) (k := 1) (pc' := 24) (n := 0) (by decide +kernel) rfl (by decide +kernel) rfl ?_
  refine ab_fin.ret (i := .ireturn) (k := 1) (some (.int 0)) (by decide +kernel) rfl ?_
  refine ab_bk.back (pc' := 5) (st' := [.int 0]) rfl rfl ?_
  refine ab_fin.brF (c := ¬ (0 : Int32) = 0) (i := .ifCond .ne 5) (off := 5) (t := 10) (pc' := 8) (r := []) (by decide +kernel) rfl (by decide +kernel) rfl (by decide +kernel) ?_
  refine ab_fin.s1i (i := .iconst 0) (k := 1) (pc' := 9) (n := 0) (by decide +kernel) rfl (by decide +kernel) rfl ?_
  refine ab_fin.ret (i := .ireturn) (k := 1) (some (.int 0)) (by decide +kernel) rfl ?_
  refine ab_bk.back (pc' := 234) (st' := [.int 0]) rfl rfl ?_
  refine ab_fin.brT (c := (0 : Int32) = 0) (i := .ifCond .eq 55) (off := 55) (t := 289) (r := []) (by decide +kernel) rfl (by decide +kernel) (by decide +kernel) ?_
  refine ab_fin.s2 (i := .aload_n 0) (k := 1) (pc' := 290) (lv' := [(1, .int 0), (0, .ref 101)]) (st' := [.ref 101]) (by decide +kernel) rfl rfl ?_
  refine ab_fin.s8 (i := .ldc 136) (k := 2) (pc' := 292) (st' := [.retAddr 142, .ref 101]) (by decide +kernel) rfl rfl rfl rfl ?_
  refine ab_fin.call (i := .invokevirtual 242) (k := 3) (y := 5905) (As := [.ref 101, .retAddr 142]) (rest := []) (M' := (mX23_is_, [])) (by decide +kernel) (ab_cv rfl rfl (ab_ov_get (lt0 101 (by decide)) rfl) ⟨(Nat.le_of_ble_eq_true rfl), (Nat.le_of_ble_eq_true rfl)⟩ rfl) rfl (Nat.le_of_ble_eq_true rfl) ?_
  show ab_fin _ _ _ _ 0 [(0, .ref 101), (1, .retAddr 142)] [] _ _
  refine ab_fin.s2 (i := .aload_n 0) (k := 1) (pc' := 1) (lv' := [(0, .ref 101), (1, .retAddr 142)]) (st' := [.ref 101]) (by decide +kernel) rfl rfl ?_
  refine ab_fin.getf (ix := 183) (k := 17) (v := .int 0) (pc' := 4) (by decide +kernel) rfl (ab_ov_get (lt0 101 (by decide)) rfl) rfl rfl ?_
  refine ab_fin.s1i (i := .iconst 1) (k := 1) (pc' := 5) (n := 1) (by decide +kernel) rfl (by decide +kernel) rfl ?_
  refine ab_fin.brT (c := ¬ (0 : Int32) = (1 : Int32)) (i := .if_icmp .ne 18) (off := 18) (t := 23) (r := []) (by decide +kernel) rfl (by decide +kernel) (by decide +kernel) ?_
  refine ab_fin.s1i (i := .iconst 0) (k := 1) (pc' := 24) (n := 0) (by decide +kernel) rfl (by decide +kernel) rfl ?_
  refine ab_fin.ret (i := .ireturn) (k := 1) (some (.int 0)) (by decide +kernel) rfl ?_
  refine ab_bk.back (pc' := 295) (st' := [.int 0]) rfl rfl ?_
  refine ab_fin.brF (c := ¬ (0 : Int32) = 0) (i := .ifCond .ne 12) (off := 12) (t := 307) (pc' := 298) (r := []) (by decide +kernel) rfl (by decide +kernel) rfl (by decide +kernel) ?_
  refine ab_fin.s2 (i := .aload_n 0) (k := 1) (pc' := 299) (lv' := [(1, .int 0), (0, .ref 101)]) (st' := [.ref 101]) (by decide +kernel) rfl rfl ?_
  refine ab_fin.s8 (i := .ldc 167) (k := 2) (pc' := 301) (st' := [.retAddr 174, .ref 101]) (by decide +kernel) rfl rfl rfl rfl ?_
  refine ab_fin.call (i := .invokevirtual 242) (k := 3) (y := 5905) (As := [.ref 101, .retAddr 174]) (rest := []) (M' := (mX23_is_, [])) (by decide +kernel) (ab_cv rfl rfl (ab_ov_get (lt0 101 (by decide)) rfl) ⟨(Nat.le_of_ble_eq_true rfl), (Nat.le_of_ble_eq_true rfl)⟩ rfl) rfl (Nat.le_of_ble_eq_true rfl) ?_
  show ab_fin _ _ _ _ 0 [(0, .ref 101), (1, .retAddr 174)] [] _ _
  refine ab_fin.s2 (i := .aload_n 0) (k := 1) (pc' := 1) (lv' := [(0, .ref 101), (1, .retAddr 174)]) (st' := [.ref 101]) (by decide +kernel) rfl rfl ?_
  refine ab_fin.getf (ix := 183) (k := 17) (v := .int 0) (pc' := 4) (by decide +kernel) rfl (ab_ov_get (lt0 101 (by decide)) rfl) rfl rfl ?_
  refine ab_fin.s1i (i := .iconst 1) (k := 1) (pc' := 5) (n := 1) (by decide +kernel) rfl (by decide +kernel) rfl ?_
  refine ab_fin.brT (c := ¬ (0 : Int32) = (1 : Int32)) (i := .if_icmp .ne 18) (off := 18) (t := 23) (r := []) (by decide +kernel) rfl (by decide +kernel) (by decide +kernel) ?_
  refine ab_fin.s1i (i := .iconst 0) (k := 1) (pc' := 24) (n := 0) (by decide +kernel) rfl (by decide +kernel) rfl ?_
  refine ab_fin.ret (i := .ireturn) (k := 1) (some (.int 0)) (by decide +kernel) rfl ?_
  refine ab_bk.back (pc' := 304) (st' := [.int 0]) rfl rfl ?_
  refine ab_fin.brT (c := (0 : Int32) = 0) (i := .ifCond .eq 47) (off := 47) (t := 351) (r := []) (by decide +kernel) rfl (by decide +kernel) (by decide +kernel) ?_
  refine ab_fin.s2 (i := .aload_n 0) (k := 1) (pc' := 352) (lv' := [(1, .int 0), (0, .ref 101)]) (st' := [.ref 101]) (by decide +kernel) rfl rfl ?_
  refine ab_fin.call (i := .invokevirtual 466) (k := 3) (y := 5932) (As := [.ref 101]) (rest := []) (M' := (mX23_compared, [])) (by decide +kernel) (ab_cv rfl rfl (ab_ov_get (lt0 101 (by decide)) rfl) ⟨(Nat.le_of_ble_eq_true rfl), (Nat.le_of_ble_eq_true rfl)⟩ rfl) rfl (Nat.le_of_ble_eq_true rfl) ?_
  show ab_fin _ _ _ _ 0 [(0, .ref 101)] [] _ _
  refine ab_fin.s2 (i := .aload_n 0) (k := 1) (pc' := 1) (lv' := [(0, .ref 101)]) (st' := [.ref 101]) (by decide +kernel) rfl rfl ?_
  refine ab_fin.s1i (i := .iconst 1) (k := 1) (pc' := 2) (n := 1) (by decide +kernel) rfl (by decide +kernel) rfl ?_
  refine ab_fin.call (i := .invokevirtual 469) (k := 3) (y := 5933) (As := [.ref 101, .int 1]) (rest := []) (M' := (mX23_chain, [])) (by decide +kernel) (ab_cv rfl rfl (ab_ov_get (lt0 101 (by decide)) rfl) ⟨(Nat.le_of_ble_eq_true rfl), (Nat.le_of_ble_eq_true rfl)⟩ rfl) rfl (Nat.le_of_ble_eq_true rfl) ?_
  show ab_fin _ _ _ _ 0 [(0, .ref 101), (1, .int 1)] [] _ _
  refine ab_fin.s2 (i := .iload_n 1) (k := 1) (pc' := 1) (lv' := [(0, .ref 101), (1, .int 1)]) (st' := [.int 1]) (by decide +kernel) rfl rfl ?_
  refine ab_fin.brF (c := (1 : Int32) = 0) (i := .ifCond .eq 11) (off := 11) (t := 12) (pc' := 4) (r := []) (by decide +kernel) rfl (by decide +kernel) rfl (by decide +kernel) ?_
  refine ab_fin.s2 (i := .aload_n 0) (k := 1) (pc' := 5) (lv' := [(0, .ref 101), (1, .int 1)]) (st' := [.ref 101]) (by decide +kernel) rfl rfl ?_
  refine ab_fin.s1i (i := .iconst 0) (k := 1) (pc' := 6) (n := 0) (by decide +kernel) rfl (by decide +kernel) rfl ?_
  refine ab_fin.call (i := .invokevirtual 469) (k := 3) (y := 5933) (As := [.ref 101, .int 0]) (rest := []) (M' := (mX23_chain, [])) (by decide +kernel) (ab_cv rfl rfl (ab_ov_get (lt0 101 (by decide)) rfl) ⟨(Nat.le_of_ble_eq_true rfl), (Nat.le_of_ble_eq_true rfl)⟩ rfl) rfl (Nat.le_of_ble_eq_true rfl) ?_
  show ab_fin _ _ _ _ 0 [(0, .ref 101), (1, .int 0)] [] _ _
  refine ab_fin.s2 (i := .iload_n 1) (k := 1) (pc' := 1) (lv' := [(0, .ref 101), (1, .int 0)]) (st' := [.int 0]) (by decide +kernel) rfl rfl ?_
  refine ab_fin.brT (c := (0 : Int32) = 0) (i := .ifCond .eq 11) (off := 11) (t := 12) (r := []) (by decide +kernel) rfl (by decide +kernel) (by decide +kernel) ?_
  refine ab_fin.s2 (i := .aload_n 0) (k := 1) (pc' := 13) (lv' := [(0, .ref 101), (1, .int 0)]) (st' := [.ref 101]) (by decide +kernel) rfl rfl ?_
  refine ab_fin.call (i := .invokevirtual 473) (k := 3) (y := 5934) (As := [.ref 101]) (rest := []) (M' := (mX23_p, [])) (by decide +kernel) (ab_cv rfl rfl (ab_ov_get (lt0 101 (by decide)) rfl) ⟨(Nat.le_of_ble_eq_true rfl), (Nat.le_of_ble_eq_true rfl)⟩ rfl) rfl (Nat.le_of_ble_eq_true rfl) ?_
  show ab_fin _ _ _ _ 0 [(0, .ref 101)] [] _ _
  refine ab_fin.s2 (i := .aload_n 0) (k := 1) (pc' := 1) (lv' := [(0, .ref 101)]) (st' := [.ref 101]) (by decide +kernel) rfl rfl ?_
  refine ab_fin.call (i := .invokevirtual 420) (k := 3) (y := 5911) (As := [.ref 101]) (rest := []) (M' := (mX23_into, [])) (by decide +kernel) (ab_cv rfl rfl (ab_ov_get (lt0 101 (by decide)) rfl) ⟨(Nat.le_of_ble_eq_true rfl), (Nat.le_of_ble_eq_true rfl)⟩ rfl) rfl (Nat.le_of_ble_eq_true rfl) ?_
  show ab_fin _ _ _ _ 0 [(0, .ref 101)] [] _ _
  refine ab_fin.s2 (i := .aload_n 0) (k := 1) (pc' := 1) (lv' := [(0, .ref 101)]) (st' := [.ref 101]) (by decide +kernel) rfl rfl ?_
  refine ab_fin.getf (ix := 253) (k := 20) (v := .int 1) (pc' := 4) (by decide +kernel) rfl (ab_ov_get (lt0 101 (by decide)) rfl) rfl rfl ?_
  refine ab_fin.s1i (i := .bipush 12) (k := 2) (pc' := 6) (n := 12) (by decide +kernel) rfl (by decide +kernel) rfl ?_
  refine ab_fin.brT (c := ¬ (1 : Int32) = (12 : Int32)) (i := .if_icmp .ne 8) (off := 8) (t := 14) (r := []) (by decide +kernel) rfl (by decide +kernel) (by decide +kernel) ?_
  refine ab_fin.s2 (i := .aload_n 0) (k := 1) (pc' := 15) (lv' := [(0, .ref 101)]) (st' := [.ref 101]) (by decide +kernel) rfl rfl ?_
  refine ab_fin.s1 (i := .dup) (k := 1) (pc' := 16) (st' := [.ref 101, .ref 101]) (by decide +kernel) rfl rfl ?_
  refine ab_fin.getf (ix := 253) (k := 20) (v := .int 1) (pc' := 19) (by decide +kernel) rfl (ab_ov_get (lt0 101 (by decide)) rfl) rfl rfl ?_
  refine ab_fin.s1i (i := .iconst 1) (k := 1) (pc' := 20) (n := 1) (by decide +kernel) rfl (by decide +kernel) rfl ?_
  refine ab_fin.s1i (i := .iadd) (k := 1) (pc' := 21) (n := 2) (by decide +kernel) rfl (by decide +kernel) rfl ?_
  refine ab_fin.putf (ix := 253) (h1 := ab_ov h [(101, .inr (.inr (24, ((((((((((((p1_o101).set 110 (.int 0)).set 10 (.null)).set 34 (.ref 108)).set 33 (.int (-1))).set 32 (.int 0)).set 21 (.int 0)).set 16 (.int 0)).set 23 (.int (-1))).set 24 (.int 0)).set 18 (.int 0)).set 17 (.int 0)).set 20 (.int 2)))), (108, .inr (.inr (22, (p1_o108).set 1 (.int 0)))), (0, .inr (.inr (13, ((p1_o0).set 9 (.int 0)).set 13 (.int 0)))), (40, .inr (.inr (8, ((((((((p1_o40).set 5 (.int (-1))).set 6 (.int 0)).set 7 (.int 0)).set 8 (.int (-1))).set 9 (.int 0)).set 4 (.int 0)).set 3 (.int 0)).set 2 (.int 1)))), (24, .inr (.inr (2, ((p1_o24).set 4 (.int 901)).set 3 (.int 902)))), (27, .inr (.inl (0, .inl (((List.replicate 1804 0).set 0 (0)).set 1 (0))))), (26, .inr (.inl (0, .inl ((List.replicate 1804 0).set 0 (0))))), (25, .inr (.inl (0, .inl ((List.replicate 1804 0).set 0 (25))))), (28, .inr (.inl (0, .inl ((p1_a28).set 3 (0))))), (41, .inr (.inr (9, (p1_o41).set 4 (.int 1)))), (45, .inr (.inl (1, .inr (.inl ((List.replicate 64 0).set 0 (0)))))), (44, .inr (.inl (1, .inr (.inl ((List.replicate 64 0).set 0 (0)))))), (43, .inr (.inl (0, .inl ((List.replicate 64 0).set 0 (0))))), (42, .inr (.inl (0, .inl ((List.replicate 64 0).set 0 (0)))))]) (pc' := 24) (by decide +kernel) rfl (ab_ov_get (lt0 101 (by decide)) rfl) (ab_klt (n := 115) (by rw [List.length_set, List.length_set, List.length_set, List.length_set, List.length_set, List.length_set, List.length_set, List.length_set, List.length_set, List.length_set, List.length_set, List.length_set, p1_n101]) (by decide)) rfl rfl (ab_ov_set rfl) rfl ?_
  refine ab_fin.ret (i := .return_) (k := 1) none (by decide +kernel) rfl ?_
  refine ab_bk.back (pc' := 4) (st' := []) rfl rfl ?_
  refine ab_fin.s2 (i := .aload_n 0) (k := 1) (pc' := 5) (lv' := [(0, .ref 101)]) (st' := [.ref 101]) (by decide +kernel) rfl rfl ?_
  refine ab_fin.getf (ix := 106) (k := 18) (v := .int 0) (pc' := 8) (by decide +kernel) rfl (ab_ov_get (lt0 101 (by decide)) rfl) rfl rfl ?_
  refine ab_fin.s2 (i := .istore_n 1) (k := 1) (pc' := 9) (lv' := [(1, .int 0), (0, .ref 101)]) (st' := []) (by decide +kernel) rfl rfl ?_
  refine ab_fin.s2 (i := .aload_n 0) (k := 1) (pc' := 10) (lv' := [(1, .int 0), (0, .ref 101)]) (st' := [.ref 101]) (by decide +kernel) rfl rfl ?_
  refine ab_fin.getf (ix := 183) (k := 17) (v := .int 0) (pc' := 13) (by decide +kernel) rfl (ab_ov_get (lt0 101 (by decide)) rfl) rfl rfl ?_
  refine ab_fin.s1i (i := .iconst 3) (k := 1) (pc' := 14) (n := 3) (by decide +kernel) rfl (by decide +kernel) rfl ?_
  refine ab_fin.brF (c := (0 : Int32) = (3 : Int32)) (i := .if_icmp .eq 12) (off := 12) (t := 26) (pc' := 17) (r := []) (by decide +kernel) rfl (by decide +kernel) rfl (by decide +kernel) ?_
  refine ab_fin.s2 (i := .aload_n 0) (k := 1) (pc' := 18) (lv' := [(1, .int 0), (0, .ref 101)]) (st' := [.ref 101]) (by decide +kernel) rfl rfl ?_
  refine ab_fin.s1i (i := .bipush 45) (k := 2) (pc' := 20) (n := 45) (by decide +kernel) rfl (by decide +kernel) rfl ?_
  refine ab_fin.call (i := .invokevirtual 233) (k := 3) (y := 5904) (As := [.ref 101, .int 45]) (rest := []) (M' := (mX23_is, [])) (by decide +kernel) (ab_cv rfl rfl (ab_ov_get (lt0 101 (by decide)) rfl) ⟨(Nat.le_of_ble_eq_true rfl), (Nat.le_of_ble_eq_true rfl)⟩ rfl) rfl (Nat.le_of_ble_eq_true rfl) ?_
  show ab_fin _ _ _ _ 0 [(0, .ref 101), (1, .int 45)] [] _ _
  refine ab_fin.s2 (i := .aload_n 0) (k := 1) (pc' := 1) (lv' := [(0, .ref 101), (1, .int 45)]) (st' := [.ref 101]) (by decide +kernel) rfl rfl ?_
  refine ab_fin.getf (ix := 183) (k := 17) (v := .int 0) (pc' := 4) (by decide +kernel) rfl (ab_ov_get (lt0 101 (by decide)) rfl) rfl rfl ?_
  refine ab_fin.s1i (i := .iconst 4) (k := 1) (pc' := 5) (n := 4) (by decide +kernel) rfl (by decide +kernel) rfl ?_
  refine ab_fin.brT (c := ¬ (0 : Int32) = (4 : Int32)) (i := .if_icmp .ne 15) (off := 15) (t := 20) (r := []) (by decide +kernel) rfl (by decide +kernel) (by decide +kernel) ?_
  refine ab_fin.s1i (i := .iconst 0) (k := 1) (pc' := 21) (n := 0) (by decide +kernel) rfl (by decide +kernel) rfl ?_
  refine ab_fin.ret (i := .ireturn) (k := 1) (some (.int 0)) (by decide +kernel) rfl ?_
  refine ab_bk.back (pc' := 23) (st' := [.int 0]) rfl rfl ?_
  refine ab_fin.brT (c := (0 : Int32) = 0) (i := .ifCond .eq 29) (off := 29) (t := 52) (r := []) (by decide +kernel) rfl (by decide +kernel) (by decide +kernel) ?_
  refine ab_fin.s2 (i := .aload_n 0) (k := 1) (pc' := 53) (lv' := [(1, .int 0), (0, .ref 101)]) (st' := [.ref 101]) (by decide +kernel) rfl rfl ?_
  refine ab_fin.getf (ix := 183) (k := 17) (v := .int 0) (pc' := 56) (by decide +kernel) rfl (ab_ov_get (lt0 101 (by decide)) rfl) rfl rfl ?_
  refine ab_fin.s1i (i := .iconst 2) (k := 1) (pc' := 57) (n := 2) (by decide +kernel) rfl (by decide +kernel) rfl ?_
  refine ab_fin.brT (c := ¬ (0 : Int32) = (2 : Int32)) (i := .if_icmp .ne 17) (off := 17) (t := 74) (r := []) (by decide +kernel) rfl (by decide +kernel) (by decide +kernel) ?_
  refine ab_fin.s2 (i := .aload_n 0) (k := 1) (pc' := 75) (lv' := [(1, .int 0), (0, .ref 101)]) (st' := [.ref 101]) (by decide +kernel) rfl rfl ?_
  refine ab_fin.s8 (i := .ldc 159) (k := 2) (pc' := 77) (st' := [.retAddr 166, .ref 101]) (by decide +kernel) rfl rfl rfl rfl ?_
  refine ab_fin.call (i := .invokevirtual 266) (k := 3) (y := 5908) (As := [.ref 101, .retAddr 166]) (rest := []) (M' := (mX23_skip, [])) (by decide +kernel) (ab_cv rfl rfl (ab_ov_get (lt0 101 (by decide)) rfl) ⟨(Nat.le_of_ble_eq_true rfl), (Nat.le_of_ble_eq_true rfl)⟩ rfl) rfl (Nat.le_of_ble_eq_true rfl) ?_
  show ab_fin _ _ _ _ 0 [(0, .ref 101), (1, .retAddr 166)] [] _ _
  refine ab_fin.s2 (i := .aload_n 0) (k := 1) (pc' := 1) (lv' := [(0, .ref 101), (1, .retAddr 166)]) (st' := [.ref 101]) (by decide +kernel) rfl rfl ?_
  refine ab_fin.s2 (i := .aload_n 1) (k := 1) (pc' := 2) (lv' := [(0, .ref 101), (1, .retAddr 166)]) (st' := [.retAddr 166, .ref 101]) (by decide +kernel) rfl rfl ?_
  refine ab_fin.call (i := .invokevirtual 242) (k := 3) (y := 5905) (As := [.ref 101, .retAddr 166]) (rest := []) (M' := (mX23_is_, [])) (by decide +kernel) (ab_cv rfl rfl (ab_ov_get (lt0 101 (by decide)) rfl) ⟨(Nat.le_of_ble_eq_true rfl), (Nat.le_of_ble_eq_true rfl)⟩ rfl) rfl (Nat.le_of_ble_eq_true rfl) ?_
  show ab_fin _ _ _ _ 0 [(0, .ref 101), (1, .retAddr 166)] [] _ _
  refine ab_fin.s2 (i := .aload_n 0) (k := 1) (pc' := 1) (lv' := [(0, .ref 101), (1, .retAddr 166)]) (st' := [.ref 101]) (by decide +kernel) rfl rfl ?_
  refine ab_fin.getf (ix := 183) (k := 17) (v := .int 0) (pc' := 4) (by decide +kernel) rfl (ab_ov_get (lt0 101 (by decide)) rfl) rfl rfl ?_
  refine ab_fin.s1i (i := .iconst 1) (k := 1) (pc' := 5) (n := 1) (by decide +kernel) rfl (by decide +kernel) rfl ?_
  refine ab_fin.brT (c := ¬ (0 : Int32) = (1 : Int32)) (i := .if_icmp .ne 18) (off := 18) (t := 23) (r := []) (by decide +kernel) rfl (by decide +kernel) (by decide +kernel) ?_
  refine ab_fin.s1i (i := .iconst 0) (k := 1) (pc' := 24) (n := 0) (by decide +kernel) rfl (by decide +kernel) rfl ?_
  refine ab_fin.ret (i := .ireturn) (k := 1) (some (.int 0)) (by decide +kernel) rfl ?_
  refine ab_bk.back (pc' := 5) (st' := [.int 0]) rfl rfl ?_
  refine ab_fin.brF (c := ¬ (0 : Int32) = 0) (i := .ifCond .ne 5) (off := 5) (t := 10) (pc' := 8) (r := []) (by decide +kernel) rfl (by decide +kernel) rfl (by decide +kernel) ?_
  refine ab_fin.s1i (i := .iconst 0) (k := 1) (pc' := 9) (n := 0) (by decide +kernel) rfl (by decide +kernel) rfl ?_
  refine ab_fin.ret (i := .ireturn) (k := 1) (some (.int 0)) (by decide +kernel) rfl ?_
  refine ab_bk.back (pc' := 80) (st' := [.int 0]) rfl rfl ?_
  refine ab_fin.brT (c := (0 : Int32) = 0) (i := .ifCond .eq 72) (off := 72) (t := 152) (r := []) (by decide +kernel) rfl (by decide +kernel) (by decide +kernel) ?_
  refine ab_fin.s2 (i := .aload_n 0) (k := 1) (pc' := 153) (lv' := [(1, .int 0), (0, .ref 101)]) (st' := [.ref 101]) (by decide +kernel) rfl rfl ?_
  refine ab_fin.s1i (i := .bipush 35) (k := 2) (pc' := 155) (n := 35) (by decide +kernel) rfl (by decide +kernel) rfl ?_
  refine ab_fin.call (i := .invokevirtual 233) (k := 3) (y := 5904) (As := [.ref 101, .int 35]) (rest := []) (M' := (mX23_is, [])) (by decide +kernel) (ab_cv rfl rfl (ab_ov_get (lt0 101 (by decide)) rfl) ⟨(Nat.le_of_ble_eq_true rfl), (Nat.le_of_ble_eq_true rfl)⟩ rfl) rfl (Nat.le_of_ble_eq_true rfl) ?_
  show ab_fin _ _ _ _ 0 [(0, .ref 101), (1, .int 35)] [] _ _
  refine ab_fin.s2 (i := .aload_n 0) (k := 1) (pc' := 1) (lv' := [(0, .ref 101), (1, .int 35)]) (st' := [.ref 101]) (by decide +kernel) rfl rfl ?_
  refine ab_fin.getf (ix := 183) (k := 17) (v := .int 0) (pc' := 4) (by decide +kernel) rfl (ab_ov_get (lt0 101 (by decide)) rfl) rfl rfl ?_
  refine ab_fin.s1i (i := .iconst 4) (k := 1) (pc' := 5) (n := 4) (by decide +kernel) rfl (by decide +kernel) rfl ?_
  refine ab_fin.brT (c := ¬ (0 : Int32) = (4 : Int32)) (i := .if_icmp .ne 15) (off := 15) (t := 20) (r := []) (by decide +kernel) rfl (by decide +kernel) (by decide +kernel) ?_
  refine ab_fin.s1i (i := .iconst 0) (k := 1) (pc' := 21) (n := 0) (by decide +kernel) rfl (by decide +kernel) rfl ?_
  refine ab_fin.ret (i := .ireturn) (k := 1) (some (.int 0)) (by decide +kernel) rfl ?_
  refine ab_bk.back (pc' := 158) (st' := [.int 0]) rfl rfl ?_
  refine ab_fin.brT (c := (0 : Int32) = 0) (i := .ifCond .eq 33) (off := 33) (t := 191) (r := []) (by decide +kernel) rfl (by decide +kernel) (by decide +kernel) ?_
  refine ab_fin.s2 (i := .aload_n 0) (k := 1) (pc' := 192) (lv' := [(1, .int 0), (0, .ref 101)]) (st' := [.ref 101]) (by decide +kernel) rfl rfl ?_
  refine ab_fin.s1i (i := .bipush 40) (k := 2) (pc' := 194) (n := 40) (by decide +kernel) rfl (by decide +kernel) rfl ?_
  refine ab_fin.call (i := .invokevirtual 293) (k := 3) (y := 5906) (As := [.ref 101, .int 40]) (rest := []) (M' := (mX23_want, [])) (by decide +kernel) (ab_cv rfl rfl (ab_ov_get (lt0 101 (by decide)) rfl) ⟨(Nat.le_of_ble_eq_true rfl), (Nat.le_of_ble_eq_true rfl)⟩ rfl) rfl (Nat.le_of_ble_eq_true rfl) ?_
  show ab_fin _ _ _ _ 0 [(0, .ref 101), (1, .int 40)] [] _ _
  refine ab_fin.s2 (i := .aload_n 0) (k := 1) (pc' := 1) (lv' := [(0, .ref 101), (1, .int 40)]) (st' := [.ref 101]) (by decide +kernel) rfl rfl ?_
  refine ab_fin.s2 (i := .iload_n 1) (k := 1) (pc' := 2) (lv' := [(0, .ref 101), (1, .int 40)]) (st' := [.int 40, .ref 101]) (by decide +kernel) rfl rfl ?_
  refine ab_fin.call (i := .invokevirtual 233) (k := 3) (y := 5904) (As := [.ref 101, .int 40]) (rest := []) (M' := (mX23_is, [])) (by decide +kernel) (ab_cv rfl rfl (ab_ov_get (lt0 101 (by decide)) rfl) ⟨(Nat.le_of_ble_eq_true rfl), (Nat.le_of_ble_eq_true rfl)⟩ rfl) rfl (Nat.le_of_ble_eq_true rfl) ?_
  show ab_fin _ _ _ _ 0 [(0, .ref 101), (1, .int 40)] [] _ _
  refine ab_fin.s2 (i := .aload_n 0) (k := 1) (pc' := 1) (lv' := [(0, .ref 101), (1, .int 40)]) (st' := [.ref 101]) (by decide +kernel) rfl rfl ?_
  refine ab_fin.getf (ix := 183) (k := 17) (v := .int 0) (pc' := 4) (by decide +kernel) rfl (ab_ov_get (lt0 101 (by decide)) rfl) rfl rfl ?_
  refine ab_fin.s1i (i := .iconst 4) (k := 1) (pc' := 5) (n := 4) (by decide +kernel) rfl (by decide +kernel) rfl ?_
  refine ab_fin.brT (c := ¬ (0 : Int32) = (4 : Int32)) (i := .if_icmp .ne 15) (off := 15) (t := 20) (r := []) (by decide +kernel) rfl (by decide +kernel) (by decide +kernel) ?_
  refine ab_fin.s1i (i := .iconst 0) (k := 1) (pc' := 21) (n := 0) (by decide +kernel) rfl (by decide +kernel) rfl ?_
  refine ab_fin.ret (i := .ireturn) (k := 1) (some (.int 0)) (by decide +kernel) rfl ?_
  refine ab_bk.back (pc' := 5) (st' := [.int 0]) rfl rfl ?_
  refine ab_fin.brF (c := ¬ (0 : Int32) = 0) (i := .ifCond .ne 8) (off := 8) (t := 13) (pc' := 8) (r := []) (by decide +kernel) rfl (by decide +kernel) rfl (by decide +kernel) ?_
  refine ab_fin.s2 (i := .aload_n 0) (k := 1) (pc' := 9) (lv' := [(0, .ref 101), (1, .int 40)]) (st' := [.ref 101]) (by decide +kernel) rfl rfl ?_
  refine ab_fin.call (i := .invokevirtual 235) (k := 3) (y := 5903) (As := [.ref 101]) (rest := []) (M' := (mX23_no, [])) (by decide +kernel) (ab_cv rfl rfl (ab_ov_get (lt0 101 (by decide)) rfl) ⟨(Nat.le_of_ble_eq_true rfl), (Nat.le_of_ble_eq_true rfl)⟩ rfl) rfl (Nat.le_of_ble_eq_true rfl) ?_
  show ab_fin _ _ _ _ 0 [(0, .ref 101)] [] _ _
  refine ab_fin.newO (ix := 223) (n := 3467) (pc' := 3) (by decide +kernel) rfl ((ab_ov_len _ _).trans hl) (ab_ov_app (by rw [hl]; decide +kernel)) rfl ?_
  obtain ⟨h1, e1⟩ : ∃ h2 : List ab_E, h2 = h ++ [.inr (.inr (23, [.null, .null, .null, .null, .null, .int 0, .int 0]))] := ⟨_, rfl⟩
  have hl1 : h1.length = 3468 := by rw [e1, List.length_append, hl]; rfl
  have lt1 : ∀ a, a < 3468 → a < h1.length := fun a q => by rw [hl1]; exact q
  have hz1 : ab_z h1 = ab_z h + 7 := by rw [e1, ab_z_app]; rfl
  have f1_0 := (show h1[0]? = h[0]? by rw [e1, List.getElem?_append_left (by rw [hl]; decide)]).trans f_0
  have f1_1 := (show h1[1]? = h[1]? by rw [e1, List.getElem?_append_left (by rw [hl]; decide)]).trans f_1
  have f1_24 := (show h1[24]? = h[24]? by rw [e1, List.getElem?_append_left (by rw [hl]; decide)]).trans f_24
  have f1_25 := (show h1[25]? = h[25]? by rw [e1, List.getElem?_append_left (by rw [hl]; decide)]).trans f_25
  have f1_26 := (show h1[26]? = h[26]? by rw [e1, List.getElem?_append_left (by rw [hl]; decide)]).trans f_26
  have f1_27 := (show h1[27]? = h[27]? by rw [e1, List.getElem?_append_left (by rw [hl]; decide)]).trans f_27
  have f1_28 := (show h1[28]? = h[28]? by rw [e1, List.getElem?_append_left (by rw [hl]; decide)]).trans f_28
  have f1_40 := (show h1[40]? = h[40]? by rw [e1, List.getElem?_append_left (by rw [hl]; decide)]).trans f_40
  have f1_41 := (show h1[41]? = h[41]? by rw [e1, List.getElem?_append_left (by rw [hl]; decide)]).trans f_41
  have f1_42 := (show h1[42]? = h[42]? by rw [e1, List.getElem?_append_left (by rw [hl]; decide)]).trans f_42
  have f1_43 := (show h1[43]? = h[43]? by rw [e1, List.getElem?_append_left (by rw [hl]; decide)]).trans f_43
  have f1_44 := (show h1[44]? = h[44]? by rw [e1, List.getElem?_append_left (by rw [hl]; decide)]).trans f_44
  have f1_45 := (show h1[45]? = h[45]? by rw [e1, List.getElem?_append_left (by rw [hl]; decide)]).trans f_45
  have f1_101 := (show h1[101]? = h[101]? by rw [e1, List.getElem?_append_left (by rw [hl]; decide)]).trans f_101
  have f1_108 := (show h1[108]? = h[108]? by rw [e1, List.getElem?_append_left (by rw [hl]; decide)]).trans f_108
  have f1_3467 : h1[3467]? = some _ := by rw [e1]; exact (List.getElem?_append_right (by rw [hl])).trans (by rw [hl]; rfl)
  rw [← e1]
  refine ab_fin.s1 (i := .dup) (k := 1) (pc' := 4) (st' := [.ref 3467, .ref 3467]) (by decide +kernel) rfl rfl ?_
  refine ab_fin.s2 (i := .aload_n 0) (k := 1) (pc' := 5) (lv' := [(0, .ref 101)]) (st' := [.ref 101, .ref 3467, .ref 3467]) (by decide +kernel) rfl rfl ?_
  refine ab_fin.getf (ix := 106) (k := 18) (v := .int 0) (pc' := 8) (by decide +kernel) rfl (ab_ov_get (lt1 101 (by decide)) rfl) rfl rfl ?_
  refine ab_fin.call (i := .invokespecial 225) (k := 3) (y := 5632) (As := [.ref 3467, .int 0]) (rest := [.ref 3467]) (M' := (mX22_init, [])) (by decide +kernel) (ab_ci (Or.inl rfl) rfl rfl ⟨(Nat.le_of_ble_eq_true rfl), (Nat.le_of_ble_eq_true rfl)⟩ rfl) rfl (Nat.le_of_ble_eq_true rfl) ?_
  show ab_fin _ _ _ _ 0 [(0, .ref 3467), (1, .int 0)] [] _ _
  refine ab_fin.s2 (i := .aload_n 0) (k := 1) (pc' := 1) (lv' := [(0, .ref 3467), (1, .int 0)]) (st' := [.ref 3467]) (by decide +kernel) rfl rfl ?_
  refine ab_fin.s1 (i := .aconst_null) (k := 1) (pc' := 2) (st' := [.null, .ref 3467]) (by decide +kernel) rfl rfl ?_
  refine ab_fin.s1 (i := .aconst_null) (k := 1) (pc' := 3) (st' := [.null, .null, .ref 3467]) (by decide +kernel) rfl rfl ?_
  refine ab_fin.s1i (i := .iconst 0) (k := 1) (pc' := 4) (n := 0) (by decide +kernel) rfl (by decide +kernel) rfl ?_
  refine ab_fin.s1i (i := .iconst 0) (k := 1) (pc' := 5) (n := 0) (by decide +kernel) rfl (by decide +kernel) rfl ?_
  refine ab_fin.call (i := .invokespecial 1) (k := 3) (y := 16896) (As := [.ref 3467, .null, .null, .int 0, .int 0]) (rest := []) (M' := (mZR22_init, [])) (by decide +kernel) (ab_ci (Or.inl rfl) rfl rfl ⟨(Nat.le_of_ble_eq_true rfl), (Nat.le_of_ble_eq_true rfl)⟩ rfl) rfl (Nat.le_of_ble_eq_true rfl) ?_
  show ab_fin _ _ _ _ 0 [(0, .ref 3467), (1, .null), (2, .null), (3, .int 0), (4, .int 0)] [] _ _
  refine ab_fin.s2 (i := .aload_n 0) (k := 1) (pc' := 1) (lv' := [(0, .ref 3467), (1, .null), (2, .null), (3, .int 0), (4, .int 0)]) (st' := [.ref 3467]) (by decide +kernel) rfl rfl ?_
  refine ab_fin.s2 (i := .aload_n 1) (k := 1) (pc' := 2) (lv' := [(0, .ref 3467), (1, .null), (2, .null), (3, .int 0), (4, .int 0)]) (st' := [.null, .ref 3467]) (by decide +kernel) rfl rfl ?_
  refine ab_fin.s2 (i := .aload_n 2) (k := 1) (pc' := 3) (lv' := [(0, .ref 3467), (1, .null), (2, .null), (3, .int 0), (4, .int 0)]) (st' := [.null, .null, .ref 3467]) (by decide +kernel) rfl rfl ?_
  refine ab_fin.s2 (i := .iload_n 3) (k := 1) (pc' := 4) (lv' := [(0, .ref 3467), (1, .null), (2, .null), (3, .int 0), (4, .int 0)]) (st' := [.int 0, .null, .null, .ref 3467]) (by decide +kernel) rfl rfl ?_
  refine ab_fin.s2 (i := .iload 4) (k := 2) (pc' := 6) (lv' := [(0, .ref 3467), (1, .null), (2, .null), (3, .int 0), (4, .int 0)]) (st' := [.int 0, .int 0, .null, .null, .ref 3467]) (by decide +kernel) rfl rfl ?_
  refine ab_fin.call (i := .invokespecial 16) (k := 3) (y := 17152) (As := [.ref 3467, .null, .null, .int 0, .int 0]) (rest := []) (M' := (mZE22_init, [])) (by decide +kernel) (ab_ci (Or.inl rfl) rfl rfl ⟨(Nat.le_of_ble_eq_true rfl), (Nat.le_of_ble_eq_true rfl)⟩ rfl) rfl (Nat.le_of_ble_eq_true rfl) ?_
  show ab_fin _ _ _ _ 0 [(0, .ref 3467), (1, .null), (2, .null), (3, .int 0), (4, .int 0)] [] _ _
  refine ab_fin.s2 (i := .aload_n 0) (k := 1) (pc' := 1) (lv' := [(0, .ref 3467), (1, .null), (2, .null), (3, .int 0), (4, .int 0)]) (st' := [.ref 3467]) (by decide +kernel) rfl rfl ?_
  refine ab_fin.s2 (i := .aload_n 1) (k := 1) (pc' := 2) (lv' := [(0, .ref 3467), (1, .null), (2, .null), (3, .int 0), (4, .int 0)]) (st' := [.null, .ref 3467]) (by decide +kernel) rfl rfl ?_
  refine ab_fin.s2 (i := .aload_n 2) (k := 1) (pc' := 3) (lv' := [(0, .ref 3467), (1, .null), (2, .null), (3, .int 0), (4, .int 0)]) (st' := [.null, .null, .ref 3467]) (by decide +kernel) rfl rfl ?_
  refine ab_fin.s2 (i := .iload_n 3) (k := 1) (pc' := 4) (lv' := [(0, .ref 3467), (1, .null), (2, .null), (3, .int 0), (4, .int 0)]) (st' := [.int 0, .null, .null, .ref 3467]) (by decide +kernel) rfl rfl ?_
  refine ab_fin.s2 (i := .iload 4) (k := 2) (pc' := 6) (lv' := [(0, .ref 3467), (1, .null), (2, .null), (3, .int 0), (4, .int 0)]) (st' := [.int 0, .int 0, .null, .null, .ref 3467]) (by decide +kernel) rfl rfl ?_
  refine ab_fin.call (i := .invokespecial 16) (k := 3) (y := 17408) (As := [.ref 3467, .null, .null, .int 0, .int 0]) (rest := []) (M' := (mZT22_init, [])) (by decide +kernel) (ab_ci (Or.inl rfl) rfl rfl ⟨(Nat.le_of_ble_eq_true rfl), (Nat.le_of_ble_eq_true rfl)⟩ rfl) rfl (Nat.le_of_ble_eq_true rfl) ?_
  show ab_fin _ _ _ _ 0 [(0, .ref 3467), (1, .null), (2, .null), (3, .int 0), (4, .int 0)] [] _ _
  refine ab_fin.s2 (i := .aload_n 0) (k := 1) (pc' := 1) (lv' := [(0, .ref 3467), (1, .null), (2, .null), (3, .int 0), (4, .int 0)]) (st' := [.ref 3467]) (by decide +kernel) rfl rfl ?_
  refine ab_fin.obi (i := .invokespecial 1) (k := 3) (pc' := 4) (by decide +kernel) rfl rfl ?_
  refine ab_fin.s2 (i := .aload_n 0) (k := 1) (pc' := 5) (lv' := [(0, .ref 3467), (1, .null), (2, .null), (3, .int 0), (4, .int 0)]) (st' := [.ref 3467]) (by decide +kernel) rfl rfl ?_
  refine ab_fin.s2 (i := .aload_n 0) (k := 1) (pc' := 6) (lv' := [(0, .ref 3467), (1, .null), (2, .null), (3, .int 0), (4, .int 0)]) (st' := [.ref 3467, .ref 3467]) (by decide +kernel) rfl rfl ?_
  refine ab_fin.putf (ix := 7) (h1 := ab_ov h1 [(3467, .inr (.inr (23, ([.null, .null, .null, .null, .null, .int 0, .int 0]).set 0 (.ref 3467)))), (101, .inr (.inr (24, ((((((((((((p1_o101).set 110 (.int 0)).set 10 (.null)).set 34 (.ref 108)).set 33 (.int (-1))).set 32 (.int 0)).set 21 (.int 0)).set 16 (.int 0)).set 23 (.int (-1))).set 24 (.int 0)).set 18 (.int 0)).set 17 (.int 0)).set 20 (.int 2)))), (108, .inr (.inr (22, (p1_o108).set 1 (.int 0)))), (0, .inr (.inr (13, ((p1_o0).set 9 (.int 0)).set 13 (.int 0)))), (40, .inr (.inr (8, ((((((((p1_o40).set 5 (.int (-1))).set 6 (.int 0)).set 7 (.int 0)).set 8 (.int (-1))).set 9 (.int 0)).set 4 (.int 0)).set 3 (.int 0)).set 2 (.int 1)))), (24, .inr (.inr (2, ((p1_o24).set 4 (.int 901)).set 3 (.int 902)))), (27, .inr (.inl (0, .inl (((List.replicate 1804 0).set 0 (0)).set 1 (0))))), (26, .inr (.inl (0, .inl ((List.replicate 1804 0).set 0 (0))))), (25, .inr (.inl (0, .inl ((List.replicate 1804 0).set 0 (25))))), (28, .inr (.inl (0, .inl ((p1_a28).set 3 (0))))), (41, .inr (.inr (9, (p1_o41).set 4 (.int 1)))), (45, .inr (.inl (1, .inr (.inl ((List.replicate 64 0).set 0 (0)))))), (44, .inr (.inl (1, .inr (.inl ((List.replicate 64 0).set 0 (0)))))), (43, .inr (.inl (0, .inl ((List.replicate 64 0).set 0 (0))))), (42, .inr (.inl (0, .inl ((List.replicate 64 0).set 0 (0)))))]) (pc' := 9) (by decide +kernel) rfl (ab_ov_no f1_3467 rfl) (ab_klt (n := 7) rfl (by decide)) rfl rfl (ab_ov_set rfl) rfl ?_
  refine ab_fin.s2 (i := .aload_n 0) (k := 1) (pc' := 10) (lv' := [(0, .ref 3467), (1, .null), (2, .null), (3, .int 0), (4, .int 0)]) (st' := [.ref 3467]) (by decide +kernel) rfl rfl ?_
  refine ab_fin.s8 (i := .getstatic 13) (k := 3) (pc' := 13) (st' := [z5, .ref 3467]) (by decide +kernel) rfl rfl rfl rfl ?_
  refine ab_fin.putf (ix := 17) (h1 := ab_ov h1 [(3467, .inr (.inr (23, (([.null, .null, .null, .null, .null, .int 0, .int 0]).set 0 (.ref 3467)).set 1 (z5)))), (101, .inr (.inr (24, ((((((((((((p1_o101).set 110 (.int 0)).set 10 (.null)).set 34 (.ref 108)).set 33 (.int (-1))).set 32 (.int 0)).set 21 (.int 0)).set 16 (.int 0)).set 23 (.int (-1))).set 24 (.int 0)).set 18 (.int 0)).set 17 (.int 0)).set 20 (.int 2)))), (108, .inr (.inr (22, (p1_o108).set 1 (.int 0)))), (0, .inr (.inr (13, ((p1_o0).set 9 (.int 0)).set 13 (.int 0)))), (40, .inr (.inr (8, ((((((((p1_o40).set 5 (.int (-1))).set 6 (.int 0)).set 7 (.int 0)).set 8 (.int (-1))).set 9 (.int 0)).set 4 (.int 0)).set 3 (.int 0)).set 2 (.int 1)))), (24, .inr (.inr (2, ((p1_o24).set 4 (.int 901)).set 3 (.int 902)))), (27, .inr (.inl (0, .inl (((List.replicate 1804 0).set 0 (0)).set 1 (0))))), (26, .inr (.inl (0, .inl ((List.replicate 1804 0).set 0 (0))))), (25, .inr (.inl (0, .inl ((List.replicate 1804 0).set 0 (25))))), (28, .inr (.inl (0, .inl ((p1_a28).set 3 (0))))), (41, .inr (.inr (9, (p1_o41).set 4 (.int 1)))), (45, .inr (.inl (1, .inr (.inl ((List.replicate 64 0).set 0 (0)))))), (44, .inr (.inl (1, .inr (.inl ((List.replicate 64 0).set 0 (0)))))), (43, .inr (.inl (0, .inl ((List.replicate 64 0).set 0 (0))))), (42, .inr (.inl (0, .inl ((List.replicate 64 0).set 0 (0)))))]) (pc' := 16) (by decide +kernel) rfl (ab_ov_get (lt1 3467 (by decide)) rfl) (ab_klt (n := 7) (by rw [List.length_set]; rfl) (by decide)) (by rcases n_z5 with e | e <;> rw [e] <;> rfl) (by rcases n_z5 with e | e <;> rw [e] <;> rfl) (ab_ov_set rfl) rfl ?_
  refine ab_fin.s2 (i := .aload_n 0) (k := 1) (pc' := 17) (lv' := [(0, .ref 3467), (1, .null), (2, .null), (3, .int 0), (4, .int 0)]) (st' := [.ref 3467]) (by decide +kernel) rfl rfl ?_
  refine ab_fin.s8 (i := .getstatic 20) (k := 3) (pc' := 20) (st' := [z6, .ref 3467]) (by decide +kernel) rfl rfl rfl rfl ?_
  refine ab_fin.putf (ix := 24) (h1 := ab_ov h1 [(3467, .inr (.inr (23, ((([.null, .null, .null, .null, .null, .int 0, .int 0]).set 0 (.ref 3467)).set 1 (z5)).set 2 (z6)))), (101, .inr (.inr (24, ((((((((((((p1_o101).set 110 (.int 0)).set 10 (.null)).set 34 (.ref 108)).set 33 (.int (-1))).set 32 (.int 0)).set 21 (.int 0)).set 16 (.int 0)).set 23 (.int (-1))).set 24 (.int 0)).set 18 (.int 0)).set 17 (.int 0)).set 20 (.int 2)))), (108, .inr (.inr (22, (p1_o108).set 1 (.int 0)))), (0, .inr (.inr (13, ((p1_o0).set 9 (.int 0)).set 13 (.int 0)))), (40, .inr (.inr (8, ((((((((p1_o40).set 5 (.int (-1))).set 6 (.int 0)).set 7 (.int 0)).set 8 (.int (-1))).set 9 (.int 0)).set 4 (.int 0)).set 3 (.int 0)).set 2 (.int 1)))), (24, .inr (.inr (2, ((p1_o24).set 4 (.int 901)).set 3 (.int 902)))), (27, .inr (.inl (0, .inl (((List.replicate 1804 0).set 0 (0)).set 1 (0))))), (26, .inr (.inl (0, .inl ((List.replicate 1804 0).set 0 (0))))), (25, .inr (.inl (0, .inl ((List.replicate 1804 0).set 0 (25))))), (28, .inr (.inl (0, .inl ((p1_a28).set 3 (0))))), (41, .inr (.inr (9, (p1_o41).set 4 (.int 1)))), (45, .inr (.inl (1, .inr (.inl ((List.replicate 64 0).set 0 (0)))))), (44, .inr (.inl (1, .inr (.inl ((List.replicate 64 0).set 0 (0)))))), (43, .inr (.inl (0, .inl ((List.replicate 64 0).set 0 (0))))), (42, .inr (.inl (0, .inl ((List.replicate 64 0).set 0 (0)))))]) (pc' := 23) (by decide +kernel) rfl (ab_ov_get (lt1 3467 (by decide)) rfl) (ab_klt (n := 7) (by rw [List.length_set, List.length_set]; rfl) (by decide)) (by rcases n_z6 with e | e <;> rw [e] <;> rfl) (by rcases n_z6 with e | e <;> rw [e] <;> rfl) (ab_ov_set rfl) rfl ?_
  refine ab_fin.s2 (i := .iload 4) (k := 2) (pc' := 25) (lv' := [(0, .ref 3467), (1, .null), (2, .null), (3, .int 0), (4, .int 0)]) (st' := [.int 0]) (by decide +kernel) rfl rfl ?_
  refine ab_fin.brT (c := (0 : Int32) = 0) (i := .ifCond .eq 11) (off := 11) (t := 36) (r := []) (by decide +kernel) rfl (by decide +kernel) (by decide +kernel) ?_
  refine ab_fin.s2 (i := .aload_n 0) (k := 1) (pc' := 37) (lv' := [(0, .ref 3467), (1, .null), (2, .null), (3, .int 0), (4, .int 0)]) (st' := [.ref 3467]) (by decide +kernel) rfl rfl ?_
  refine ab_fin.s1 (i := .aconst_null) (k := 1) (pc' := 38) (st' := [.null, .ref 3467]) (by decide +kernel) rfl rfl ?_
  refine ab_fin.putf (ix := 17) (h1 := ab_ov h1 [(3467, .inr (.inr (23, ((([.null, .null, .null, .null, .null, .int 0, .int 0]).set 0 (.ref 3467)).set 2 (z6)).set 1 (.null)))), (101, .inr (.inr (24, ((((((((((((p1_o101).set 110 (.int 0)).set 10 (.null)).set 34 (.ref 108)).set 33 (.int (-1))).set 32 (.int 0)).set 21 (.int 0)).set 16 (.int 0)).set 23 (.int (-1))).set 24 (.int 0)).set 18 (.int 0)).set 17 (.int 0)).set 20 (.int 2)))), (108, .inr (.inr (22, (p1_o108).set 1 (.int 0)))), (0, .inr (.inr (13, ((p1_o0).set 9 (.int 0)).set 13 (.int 0)))), (40, .inr (.inr (8, ((((((((p1_o40).set 5 (.int (-1))).set 6 (.int 0)).set 7 (.int 0)).set 8 (.int (-1))).set 9 (.int 0)).set 4 (.int 0)).set 3 (.int 0)).set 2 (.int 1)))), (24, .inr (.inr (2, ((p1_o24).set 4 (.int 901)).set 3 (.int 902)))), (27, .inr (.inl (0, .inl (((List.replicate 1804 0).set 0 (0)).set 1 (0))))), (26, .inr (.inl (0, .inl ((List.replicate 1804 0).set 0 (0))))), (25, .inr (.inl (0, .inl ((List.replicate 1804 0).set 0 (25))))), (28, .inr (.inl (0, .inl ((p1_a28).set 3 (0))))), (41, .inr (.inr (9, (p1_o41).set 4 (.int 1)))), (45, .inr (.inl (1, .inr (.inl ((List.replicate 64 0).set 0 (0)))))), (44, .inr (.inl (1, .inr (.inl ((List.replicate 64 0).set 0 (0)))))), (43, .inr (.inl (0, .inl ((List.replicate 64 0).set 0 (0))))), (42, .inr (.inl (0, .inl ((List.replicate 64 0).set 0 (0)))))]) (pc' := 41) (by decide +kernel) rfl (ab_ov_get (lt1 3467 (by decide)) rfl) (ab_klt (n := 7) (by rw [List.length_set, List.length_set, List.length_set]; rfl) (by decide)) rfl rfl (ab_ov_set rfl) rfl ?_
  refine ab_fin.s2 (i := .aload_n 0) (k := 1) (pc' := 42) (lv' := [(0, .ref 3467), (1, .null), (2, .null), (3, .int 0), (4, .int 0)]) (st' := [.ref 3467]) (by decide +kernel) rfl rfl ?_
  refine ab_fin.s2 (i := .aload_n 1) (k := 1) (pc' := 43) (lv' := [(0, .ref 3467), (1, .null), (2, .null), (3, .int 0), (4, .int 0)]) (st' := [.null, .ref 3467]) (by decide +kernel) rfl rfl ?_
  refine ab_fin.putf (ix := 31) (h1 := ab_ov h1 [(3467, .inr (.inr (23, (((([.null, .null, .null, .null, .null, .int 0, .int 0]).set 0 (.ref 3467)).set 2 (z6)).set 1 (.null)).set 3 (.null)))), (101, .inr (.inr (24, ((((((((((((p1_o101).set 110 (.int 0)).set 10 (.null)).set 34 (.ref 108)).set 33 (.int (-1))).set 32 (.int 0)).set 21 (.int 0)).set 16 (.int 0)).set 23 (.int (-1))).set 24 (.int 0)).set 18 (.int 0)).set 17 (.int 0)).set 20 (.int 2)))), (108, .inr (.inr (22, (p1_o108).set 1 (.int 0)))), (0, .inr (.inr (13, ((p1_o0).set 9 (.int 0)).set 13 (.int 0)))), (40, .inr (.inr (8, ((((((((p1_o40).set 5 (.int (-1))).set 6 (.int 0)).set 7 (.int 0)).set 8 (.int (-1))).set 9 (.int 0)).set 4 (.int 0)).set 3 (.int 0)).set 2 (.int 1)))), (24, .inr (.inr (2, ((p1_o24).set 4 (.int 901)).set 3 (.int 902)))), (27, .inr (.inl (0, .inl (((List.replicate 1804 0).set 0 (0)).set 1 (0))))), (26, .inr (.inl (0, .inl ((List.replicate 1804 0).set 0 (0))))), (25, .inr (.inl (0, .inl ((List.replicate 1804 0).set 0 (25))))), (28, .inr (.inl (0, .inl ((p1_a28).set 3 (0))))), (41, .inr (.inr (9, (p1_o41).set 4 (.int 1)))), (45, .inr (.inl (1, .inr (.inl ((List.replicate 64 0).set 0 (0)))))), (44, .inr (.inl (1, .inr (.inl ((List.replicate 64 0).set 0 (0)))))), (43, .inr (.inl (0, .inl ((List.replicate 64 0).set 0 (0))))), (42, .inr (.inl (0, .inl ((List.replicate 64 0).set 0 (0)))))]) (pc' := 46) (by decide +kernel) rfl (ab_ov_get (lt1 3467 (by decide)) rfl) (ab_klt (n := 7) (by rw [List.length_set, List.length_set, List.length_set]; rfl) (by decide)) rfl rfl (ab_ov_set rfl) rfl ?_
  refine ab_fin.s2 (i := .aload_n 0) (k := 1) (pc' := 47) (lv' := [(0, .ref 3467), (1, .null), (2, .null), (3, .int 0), (4, .int 0)]) (st' := [.ref 3467]) (by decide +kernel) rfl rfl ?_
  refine ab_fin.s2 (i := .aload_n 2) (k := 1) (pc' := 48) (lv' := [(0, .ref 3467), (1, .null), (2, .null), (3, .int 0), (4, .int 0)]) (st' := [.null, .ref 3467]) (by decide +kernel) rfl rfl ?_
  refine ab_fin.putf (ix := 7) (h1 := ab_ov h1 [(3467, .inr (.inr (23, (((([.null, .null, .null, .null, .null, .int 0, .int 0]).set 2 (z6)).set 1 (.null)).set 3 (.null)).set 0 (.null)))), (101, .inr (.inr (24, ((((((((((((p1_o101).set 110 (.int 0)).set 10 (.null)).set 34 (.ref 108)).set 33 (.int (-1))).set 32 (.int 0)).set 21 (.int 0)).set 16 (.int 0)).set 23 (.int (-1))).set 24 (.int 0)).set 18 (.int 0)).set 17 (.int 0)).set 20 (.int 2)))), (108, .inr (.inr (22, (p1_o108).set 1 (.int 0)))), (0, .inr (.inr (13, ((p1_o0).set 9 (.int 0)).set 13 (.int 0)))), (40, .inr (.inr (8, ((((((((p1_o40).set 5 (.int (-1))).set 6 (.int 0)).set 7 (.int 0)).set 8 (.int (-1))).set 9 (.int 0)).set 4 (.int 0)).set 3 (.int 0)).set 2 (.int 1)))), (24, .inr (.inr (2, ((p1_o24).set 4 (.int 901)).set 3 (.int 902)))), (27, .inr (.inl (0, .inl (((List.replicate 1804 0).set 0 (0)).set 1 (0))))), (26, .inr (.inl (0, .inl ((List.replicate 1804 0).set 0 (0))))), (25, .inr (.inl (0, .inl ((List.replicate 1804 0).set 0 (25))))), (28, .inr (.inl (0, .inl ((p1_a28).set 3 (0))))), (41, .inr (.inr (9, (p1_o41).set 4 (.int 1)))), (45, .inr (.inl (1, .inr (.inl ((List.replicate 64 0).set 0 (0)))))), (44, .inr (.inl (1, .inr (.inl ((List.replicate 64 0).set 0 (0)))))), (43, .inr (.inl (0, .inl ((List.replicate 64 0).set 0 (0))))), (42, .inr (.inl (0, .inl ((List.replicate 64 0).set 0 (0)))))]) (pc' := 51) (by decide +kernel) rfl (ab_ov_get (lt1 3467 (by decide)) rfl) (ab_klt (n := 7) (by rw [List.length_set, List.length_set, List.length_set, List.length_set]; rfl) (by decide)) rfl rfl (ab_ov_set rfl) rfl ?_
  refine ab_fin.s2 (i := .iload_n 3) (k := 1) (pc' := 52) (lv' := [(0, .ref 3467), (1, .null), (2, .null), (3, .int 0), (4, .int 0)]) (st' := [.int 0]) (by decide +kernel) rfl rfl ?_
  refine ab_fin.brF (c := ¬ (0 : Int32) = 0) (i := .ifCond .ne 8) (off := 8) (t := 60) (pc' := 55) (r := []) (by decide +kernel) rfl (by decide +kernel) rfl (by decide +kernel) ?_
  refine ab_fin.s2 (i := .aload_n 0) (k := 1) (pc' := 56) (lv' := [(0, .ref 3467), (1, .null), (2, .null), (3, .int 0), (4, .int 0)]) (st' := [.ref 3467]) (by decide +kernel) rfl rfl ?_
  refine ab_fin.s1 (i := .aconst_null) (k := 1) (pc' := 57) (st' := [.null, .ref 3467]) (by decide +kernel) rfl rfl ?_
  refine ab_fin.putf (ix := 24) (h1 := ab_ov h1 [(3467, .inr (.inr (23, (((([.null, .null, .null, .null, .null, .int 0, .int 0]).set 1 (.null)).set 3 (.null)).set 0 (.null)).set 2 (.null)))), (101, .inr (.inr (24, ((((((((((((p1_o101).set 110 (.int 0)).set 10 (.null)).set 34 (.ref 108)).set 33 (.int (-1))).set 32 (.int 0)).set 21 (.int 0)).set 16 (.int 0)).set 23 (.int (-1))).set 24 (.int 0)).set 18 (.int 0)).set 17 (.int 0)).set 20 (.int 2)))), (108, .inr (.inr (22, (p1_o108).set 1 (.int 0)))), (0, .inr (.inr (13, ((p1_o0).set 9 (.int 0)).set 13 (.int 0)))), (40, .inr (.inr (8, ((((((((p1_o40).set 5 (.int (-1))).set 6 (.int 0)).set 7 (.int 0)).set 8 (.int (-1))).set 9 (.int 0)).set 4 (.int 0)).set 3 (.int 0)).set 2 (.int 1)))), (24, .inr (.inr (2, ((p1_o24).set 4 (.int 901)).set 3 (.int 902)))), (27, .inr (.inl (0, .inl (((List.replicate 1804 0).set 0 (0)).set 1 (0))))), (26, .inr (.inl (0, .inl ((List.replicate 1804 0).set 0 (0))))), (25, .inr (.inl (0, .inl ((List.replicate 1804 0).set 0 (25))))), (28, .inr (.inl (0, .inl ((p1_a28).set 3 (0))))), (41, .inr (.inr (9, (p1_o41).set 4 (.int 1)))), (45, .inr (.inl (1, .inr (.inl ((List.replicate 64 0).set 0 (0)))))), (44, .inr (.inl (1, .inr (.inl ((List.replicate 64 0).set 0 (0)))))), (43, .inr (.inl (0, .inl ((List.replicate 64 0).set 0 (0))))), (42, .inr (.inl (0, .inl ((List.replicate 64 0).set 0 (0)))))]) (pc' := 60) (by decide +kernel) rfl (ab_ov_get (lt1 3467 (by decide)) rfl) (ab_klt (n := 7) (by rw [List.length_set, List.length_set, List.length_set, List.length_set]; rfl) (by decide)) rfl rfl (ab_ov_set rfl) rfl ?_
  refine ab_fin.ret (i := .return_) (k := 1) none (by decide +kernel) rfl ?_
  refine ab_bk.back (pc' := 9) (st' := []) rfl rfl ?_
  refine ab_fin.ret (i := .return_) (k := 1) none (by decide +kernel) rfl ?_
  refine ab_bk.back (pc' := 9) (st' := []) rfl rfl ?_
  refine ab_fin.ret (i := .return_) (k := 1) none (by decide +kernel) rfl ?_
  refine ab_bk.back (pc' := 8) (st' := []) rfl rfl ?_
  refine ab_fin.s2 (i := .aload_n 0) (k := 1) (pc' := 9) (lv' := [(0, .ref 3467), (1, .int 0)]) (st' := [.ref 3467]) (by decide +kernel) rfl rfl ?_
  refine ab_fin.s2 (i := .iload_n 1) (k := 1) (pc' := 10) (lv' := [(0, .ref 3467), (1, .int 0)]) (st' := [.int 0, .ref 3467]) (by decide +kernel) rfl rfl ?_
  refine ab_fin.putf (ix := 7) (h1 := ab_ov h1 [(3467, .inr (.inr (23, ((((([.null, .null, .null, .null, .null, .int 0, .int 0]).set 1 (.null)).set 3 (.null)).set 0 (.null)).set 2 (.null)).set 6 (.int 0)))), (101, .inr (.inr (24, ((((((((((((p1_o101).set 110 (.int 0)).set 10 (.null)).set 34 (.ref 108)).set 33 (.int (-1))).set 32 (.int 0)).set 21 (.int 0)).set 16 (.int 0)).set 23 (.int (-1))).set 24 (.int 0)).set 18 (.int 0)).set 17 (.int 0)).set 20 (.int 2)))), (108, .inr (.inr (22, (p1_o108).set 1 (.int 0)))), (0, .inr (.inr (13, ((p1_o0).set 9 (.int 0)).set 13 (.int 0)))), (40, .inr (.inr (8, ((((((((p1_o40).set 5 (.int (-1))).set 6 (.int 0)).set 7 (.int 0)).set 8 (.int (-1))).set 9 (.int 0)).set 4 (.int 0)).set 3 (.int 0)).set 2 (.int 1)))), (24, .inr (.inr (2, ((p1_o24).set 4 (.int 901)).set 3 (.int 902)))), (27, .inr (.inl (0, .inl (((List.replicate 1804 0).set 0 (0)).set 1 (0))))), (26, .inr (.inl (0, .inl ((List.replicate 1804 0).set 0 (0))))), (25, .inr (.inl (0, .inl ((List.replicate 1804 0).set 0 (25))))), (28, .inr (.inl (0, .inl ((p1_a28).set 3 (0))))), (41, .inr (.inr (9, (p1_o41).set 4 (.int 1)))), (45, .inr (.inl (1, .inr (.inl ((List.replicate 64 0).set 0 (0)))))), (44, .inr (.inl (1, .inr (.inl ((List.replicate 64 0).set 0 (0)))))), (43, .inr (.inl (0, .inl ((List.replicate 64 0).set 0 (0))))), (42, .inr (.inl (0, .inl ((List.replicate 64 0).set 0 (0)))))]) (pc' := 13) (by decide +kernel) rfl (ab_ov_get (lt1 3467 (by decide)) rfl) (ab_klt (n := 7) (by rw [List.length_set, List.length_set, List.length_set, List.length_set]; rfl) (by decide)) rfl rfl (ab_ov_set rfl) rfl ?_
  refine ab_fin.ret (i := .return_) (k := 1) none (by decide +kernel) rfl ?_
  refine ab_bk.back (pc' := 11) (st' := [.ref 3467]) rfl rfl ?_
  refine ab_fin.ret (i := .areturn) (k := 1) (some (.ref 3467)) (by decide +kernel) rfl ?_
  refine ab_bk.back (pc' := 12) (st' := [.ref 3467]) rfl rfl ?_
  have qa := (ab_ov_get (lt1 3467 (by decide)) rfl)
  refine ab_fin.athX (i := .athrow) (k := 1) (q := 3467) (E := "DispatchHouseModel$Wrong") (by decide +kernel) (by simp only [ab_ath, qa]; rfl) (by decide +kernel) ?_
  refine ab_bk.pass (by decide +kernel) rfl ?_
  refine ab_bk.pass (by decide +kernel) rfl ?_
  refine ab_bk.pass (by decide +kernel) rfl ?_
  refine ab_bk.pass (by decide +kernel) rfl ?_
  refine ab_bk.pass (by decide +kernel) rfl ?_
  refine ab_bk.catch (hp := 88) (by decide +kernel) rfl ?_
  refine ab_fin.s2 (i := .astore_n 3) (k := 1) (pc' := 89) (lv' := [(3, .ref 3467), (2, .null), (0, .ref 101)]) (st' := []) (by decide +kernel) rfl rfl ?_
  refine ab_fin.s2 (i := .aload_n 3) (k := 1) (pc' := 90) (lv' := [(3, .ref 3467), (2, .null), (0, .ref 101)]) (st' := [.ref 3467]) (by decide +kernel) rfl rfl ?_
  refine ab_fin.getf (ix := 1013) (k := 6) (v := .int 0) (pc' := 93) (by decide +kernel) rfl (ab_ov_get (lt1 3467 (by decide)) rfl) rfl rfl ?_
  refine ab_fin.s2 (i := .istore_n 1) (k := 1) (pc' := 94) (lv' := [(1, .int 0), (3, .ref 3467), (2, .null), (0, .ref 101)]) (st' := []) (by decide +kernel) rfl rfl ?_
  refine ab_fin.s2 (i := .aload_n 0) (k := 1) (pc' := 95) (lv' := [(1, .int 0), (3, .ref 3467), (2, .null), (0, .ref 101)]) (st' := [.ref 101]) (by decide +kernel) rfl rfl ?_
  refine ab_fin.s1i (i := .iconst 1) (k := 1) (pc' := 96) (n := 1) (by decide +kernel) rfl (by decide +kernel) rfl ?_
  refine ab_fin.putf (ix := 1010) (h1 := ab_ov h1 [(101, .inr (.inr (24, (((((((((((((p1_o101).set 110 (.int 0)).set 10 (.null)).set 34 (.ref 108)).set 33 (.int (-1))).set 32 (.int 0)).set 21 (.int 0)).set 16 (.int 0)).set 23 (.int (-1))).set 24 (.int 0)).set 18 (.int 0)).set 17 (.int 0)).set 20 (.int 2)).set 112 (.int 1)))), (3467, .inr (.inr (23, ((((([.null, .null, .null, .null, .null, .int 0, .int 0]).set 1 (.null)).set 3 (.null)).set 0 (.null)).set 2 (.null)).set 6 (.int 0)))), (108, .inr (.inr (22, (p1_o108).set 1 (.int 0)))), (0, .inr (.inr (13, ((p1_o0).set 9 (.int 0)).set 13 (.int 0)))), (40, .inr (.inr (8, ((((((((p1_o40).set 5 (.int (-1))).set 6 (.int 0)).set 7 (.int 0)).set 8 (.int (-1))).set 9 (.int 0)).set 4 (.int 0)).set 3 (.int 0)).set 2 (.int 1)))), (24, .inr (.inr (2, ((p1_o24).set 4 (.int 901)).set 3 (.int 902)))), (27, .inr (.inl (0, .inl (((List.replicate 1804 0).set 0 (0)).set 1 (0))))), (26, .inr (.inl (0, .inl ((List.replicate 1804 0).set 0 (0))))), (25, .inr (.inl (0, .inl ((List.replicate 1804 0).set 0 (25))))), (28, .inr (.inl (0, .inl ((p1_a28).set 3 (0))))), (41, .inr (.inr (9, (p1_o41).set 4 (.int 1)))), (45, .inr (.inl (1, .inr (.inl ((List.replicate 64 0).set 0 (0)))))), (44, .inr (.inl (1, .inr (.inl ((List.replicate 64 0).set 0 (0)))))), (43, .inr (.inl (0, .inl ((List.replicate 64 0).set 0 (0))))), (42, .inr (.inl (0, .inl ((List.replicate 64 0).set 0 (0)))))]) (pc' := 99) (by decide +kernel) rfl (ab_ov_get (lt1 101 (by decide)) rfl) (ab_klt (n := 115) (by rw [List.length_set, List.length_set, List.length_set, List.length_set, List.length_set, List.length_set, List.length_set, List.length_set, List.length_set, List.length_set, List.length_set, List.length_set, p1_n101]) (by decide)) rfl rfl (ab_ov_set rfl) rfl ?_
  refine ab_fin.s2 (i := .aload_n 0) (k := 1) (pc' := 100) (lv' := [(1, .int 0), (3, .ref 3467), (2, .null), (0, .ref 101)]) (st' := [.ref 101]) (by decide +kernel) rfl rfl ?_
  refine ab_fin.s1i (i := .iconst 0) (k := 1) (pc' := 101) (n := 0) (by decide +kernel) rfl (by decide +kernel) rfl ?_
  refine ab_fin.putf (ix := 180) (h1 := ab_ov h1 [(101, .inr (.inr (24, ((((((((((((((p1_o101).set 110 (.int 0)).set 10 (.null)).set 34 (.ref 108)).set 33 (.int (-1))).set 32 (.int 0)).set 21 (.int 0)).set 16 (.int 0)).set 23 (.int (-1))).set 24 (.int 0)).set 18 (.int 0)).set 17 (.int 0)).set 20 (.int 2)).set 112 (.int 1)).set 15 (.int 0)))), (3467, .inr (.inr (23, ((((([.null, .null, .null, .null, .null, .int 0, .int 0]).set 1 (.null)).set 3 (.null)).set 0 (.null)).set 2 (.null)).set 6 (.int 0)))), (108, .inr (.inr (22, (p1_o108).set 1 (.int 0)))), (0, .inr (.inr (13, ((p1_o0).set 9 (.int 0)).set 13 (.int 0)))), (40, .inr (.inr (8, ((((((((p1_o40).set 5 (.int (-1))).set 6 (.int 0)).set 7 (.int 0)).set 8 (.int (-1))).set 9 (.int 0)).set 4 (.int 0)).set 3 (.int 0)).set 2 (.int 1)))), (24, .inr (.inr (2, ((p1_o24).set 4 (.int 901)).set 3 (.int 902)))), (27, .inr (.inl (0, .inl (((List.replicate 1804 0).set 0 (0)).set 1 (0))))), (26, .inr (.inl (0, .inl ((List.replicate 1804 0).set 0 (0))))), (25, .inr (.inl (0, .inl ((List.replicate 1804 0).set 0 (25))))), (28, .inr (.inl (0, .inl ((p1_a28).set 3 (0))))), (41, .inr (.inr (9, (p1_o41).set 4 (.int 1)))), (45, .inr (.inl (1, .inr (.inl ((List.replicate 64 0).set 0 (0)))))), (44, .inr (.inl (1, .inr (.inl ((List.replicate 64 0).set 0 (0)))))), (43, .inr (.inl (0, .inl ((List.replicate 64 0).set 0 (0))))), (42, .inr (.inl (0, .inl ((List.replicate 64 0).set 0 (0)))))]) (pc' := 104) (by decide +kernel) rfl (ab_ov_get (lt1 101 (by decide)) rfl) (ab_klt (n := 115) (by rw [List.length_set, List.length_set, List.length_set, List.length_set, List.length_set, List.length_set, List.length_set, List.length_set, List.length_set, List.length_set, List.length_set, List.length_set, List.length_set, p1_n101]) (by decide)) rfl rfl (ab_ov_set rfl) rfl ?_
  refine ab_fin.s2 (i := .iload_n 1) (k := 1) (pc' := 105) (lv' := [(1, .int 0), (3, .ref 3467), (2, .null), (0, .ref 101)]) (st' := [.int 0]) (by decide +kernel) rfl rfl ?_
  refine ab_fin.brT (c := 0 ≤ (0 : Int32)) (i := .ifCond .ge 8) (off := 8) (t := 113) (r := []) (by decide +kernel) rfl (by decide +kernel) (by decide +kernel) ?_
  refine ab_fin.s2 (i := .iload_n 1) (k := 1) (pc' := 114) (lv' := [(1, .int 0), (3, .ref 3467), (2, .null), (0, .ref 101)]) (st' := [.int 0]) (by decide +kernel) rfl rfl ?_
  refine ab_fin.ret (i := .ireturn) (k := 1) (some (.int 0)) (by decide +kernel) rfl ?_
  refine ab_bk.back (pc' := 305) (st' := [.int 0, .int 0]) rfl rfl ?_
  refine ab_fin.brT (c := (0 : Int32) = (0 : Int32)) (i := .if_icmp .eq 785) (off := 785) (t := 1090) (r := []) (by decide +kernel) rfl (by decide +kernel) (by decide +kernel) ?_
  refine ab_fin.inc (i := .iinc 4 6) (k := 3) (pc' := 1093) (j := 4) (n := 6) (lv' := [(3, .ref 3466), (2, .ref 101), (1, .ref 0), (0, .retAddr 9)]) (by decide +kernel) rfl (by decide +kernel) rfl ?_
  refine ab_fin.s3 (i := .goto (-1070)) (k := 3) (t := 23) (st' := []) (by decide +kernel) (ab_goto (by decide +kernel)) ?_
  refine ab_fin.s2 (i := .iload 4) (k := 2) (pc' := 25) (lv' := [(4, .int 6), (3, .ref 3466), (2, .ref 101), (1, .ref 0), (0, .retAddr 9)]) (st' := [.int 6]) (by decide +kernel) rfl rfl ?_
  refine ab_fin.s2 (i := .aload_n 0) (k := 1) (pc' := 26) (lv' := [(4, .int 6), (3, .ref 3466), (2, .ref 101), (1, .ref 0), (0, .retAddr 9)]) (st' := [.retAddr 9, .int 6]) (by decide +kernel) rfl rfl ?_
  refine ab_fin.s8 (i := .arraylength) (k := 1) (pc' := 27) (st' := [.int 6, .int 6]) (by decide +kernel) rfl rfl rfl rfl ?_
  refine ab_fin.s1i (i := .bipush 6) (k := 2) (pc' := 29) (n := 6) (by decide +kernel) rfl (by decide +kernel) rfl ?_
  refine ab_fin.s1i (i := .isub) (k := 1) (pc' := 30) (n := 0) (by decide +kernel) rfl (by decide +kernel) rfl ?_
  refine ab_fin.brT (c := (0 : Int32) < (6 : Int32)) (i := .if_icmp .gt 1066) (off := 1066) (t := 1096) (r := []) (by decide +kernel) rfl (by decide +kernel) (by decide +kernel) ?_
  refine ab_fin.s1i (i := .iconst 1) (k := 1) (pc' := 1097) (n := 1) (by decide +kernel) rfl (by decide +kernel) rfl ?_
  refine ab_fin.ret (i := .ireturn) (k := 1) (some (.int 1)) (by decide +kernel) rfl ?_
  refine ⟨rfl, ?_, ?_⟩
  · rw [ab_ov_len, hl1]; decide
  · refine Nat.le_trans (ab_ov_z _ _) ?_
    simp only [List.map, List.sum_cons, List.sum_nil, ab_z1, ab_len, List.length_set, List.length_replicate, p1_n0, p1_n24, p1_n28, p1_n40, p1_n41, p1_n101, p1_n108]
    have z1 : ab_z h1 = _ := hz1
    omega

/-! more of the law's calls (printed by lawgen.py) -/
set_option maxRecDepth 100000 in
set_option maxHeartbeats 0 in
theorem lw_nearer {z4 z5 z6 : Value} {xs : Nat → Int32} {L : Nat} {h hc hr : List ab_E} {o : Int64} {fC fR : Nat → Nat} {PC PR : List ab_E → Prop} {Q : ab_RX → List ab_E → Prop} (hL : L ≤ 3072) (hG : ab_pure (hb_Gz (some z4, some z5, some z6) (some (0, L, fun i => .int (xs i))))) {i : Nat} (hi : 6 * i + 6 ≤ L) (W0 : Two h hc hr o fC fR) (k13 : is13 hc) (k24 : is24 hr) {r : Nat ⊕ Int32} (ht : ∀ th, r = .inl th → th = 1 ∨ th = 2) (hC : ab_fin (hb_Gz (some z4, some z5, some z6) (some (0, L, fun i => .int (xs i)))) hb_GT 2044 (mX12_nearer, []) 0 [(0, .ref 0), (1, .int (xs (6 * i + 1))), (2, .int (xs (6 * i + 2))), (3, .int (xs (6 * i + 3))), (4, .int (xs (6 * i + 4))), (5, .int (xs (6 * i + 5)))] [] hc (AnC "java/lang/IndexOutOfBoundsException" "java/lang/IllegalArgumentException" PC r)) (hR : ab_fin (hb_Gz (some z4, some z5, some z6) (some (0, L, fun i => .int (xs i)))) hb_GT 2045 (mX23_nearer_, []) 0 [(0, .ref 0), (1, .int (xs (6 * i + 1))), (2, .int (xs (6 * i + 2))), (3, .int (xs (6 * i + 3))), (4, .int (xs (6 * i + 4))), (5, .int (xs (6 * i + 5)))] [] hr (AnR PR r)) (go : ∀ h' hc' hr' o' fC' fR', Two h' hc' hr' o' fC' fR' → PC hc' → PR hr' → ab_fin (hb_Gz (some z4, some z5, some z6) (some (0, L, fun i => .int (xs i)))) hb_GT 2046 (mL_law, []) 1090 [(4, .int (Int32.ofNat (6 * i))), (3, .ref 3467), (2, .ref 102), (1, .ref 0), (0, .retAddr 9)] [] h' Q) : ab_fin (hb_Gz (some z4, some z5, some z6) (some (0, L, fun i => .int (xs i)))) hb_GT 2046 (mL_law, []) 663 [(4, .int (Int32.ofNat (6 * i))), (3, .ref 3467), (2, .ref 102), (1, .ref 0), (0, .retAddr 9)] [] h Q := by
  obtain ⟨fs13, k13⟩ := k13
  obtain ⟨fs24, e24⟩ := k24
  have e13 := W0.c0 k13
  rcases r with th | v
  · rcases ht th rfl with rfl | rfl
    · refine ab_fin.s2 (i := .aload_n 1) (k := 1) (pc' := 664) (lv' := [(4, .int (Int32.ofNat (6 * i))), (3, .ref 3467), (2, .ref 102), (1, .ref 0), (0, .retAddr 9)]) (st' := [.ref 0]) (by decide +kernel) rfl rfl ?_
      refine ab_fin.s2 (i := .aload_n 0) (k := 1) (pc' := 665) (lv' := [(4, .int (Int32.ofNat (6 * i))), (3, .ref 3467), (2, .ref 102), (1, .ref 0), (0, .retAddr 9)]) (st' := [.retAddr 9, .ref 0]) (by decide +kernel) rfl rfl ?_
      refine ab_fin.s2 (i := .iload 4) (k := 2) (pc' := 667) (lv' := [(4, .int (Int32.ofNat (6 * i))), (3, .ref 3467), (2, .ref 102), (1, .ref 0), (0, .retAddr 9)]) (st' := [.int (Int32.ofNat (6 * i)), .retAddr 9, .ref 0]) (by decide +kernel) rfl rfl ?_
      refine ab_fin.s1i (i := .iconst 1) (k := 1) (pc' := 668) (n := 1) (by decide +kernel) rfl (by decide +kernel) rfl ?_
      refine ab_fin.s1 (i := .iadd) (k := 1) (pc' := 669) (st' := [.int (Int32.ofNat (6 * i) + 1), .retAddr 9, .ref 0]) (by decide +kernel) rfl rfl ?_
      refine ab_fin.s8 (i := .iaload) (k := 1) (pc' := 670) (st' := [.int (xs (6 * i + 1)), .ref 0]) (by decide +kernel) (ab_x0 rfl (ix_v (i := i) (j := 1) (L := L) (y := 1) (by omega) hL rfl).1 (congrArg (fun k => Value.int (xs k)) (ix_v (i := i) (j := 1) (L := L) (y := 1) (by omega) hL rfl).2)) rfl rfl rfl ?_
      refine ab_fin.s2 (i := .aload_n 0) (k := 1) (pc' := 671) (lv' := [(4, .int (Int32.ofNat (6 * i))), (3, .ref 3467), (2, .ref 102), (1, .ref 0), (0, .retAddr 9)]) (st' := [.retAddr 9, .int (xs (6 * i + 1)), .ref 0]) (by decide +kernel) rfl rfl ?_
      refine ab_fin.s2 (i := .iload 4) (k := 2) (pc' := 673) (lv' := [(4, .int (Int32.ofNat (6 * i))), (3, .ref 3467), (2, .ref 102), (1, .ref 0), (0, .retAddr 9)]) (st' := [.int (Int32.ofNat (6 * i)), .retAddr 9, .int (xs (6 * i + 1)), .ref 0]) (by decide +kernel) rfl rfl ?_
      refine ab_fin.s1i (i := .iconst 2) (k := 1) (pc' := 674) (n := 2) (by decide +kernel) rfl (by decide +kernel) rfl ?_
      refine ab_fin.s1 (i := .iadd) (k := 1) (pc' := 675) (st' := [.int (Int32.ofNat (6 * i) + 2), .retAddr 9, .int (xs (6 * i + 1)), .ref 0]) (by decide +kernel) rfl rfl ?_
      refine ab_fin.s8 (i := .iaload) (k := 1) (pc' := 676) (st' := [.int (xs (6 * i + 2)), .int (xs (6 * i + 1)), .ref 0]) (by decide +kernel) (ab_x0 rfl (ix_v (i := i) (j := 2) (L := L) (y := 2) (by omega) hL rfl).1 (congrArg (fun k => Value.int (xs k)) (ix_v (i := i) (j := 2) (L := L) (y := 2) (by omega) hL rfl).2)) rfl rfl rfl ?_
      refine ab_fin.s2 (i := .aload_n 0) (k := 1) (pc' := 677) (lv' := [(4, .int (Int32.ofNat (6 * i))), (3, .ref 3467), (2, .ref 102), (1, .ref 0), (0, .retAddr 9)]) (st' := [.retAddr 9, .int (xs (6 * i + 2)), .int (xs (6 * i + 1)), .ref 0]) (by decide +kernel) rfl rfl ?_
      refine ab_fin.s2 (i := .iload 4) (k := 2) (pc' := 679) (lv' := [(4, .int (Int32.ofNat (6 * i))), (3, .ref 3467), (2, .ref 102), (1, .ref 0), (0, .retAddr 9)]) (st' := [.int (Int32.ofNat (6 * i)), .retAddr 9, .int (xs (6 * i + 2)), .int (xs (6 * i + 1)), .ref 0]) (by decide +kernel) rfl rfl ?_
      refine ab_fin.s1i (i := .iconst 3) (k := 1) (pc' := 680) (n := 3) (by decide +kernel) rfl (by decide +kernel) rfl ?_
      refine ab_fin.s1 (i := .iadd) (k := 1) (pc' := 681) (st' := [.int (Int32.ofNat (6 * i) + 3), .retAddr 9, .int (xs (6 * i + 2)), .int (xs (6 * i + 1)), .ref 0]) (by decide +kernel) rfl rfl ?_
      refine ab_fin.s8 (i := .iaload) (k := 1) (pc' := 682) (st' := [.int (xs (6 * i + 3)), .int (xs (6 * i + 2)), .int (xs (6 * i + 1)), .ref 0]) (by decide +kernel) (ab_x0 rfl (ix_v (i := i) (j := 3) (L := L) (y := 3) (by omega) hL rfl).1 (congrArg (fun k => Value.int (xs k)) (ix_v (i := i) (j := 3) (L := L) (y := 3) (by omega) hL rfl).2)) rfl rfl rfl ?_
      refine ab_fin.s2 (i := .aload_n 0) (k := 1) (pc' := 683) (lv' := [(4, .int (Int32.ofNat (6 * i))), (3, .ref 3467), (2, .ref 102), (1, .ref 0), (0, .retAddr 9)]) (st' := [.retAddr 9, .int (xs (6 * i + 3)), .int (xs (6 * i + 2)), .int (xs (6 * i + 1)), .ref 0]) (by decide +kernel) rfl rfl ?_
      refine ab_fin.s2 (i := .iload 4) (k := 2) (pc' := 685) (lv' := [(4, .int (Int32.ofNat (6 * i))), (3, .ref 3467), (2, .ref 102), (1, .ref 0), (0, .retAddr 9)]) (st' := [.int (Int32.ofNat (6 * i)), .retAddr 9, .int (xs (6 * i + 3)), .int (xs (6 * i + 2)), .int (xs (6 * i + 1)), .ref 0]) (by decide +kernel) rfl rfl ?_
      refine ab_fin.s1i (i := .iconst 4) (k := 1) (pc' := 686) (n := 4) (by decide +kernel) rfl (by decide +kernel) rfl ?_
      refine ab_fin.s1 (i := .iadd) (k := 1) (pc' := 687) (st' := [.int (Int32.ofNat (6 * i) + 4), .retAddr 9, .int (xs (6 * i + 3)), .int (xs (6 * i + 2)), .int (xs (6 * i + 1)), .ref 0]) (by decide +kernel) rfl rfl ?_
      refine ab_fin.s8 (i := .iaload) (k := 1) (pc' := 688) (st' := [.int (xs (6 * i + 4)), .int (xs (6 * i + 3)), .int (xs (6 * i + 2)), .int (xs (6 * i + 1)), .ref 0]) (by decide +kernel) (ab_x0 rfl (ix_v (i := i) (j := 4) (L := L) (y := 4) (by omega) hL rfl).1 (congrArg (fun k => Value.int (xs k)) (ix_v (i := i) (j := 4) (L := L) (y := 4) (by omega) hL rfl).2)) rfl rfl rfl ?_
      refine ab_fin.s2 (i := .aload_n 0) (k := 1) (pc' := 689) (lv' := [(4, .int (Int32.ofNat (6 * i))), (3, .ref 3467), (2, .ref 102), (1, .ref 0), (0, .retAddr 9)]) (st' := [.retAddr 9, .int (xs (6 * i + 4)), .int (xs (6 * i + 3)), .int (xs (6 * i + 2)), .int (xs (6 * i + 1)), .ref 0]) (by decide +kernel) rfl rfl ?_
      refine ab_fin.s2 (i := .iload 4) (k := 2) (pc' := 691) (lv' := [(4, .int (Int32.ofNat (6 * i))), (3, .ref 3467), (2, .ref 102), (1, .ref 0), (0, .retAddr 9)]) (st' := [.int (Int32.ofNat (6 * i)), .retAddr 9, .int (xs (6 * i + 4)), .int (xs (6 * i + 3)), .int (xs (6 * i + 2)), .int (xs (6 * i + 1)), .ref 0]) (by decide +kernel) rfl rfl ?_
      refine ab_fin.s1i (i := .iconst 5) (k := 1) (pc' := 692) (n := 5) (by decide +kernel) rfl (by decide +kernel) rfl ?_
      refine ab_fin.s1 (i := .iadd) (k := 1) (pc' := 693) (st' := [.int (Int32.ofNat (6 * i) + 5), .retAddr 9, .int (xs (6 * i + 4)), .int (xs (6 * i + 3)), .int (xs (6 * i + 2)), .int (xs (6 * i + 1)), .ref 0]) (by decide +kernel) rfl rfl ?_
      refine ab_fin.s8 (i := .iaload) (k := 1) (pc' := 694) (st' := [.int (xs (6 * i + 5)), .int (xs (6 * i + 4)), .int (xs (6 * i + 3)), .int (xs (6 * i + 2)), .int (xs (6 * i + 1)), .ref 0]) (by decide +kernel) (ab_x0 rfl (ix_v (i := i) (j := 5) (L := L) (y := 5) (by omega) hL rfl).1 (congrArg (fun k => Value.int (xs k)) (ix_v (i := i) (j := 5) (L := L) (y := 5) (by omega) hL rfl).2)) rfl rfl rfl ?_
      refine ab_fin.s2 (i := .aload_n 3) (k := 1) (pc' := 695) (lv' := [(4, .int (Int32.ofNat (6 * i))), (3, .ref 3467), (2, .ref 102), (1, .ref 0), (0, .retAddr 9)]) (st' := [.ref 3467, .int (xs (6 * i + 5)), .int (xs (6 * i + 4)), .int (xs (6 * i + 3)), .int (xs (6 * i + 2)), .int (xs (6 * i + 1)), .ref 0]) (by decide +kernel) rfl rfl ?_
      refine ab_fin.call (i := .invokestatic 111) (k := 3) (y := 13519) (As := [.ref 0, .int (xs (6 * i + 1)), .int (xs (6 * i + 2)), .int (xs (6 * i + 3)), .int (xs (6 * i + 4)), .int (xs (6 * i + 5)), .ref 3467]) (rest := []) (M' := (mL_nearer, [(0, 16, 19, 13), (0, 16, 23, 19)])) (by decide +kernel) (ab_cs rfl rfl ⟨(Nat.le_of_ble_eq_true rfl), (Nat.le_of_ble_eq_true rfl)⟩ rfl) rfl (Nat.le_of_ble_eq_true rfl) ?_
      show ab_fin _ _ _ _ 0 [(0, .ref 0), (1, .int (xs (6 * i + 1))), (2, .int (xs (6 * i + 2))), (3, .int (xs (6 * i + 3))), (4, .int (xs (6 * i + 4))), (5, .int (xs (6 * i + 5))), (6, .ref 3467)] [] _ _
      refine ab_fin.s2 (i := .aload 6) (k := 2) (pc' := 2) (lv' := [(0, .ref 0), (1, .int (xs (6 * i + 1))), (2, .int (xs (6 * i + 2))), (3, .int (xs (6 * i + 3))), (4, .int (xs (6 * i + 4))), (5, .int (xs (6 * i + 5))), (6, .ref 3467)]) (st' := [.ref 3467]) (by decide +kernel) rfl rfl ?_
      refine ab_fin.s1i (i := .iconst 0) (k := 1) (pc' := 3) (n := 0) (by decide +kernel) rfl (by decide +kernel) rfl ?_
      refine ab_fin.s2 (i := .aload_n 0) (k := 1) (pc' := 4) (lv' := [(0, .ref 0), (1, .int (xs (6 * i + 1))), (2, .int (xs (6 * i + 2))), (3, .int (xs (6 * i + 3))), (4, .int (xs (6 * i + 4))), (5, .int (xs (6 * i + 5))), (6, .ref 3467)]) (st' := [.ref 0, .int 0, .ref 3467]) (by decide +kernel) rfl rfl ?_
      refine ab_fin.s2 (i := .iload_n 1) (k := 1) (pc' := 5) (lv' := [(0, .ref 0), (1, .int (xs (6 * i + 1))), (2, .int (xs (6 * i + 2))), (3, .int (xs (6 * i + 3))), (4, .int (xs (6 * i + 4))), (5, .int (xs (6 * i + 5))), (6, .ref 3467)]) (st' := [.int (xs (6 * i + 1)), .ref 0, .int 0, .ref 3467]) (by decide +kernel) rfl rfl ?_
      refine ab_fin.s2 (i := .iload_n 2) (k := 1) (pc' := 6) (lv' := [(0, .ref 0), (1, .int (xs (6 * i + 1))), (2, .int (xs (6 * i + 2))), (3, .int (xs (6 * i + 3))), (4, .int (xs (6 * i + 4))), (5, .int (xs (6 * i + 5))), (6, .ref 3467)]) (st' := [.int (xs (6 * i + 2)), .int (xs (6 * i + 1)), .ref 0, .int 0, .ref 3467]) (by decide +kernel) rfl rfl ?_
      refine ab_fin.s2 (i := .iload_n 3) (k := 1) (pc' := 7) (lv' := [(0, .ref 0), (1, .int (xs (6 * i + 1))), (2, .int (xs (6 * i + 2))), (3, .int (xs (6 * i + 3))), (4, .int (xs (6 * i + 4))), (5, .int (xs (6 * i + 5))), (6, .ref 3467)]) (st' := [.int (xs (6 * i + 3)), .int (xs (6 * i + 2)), .int (xs (6 * i + 1)), .ref 0, .int 0, .ref 3467]) (by decide +kernel) rfl rfl ?_
      refine ab_fin.s2 (i := .iload 4) (k := 2) (pc' := 9) (lv' := [(0, .ref 0), (1, .int (xs (6 * i + 1))), (2, .int (xs (6 * i + 2))), (3, .int (xs (6 * i + 3))), (4, .int (xs (6 * i + 4))), (5, .int (xs (6 * i + 5))), (6, .ref 3467)]) (st' := [.int (xs (6 * i + 4)), .int (xs (6 * i + 3)), .int (xs (6 * i + 2)), .int (xs (6 * i + 1)), .ref 0, .int 0, .ref 3467]) (by decide +kernel) rfl rfl ?_
      refine ab_fin.s2 (i := .iload 5) (k := 2) (pc' := 11) (lv' := [(0, .ref 0), (1, .int (xs (6 * i + 1))), (2, .int (xs (6 * i + 2))), (3, .int (xs (6 * i + 3))), (4, .int (xs (6 * i + 4))), (5, .int (xs (6 * i + 5))), (6, .ref 3467)]) (st' := [.int (xs (6 * i + 5)), .int (xs (6 * i + 4)), .int (xs (6 * i + 3)), .int (xs (6 * i + 2)), .int (xs (6 * i + 1)), .ref 0, .int 0, .ref 3467]) (by decide +kernel) rfl rfl ?_
      refine ab_fin.call (i := .invokevirtual 40) (k := 3) (y := 3084) (As := [.ref 0, .int (xs (6 * i + 1)), .int (xs (6 * i + 2)), .int (xs (6 * i + 3)), .int (xs (6 * i + 4)), .int (xs (6 * i + 5))]) (rest := [.int 0, .ref 3467]) (M' := (mX12_nearer, [])) (by decide +kernel) (ab_cv rfl rfl e13 ⟨(Nat.le_of_ble_eq_true rfl), (Nat.le_of_ble_eq_true rfl)⟩ rfl) rfl (Nat.le_of_ble_eq_true rfl) ?_
      show ab_fin _ _ _ _ 0 [(0, .ref 0), (1, .int (xs (6 * i + 1))), (2, .int (xs (6 * i + 2))), (3, .int (xs (6 * i + 3))), (4, .int (xs (6 * i + 4))), (5, .int (xs (6 * i + 5)))] [] _ _
      refine W0.C hG (fun a => [(0, .ref a), (1, .int (xs (6 * i + 1))), (2, .int (xs (6 * i + 2))), (3, .int (xs (6 * i + 3))), (4, .int (xs (6 * i + 4))), (5, .int (xs (6 * i + 5)))]) (fun g => rfl) hC (fun r0 hc1 fC1 h1 q1 W1 => ?_)
      obtain ⟨x9, e9⟩ := q1.2
      subst e9
      show ab_bk _ _ _ _ _ _ _ _ _ (.inr ("java/lang/IndexOutOfBoundsException", fC1 x9)) _
      refine ab_bk.catch (hp := 19) (by decide +kernel) rfl ?_
      refine ab_fin.s2 (i := .astore 7) (k := 2) (pc' := 21) (lv' := [(7, .ref (fC1 x9)), (0, .ref 0), (1, .int (xs (6 * i + 1))), (2, .int (xs (6 * i + 2))), (3, .int (xs (6 * i + 3))), (4, .int (xs (6 * i + 4))), (5, .int (xs (6 * i + 5))), (6, .ref 3467)]) (st' := []) (by decide +kernel) rfl rfl ?_
      refine ab_fin.s1i (i := .iconst 1) (k := 1) (pc' := 22) (n := 1) (by decide +kernel) rfl (by decide +kernel) rfl ?_
      refine ab_fin.ret (i := .ireturn) (k := 1) (some (.int 1)) (by decide +kernel) rfl ?_
      refine ab_bk.back (pc' := 698) (st' := [.int 1]) rfl rfl ?_
      refine ab_fin.s2 (i := .istore 5) (k := 2) (pc' := 700) (lv' := [(5, .int 1), (4, .int (Int32.ofNat (6 * i))), (3, .ref 3467), (2, .ref 102), (1, .ref 0), (0, .retAddr 9)]) (st' := []) (by decide +kernel) rfl rfl ?_
      refine ab_fin.s2 (i := .aload_n 2) (k := 1) (pc' := 701) (lv' := [(5, .int 1), (4, .int (Int32.ofNat (6 * i))), (3, .ref 3467), (2, .ref 102), (1, .ref 0), (0, .retAddr 9)]) (st' := [.ref 102]) (by decide +kernel) rfl rfl ?_
      refine ab_fin.s2 (i := .aload_n 0) (k := 1) (pc' := 702) (lv' := [(5, .int 1), (4, .int (Int32.ofNat (6 * i))), (3, .ref 3467), (2, .ref 102), (1, .ref 0), (0, .retAddr 9)]) (st' := [.retAddr 9, .ref 102]) (by decide +kernel) rfl rfl ?_
      refine ab_fin.s2 (i := .iload 4) (k := 2) (pc' := 704) (lv' := [(5, .int 1), (4, .int (Int32.ofNat (6 * i))), (3, .ref 3467), (2, .ref 102), (1, .ref 0), (0, .retAddr 9)]) (st' := [.int (Int32.ofNat (6 * i)), .retAddr 9, .ref 102]) (by decide +kernel) rfl rfl ?_
      refine ab_fin.s1i (i := .iconst 1) (k := 1) (pc' := 705) (n := 1) (by decide +kernel) rfl (by decide +kernel) rfl ?_
      refine ab_fin.s1 (i := .iadd) (k := 1) (pc' := 706) (st' := [.int (Int32.ofNat (6 * i) + 1), .retAddr 9, .ref 102]) (by decide +kernel) rfl rfl ?_
      refine ab_fin.s8 (i := .iaload) (k := 1) (pc' := 707) (st' := [.int (xs (6 * i + 1)), .ref 102]) (by decide +kernel) (ab_x0 rfl (ix_v (i := i) (j := 1) (L := L) (y := 1) (by omega) hL rfl).1 (congrArg (fun k => Value.int (xs k)) (ix_v (i := i) (j := 1) (L := L) (y := 1) (by omega) hL rfl).2)) rfl rfl rfl ?_
      refine ab_fin.s2 (i := .aload_n 0) (k := 1) (pc' := 708) (lv' := [(5, .int 1), (4, .int (Int32.ofNat (6 * i))), (3, .ref 3467), (2, .ref 102), (1, .ref 0), (0, .retAddr 9)]) (st' := [.retAddr 9, .int (xs (6 * i + 1)), .ref 102]) (by decide +kernel) rfl rfl ?_
      refine ab_fin.s2 (i := .iload 4) (k := 2) (pc' := 710) (lv' := [(5, .int 1), (4, .int (Int32.ofNat (6 * i))), (3, .ref 3467), (2, .ref 102), (1, .ref 0), (0, .retAddr 9)]) (st' := [.int (Int32.ofNat (6 * i)), .retAddr 9, .int (xs (6 * i + 1)), .ref 102]) (by decide +kernel) rfl rfl ?_
      refine ab_fin.s1i (i := .iconst 2) (k := 1) (pc' := 711) (n := 2) (by decide +kernel) rfl (by decide +kernel) rfl ?_
      refine ab_fin.s1 (i := .iadd) (k := 1) (pc' := 712) (st' := [.int (Int32.ofNat (6 * i) + 2), .retAddr 9, .int (xs (6 * i + 1)), .ref 102]) (by decide +kernel) rfl rfl ?_
      refine ab_fin.s8 (i := .iaload) (k := 1) (pc' := 713) (st' := [.int (xs (6 * i + 2)), .int (xs (6 * i + 1)), .ref 102]) (by decide +kernel) (ab_x0 rfl (ix_v (i := i) (j := 2) (L := L) (y := 2) (by omega) hL rfl).1 (congrArg (fun k => Value.int (xs k)) (ix_v (i := i) (j := 2) (L := L) (y := 2) (by omega) hL rfl).2)) rfl rfl rfl ?_
      refine ab_fin.s2 (i := .aload_n 0) (k := 1) (pc' := 714) (lv' := [(5, .int 1), (4, .int (Int32.ofNat (6 * i))), (3, .ref 3467), (2, .ref 102), (1, .ref 0), (0, .retAddr 9)]) (st' := [.retAddr 9, .int (xs (6 * i + 2)), .int (xs (6 * i + 1)), .ref 102]) (by decide +kernel) rfl rfl ?_
      refine ab_fin.s2 (i := .iload 4) (k := 2) (pc' := 716) (lv' := [(5, .int 1), (4, .int (Int32.ofNat (6 * i))), (3, .ref 3467), (2, .ref 102), (1, .ref 0), (0, .retAddr 9)]) (st' := [.int (Int32.ofNat (6 * i)), .retAddr 9, .int (xs (6 * i + 2)), .int (xs (6 * i + 1)), .ref 102]) (by decide +kernel) rfl rfl ?_
      refine ab_fin.s1i (i := .iconst 3) (k := 1) (pc' := 717) (n := 3) (by decide +kernel) rfl (by decide +kernel) rfl ?_
      refine ab_fin.s1 (i := .iadd) (k := 1) (pc' := 718) (st' := [.int (Int32.ofNat (6 * i) + 3), .retAddr 9, .int (xs (6 * i + 2)), .int (xs (6 * i + 1)), .ref 102]) (by decide +kernel) rfl rfl ?_
      refine ab_fin.s8 (i := .iaload) (k := 1) (pc' := 719) (st' := [.int (xs (6 * i + 3)), .int (xs (6 * i + 2)), .int (xs (6 * i + 1)), .ref 102]) (by decide +kernel) (ab_x0 rfl (ix_v (i := i) (j := 3) (L := L) (y := 3) (by omega) hL rfl).1 (congrArg (fun k => Value.int (xs k)) (ix_v (i := i) (j := 3) (L := L) (y := 3) (by omega) hL rfl).2)) rfl rfl rfl ?_
      refine ab_fin.s2 (i := .aload_n 0) (k := 1) (pc' := 720) (lv' := [(5, .int 1), (4, .int (Int32.ofNat (6 * i))), (3, .ref 3467), (2, .ref 102), (1, .ref 0), (0, .retAddr 9)]) (st' := [.retAddr 9, .int (xs (6 * i + 3)), .int (xs (6 * i + 2)), .int (xs (6 * i + 1)), .ref 102]) (by decide +kernel) rfl rfl ?_
      refine ab_fin.s2 (i := .iload 4) (k := 2) (pc' := 722) (lv' := [(5, .int 1), (4, .int (Int32.ofNat (6 * i))), (3, .ref 3467), (2, .ref 102), (1, .ref 0), (0, .retAddr 9)]) (st' := [.int (Int32.ofNat (6 * i)), .retAddr 9, .int (xs (6 * i + 3)), .int (xs (6 * i + 2)), .int (xs (6 * i + 1)), .ref 102]) (by decide +kernel) rfl rfl ?_
      refine ab_fin.s1i (i := .iconst 4) (k := 1) (pc' := 723) (n := 4) (by decide +kernel) rfl (by decide +kernel) rfl ?_
      refine ab_fin.s1 (i := .iadd) (k := 1) (pc' := 724) (st' := [.int (Int32.ofNat (6 * i) + 4), .retAddr 9, .int (xs (6 * i + 3)), .int (xs (6 * i + 2)), .int (xs (6 * i + 1)), .ref 102]) (by decide +kernel) rfl rfl ?_
      refine ab_fin.s8 (i := .iaload) (k := 1) (pc' := 725) (st' := [.int (xs (6 * i + 4)), .int (xs (6 * i + 3)), .int (xs (6 * i + 2)), .int (xs (6 * i + 1)), .ref 102]) (by decide +kernel) (ab_x0 rfl (ix_v (i := i) (j := 4) (L := L) (y := 4) (by omega) hL rfl).1 (congrArg (fun k => Value.int (xs k)) (ix_v (i := i) (j := 4) (L := L) (y := 4) (by omega) hL rfl).2)) rfl rfl rfl ?_
      refine ab_fin.s2 (i := .aload_n 0) (k := 1) (pc' := 726) (lv' := [(5, .int 1), (4, .int (Int32.ofNat (6 * i))), (3, .ref 3467), (2, .ref 102), (1, .ref 0), (0, .retAddr 9)]) (st' := [.retAddr 9, .int (xs (6 * i + 4)), .int (xs (6 * i + 3)), .int (xs (6 * i + 2)), .int (xs (6 * i + 1)), .ref 102]) (by decide +kernel) rfl rfl ?_
      refine ab_fin.s2 (i := .iload 4) (k := 2) (pc' := 728) (lv' := [(5, .int 1), (4, .int (Int32.ofNat (6 * i))), (3, .ref 3467), (2, .ref 102), (1, .ref 0), (0, .retAddr 9)]) (st' := [.int (Int32.ofNat (6 * i)), .retAddr 9, .int (xs (6 * i + 4)), .int (xs (6 * i + 3)), .int (xs (6 * i + 2)), .int (xs (6 * i + 1)), .ref 102]) (by decide +kernel) rfl rfl ?_
      refine ab_fin.s1i (i := .iconst 5) (k := 1) (pc' := 729) (n := 5) (by decide +kernel) rfl (by decide +kernel) rfl ?_
      refine ab_fin.s1 (i := .iadd) (k := 1) (pc' := 730) (st' := [.int (Int32.ofNat (6 * i) + 5), .retAddr 9, .int (xs (6 * i + 4)), .int (xs (6 * i + 3)), .int (xs (6 * i + 2)), .int (xs (6 * i + 1)), .ref 102]) (by decide +kernel) rfl rfl ?_
      refine ab_fin.s8 (i := .iaload) (k := 1) (pc' := 731) (st' := [.int (xs (6 * i + 5)), .int (xs (6 * i + 4)), .int (xs (6 * i + 3)), .int (xs (6 * i + 2)), .int (xs (6 * i + 1)), .ref 102]) (by decide +kernel) (ab_x0 rfl (ix_v (i := i) (j := 5) (L := L) (y := 5) (by omega) hL rfl).1 (congrArg (fun k => Value.int (xs k)) (ix_v (i := i) (j := 5) (L := L) (y := 5) (by omega) hL rfl).2)) rfl rfl rfl ?_
      refine ab_fin.call (i := .invokevirtual 113) (k := 3) (y := 6004) (As := [.ref 102, .int (xs (6 * i + 1)), .int (xs (6 * i + 2)), .int (xs (6 * i + 3)), .int (xs (6 * i + 4)), .int (xs (6 * i + 5))]) (rest := []) (M' := (mX23_nearer_, [])) (by decide +kernel) (ab_cv rfl rfl (W1.r0 e24) ⟨(Nat.le_of_ble_eq_true rfl), (Nat.le_of_ble_eq_true rfl)⟩ rfl) rfl (Nat.le_of_ble_eq_true rfl) ?_
      show ab_fin _ _ _ _ 0 [(0, .ref 102), (1, .int (xs (6 * i + 1))), (2, .int (xs (6 * i + 2))), (3, .int (xs (6 * i + 3))), (4, .int (xs (6 * i + 4))), (5, .int (xs (6 * i + 5)))] [] _ _
      refine W1.R hG (fun a => [(0, .ref a), (1, .int (xs (6 * i + 1))), (2, .int (xs (6 * i + 2))), (3, .int (xs (6 * i + 3))), (4, .int (xs (6 * i + 4))), (5, .int (xs (6 * i + 5)))]) (fun g => rfl) hR (fun r0 hr1 fR1 h2 q2 W2 => ?_)
      obtain rfl : r0 = .inl (some (.int 0)) := q2.2.1
      show ab_bk _ _ _ _ _ _ _ _ _ (.inl (some (.int 0))) _
      refine ab_bk.back (pc' := 734) (st' := [.int 0]) rfl rfl ?_
      obtain ⟨fs, t1, t2⟩ := thrR.at W2 q2.2.2
      refine ab_fin.s2 (i := .istore 6) (k := 2) (pc' := 736) (lv' := [(6, .int 0), (5, .int 1), (4, .int (Int32.ofNat (6 * i))), (3, .ref 3467), (2, .ref 102), (1, .ref 0), (0, .retAddr 9)]) (st' := []) (by decide +kernel) rfl rfl ?_
      refine ab_fin.s2 (i := .aload_n 2) (k := 1) (pc' := 737) (lv' := [(6, .int 0), (5, .int 1), (4, .int (Int32.ofNat (6 * i))), (3, .ref 3467), (2, .ref 102), (1, .ref 0), (0, .retAddr 9)]) (st' := [.ref 102]) (by decide +kernel) rfl rfl ?_
      refine ab_fin.call (i := .invokevirtual 75) (k := 3) (y := 5992) (As := [.ref 102]) (rest := []) (M' := (mX23_thrown, [])) (by decide +kernel) (ab_cv rfl rfl t1 ⟨(Nat.le_of_ble_eq_true rfl), (Nat.le_of_ble_eq_true rfl)⟩ rfl) rfl (Nat.le_of_ble_eq_true rfl) ?_
      show ab_fin _ _ _ _ 0 [(0, .ref 102)] [] _ _
      refine ab_fin.s2 (i := .aload_n 0) (k := 1) (pc' := 1) (lv' := [(0, .ref 102)]) (st' := [.ref 102]) (by decide +kernel) rfl rfl ?_
      refine ab_fin.getf (ix := 1000) (k := 110) (v := .int 1) (pc' := 4) (by decide +kernel) rfl t1 t2 rfl ?_
      refine ab_fin.ret (i := .ireturn) (k := 1) (some (.int 1)) (by decide +kernel) rfl ?_
      refine ab_bk.back (pc' := 740) (st' := [.int 1]) rfl rfl ?_
      refine ab_fin.s2 (i := .iload 5) (k := 2) (pc' := 742) (lv' := [(6, .int 0), (5, .int 1), (4, .int (Int32.ofNat (6 * i))), (3, .ref 3467), (2, .ref 102), (1, .ref 0), (0, .retAddr 9)]) (st' := [.int 1, .int 1]) (by decide +kernel) rfl rfl ?_
      refine ab_fin.brT (c := (1 : Int32) = (1 : Int32)) (i := .if_icmp .eq 5) (off := 5) (t := 747) (r := []) (by decide +kernel) rfl (by decide +kernel) rfl ?_
      refine ab_fin.s2 (i := .iload 5) (k := 2) (pc' := 749) (lv' := [(6, .int 0), (5, .int 1), (4, .int (Int32.ofNat (6 * i))), (3, .ref 3467), (2, .ref 102), (1, .ref 0), (0, .retAddr 9)]) (st' := [.int 1]) (by decide +kernel) rfl rfl ?_
      refine ab_fin.brT (c := ¬ (1 : Int32) = 0) (i := .ifCond .ne 15) (off := 15) (t := 764) (r := []) (by decide +kernel) rfl (by decide +kernel) (by decide +kernel) ?_
      refine ab_fin.s3 (i := .goto 326) (k := 3) (t := 1090) (st' := []) (by decide +kernel) (ab_goto (by decide +kernel)) ?_
      refine ab_fin.lv (lv' := [(4, .int (Int32.ofNat (6 * i))), (3, .ref 3467), (2, .ref 102), (1, .ref 0), (0, .retAddr 9)]) ⟨fun q hq => ?_, (by show ([6, 5, 4, 3, 2, 1, 0] : List Nat).Nodup; decide)⟩ (go _ _ _ _ _ _ W2 q1.1 q2.1)
      simp only [List.mem_cons, List.not_mem_nil, or_false] at hq ⊢
      rcases hq with rfl | rfl | rfl | rfl | rfl <;> simp
    · refine ab_fin.s2 (i := .aload_n 1) (k := 1) (pc' := 664) (lv' := [(4, .int (Int32.ofNat (6 * i))), (3, .ref 3467), (2, .ref 102), (1, .ref 0), (0, .retAddr 9)]) (st' := [.ref 0]) (by decide +kernel) rfl rfl ?_
      refine ab_fin.s2 (i := .aload_n 0) (k := 1) (pc' := 665) (lv' := [(4, .int (Int32.ofNat (6 * i))), (3, .ref 3467), (2, .ref 102), (1, .ref 0), (0, .retAddr 9)]) (st' := [.retAddr 9, .ref 0]) (by decide +kernel) rfl rfl ?_
      refine ab_fin.s2 (i := .iload 4) (k := 2) (pc' := 667) (lv' := [(4, .int (Int32.ofNat (6 * i))), (3, .ref 3467), (2, .ref 102), (1, .ref 0), (0, .retAddr 9)]) (st' := [.int (Int32.ofNat (6 * i)), .retAddr 9, .ref 0]) (by decide +kernel) rfl rfl ?_
      refine ab_fin.s1i (i := .iconst 1) (k := 1) (pc' := 668) (n := 1) (by decide +kernel) rfl (by decide +kernel) rfl ?_
      refine ab_fin.s1 (i := .iadd) (k := 1) (pc' := 669) (st' := [.int (Int32.ofNat (6 * i) + 1), .retAddr 9, .ref 0]) (by decide +kernel) rfl rfl ?_
      refine ab_fin.s8 (i := .iaload) (k := 1) (pc' := 670) (st' := [.int (xs (6 * i + 1)), .ref 0]) (by decide +kernel) (ab_x0 rfl (ix_v (i := i) (j := 1) (L := L) (y := 1) (by omega) hL rfl).1 (congrArg (fun k => Value.int (xs k)) (ix_v (i := i) (j := 1) (L := L) (y := 1) (by omega) hL rfl).2)) rfl rfl rfl ?_
      refine ab_fin.s2 (i := .aload_n 0) (k := 1) (pc' := 671) (lv' := [(4, .int (Int32.ofNat (6 * i))), (3, .ref 3467), (2, .ref 102), (1, .ref 0), (0, .retAddr 9)]) (st' := [.retAddr 9, .int (xs (6 * i + 1)), .ref 0]) (by decide +kernel) rfl rfl ?_
      refine ab_fin.s2 (i := .iload 4) (k := 2) (pc' := 673) (lv' := [(4, .int (Int32.ofNat (6 * i))), (3, .ref 3467), (2, .ref 102), (1, .ref 0), (0, .retAddr 9)]) (st' := [.int (Int32.ofNat (6 * i)), .retAddr 9, .int (xs (6 * i + 1)), .ref 0]) (by decide +kernel) rfl rfl ?_
      refine ab_fin.s1i (i := .iconst 2) (k := 1) (pc' := 674) (n := 2) (by decide +kernel) rfl (by decide +kernel) rfl ?_
      refine ab_fin.s1 (i := .iadd) (k := 1) (pc' := 675) (st' := [.int (Int32.ofNat (6 * i) + 2), .retAddr 9, .int (xs (6 * i + 1)), .ref 0]) (by decide +kernel) rfl rfl ?_
      refine ab_fin.s8 (i := .iaload) (k := 1) (pc' := 676) (st' := [.int (xs (6 * i + 2)), .int (xs (6 * i + 1)), .ref 0]) (by decide +kernel) (ab_x0 rfl (ix_v (i := i) (j := 2) (L := L) (y := 2) (by omega) hL rfl).1 (congrArg (fun k => Value.int (xs k)) (ix_v (i := i) (j := 2) (L := L) (y := 2) (by omega) hL rfl).2)) rfl rfl rfl ?_
      refine ab_fin.s2 (i := .aload_n 0) (k := 1) (pc' := 677) (lv' := [(4, .int (Int32.ofNat (6 * i))), (3, .ref 3467), (2, .ref 102), (1, .ref 0), (0, .retAddr 9)]) (st' := [.retAddr 9, .int (xs (6 * i + 2)), .int (xs (6 * i + 1)), .ref 0]) (by decide +kernel) rfl rfl ?_
      refine ab_fin.s2 (i := .iload 4) (k := 2) (pc' := 679) (lv' := [(4, .int (Int32.ofNat (6 * i))), (3, .ref 3467), (2, .ref 102), (1, .ref 0), (0, .retAddr 9)]) (st' := [.int (Int32.ofNat (6 * i)), .retAddr 9, .int (xs (6 * i + 2)), .int (xs (6 * i + 1)), .ref 0]) (by decide +kernel) rfl rfl ?_
      refine ab_fin.s1i (i := .iconst 3) (k := 1) (pc' := 680) (n := 3) (by decide +kernel) rfl (by decide +kernel) rfl ?_
      refine ab_fin.s1 (i := .iadd) (k := 1) (pc' := 681) (st' := [.int (Int32.ofNat (6 * i) + 3), .retAddr 9, .int (xs (6 * i + 2)), .int (xs (6 * i + 1)), .ref 0]) (by decide +kernel) rfl rfl ?_
      refine ab_fin.s8 (i := .iaload) (k := 1) (pc' := 682) (st' := [.int (xs (6 * i + 3)), .int (xs (6 * i + 2)), .int (xs (6 * i + 1)), .ref 0]) (by decide +kernel) (ab_x0 rfl (ix_v (i := i) (j := 3) (L := L) (y := 3) (by omega) hL rfl).1 (congrArg (fun k => Value.int (xs k)) (ix_v (i := i) (j := 3) (L := L) (y := 3) (by omega) hL rfl).2)) rfl rfl rfl ?_
      refine ab_fin.s2 (i := .aload_n 0) (k := 1) (pc' := 683) (lv' := [(4, .int (Int32.ofNat (6 * i))), (3, .ref 3467), (2, .ref 102), (1, .ref 0), (0, .retAddr 9)]) (st' := [.retAddr 9, .int (xs (6 * i + 3)), .int (xs (6 * i + 2)), .int (xs (6 * i + 1)), .ref 0]) (by decide +kernel) rfl rfl ?_
      refine ab_fin.s2 (i := .iload 4) (k := 2) (pc' := 685) (lv' := [(4, .int (Int32.ofNat (6 * i))), (3, .ref 3467), (2, .ref 102), (1, .ref 0), (0, .retAddr 9)]) (st' := [.int (Int32.ofNat (6 * i)), .retAddr 9, .int (xs (6 * i + 3)), .int (xs (6 * i + 2)), .int (xs (6 * i + 1)), .ref 0]) (by decide +kernel) rfl rfl ?_
      refine ab_fin.s1i (i := .iconst 4) (k := 1) (pc' := 686) (n := 4) (by decide +kernel) rfl (by decide +kernel) rfl ?_
      refine ab_fin.s1 (i := .iadd) (k := 1) (pc' := 687) (st' := [.int (Int32.ofNat (6 * i) + 4), .retAddr 9, .int (xs (6 * i + 3)), .int (xs (6 * i + 2)), .int (xs (6 * i + 1)), .ref 0]) (by decide +kernel) rfl rfl ?_
      refine ab_fin.s8 (i := .iaload) (k := 1) (pc' := 688) (st' := [.int (xs (6 * i + 4)), .int (xs (6 * i + 3)), .int (xs (6 * i + 2)), .int (xs (6 * i + 1)), .ref 0]) (by decide +kernel) (ab_x0 rfl (ix_v (i := i) (j := 4) (L := L) (y := 4) (by omega) hL rfl).1 (congrArg (fun k => Value.int (xs k)) (ix_v (i := i) (j := 4) (L := L) (y := 4) (by omega) hL rfl).2)) rfl rfl rfl ?_
      refine ab_fin.s2 (i := .aload_n 0) (k := 1) (pc' := 689) (lv' := [(4, .int (Int32.ofNat (6 * i))), (3, .ref 3467), (2, .ref 102), (1, .ref 0), (0, .retAddr 9)]) (st' := [.retAddr 9, .int (xs (6 * i + 4)), .int (xs (6 * i + 3)), .int (xs (6 * i + 2)), .int (xs (6 * i + 1)), .ref 0]) (by decide +kernel) rfl rfl ?_
      refine ab_fin.s2 (i := .iload 4) (k := 2) (pc' := 691) (lv' := [(4, .int (Int32.ofNat (6 * i))), (3, .ref 3467), (2, .ref 102), (1, .ref 0), (0, .retAddr 9)]) (st' := [.int (Int32.ofNat (6 * i)), .retAddr 9, .int (xs (6 * i + 4)), .int (xs (6 * i + 3)), .int (xs (6 * i + 2)), .int (xs (6 * i + 1)), .ref 0]) (by decide +kernel) rfl rfl ?_
      refine ab_fin.s1i (i := .iconst 5) (k := 1) (pc' := 692) (n := 5) (by decide +kernel) rfl (by decide +kernel) rfl ?_
      refine ab_fin.s1 (i := .iadd) (k := 1) (pc' := 693) (st' := [.int (Int32.ofNat (6 * i) + 5), .retAddr 9, .int (xs (6 * i + 4)), .int (xs (6 * i + 3)), .int (xs (6 * i + 2)), .int (xs (6 * i + 1)), .ref 0]) (by decide +kernel) rfl rfl ?_
      refine ab_fin.s8 (i := .iaload) (k := 1) (pc' := 694) (st' := [.int (xs (6 * i + 5)), .int (xs (6 * i + 4)), .int (xs (6 * i + 3)), .int (xs (6 * i + 2)), .int (xs (6 * i + 1)), .ref 0]) (by decide +kernel) (ab_x0 rfl (ix_v (i := i) (j := 5) (L := L) (y := 5) (by omega) hL rfl).1 (congrArg (fun k => Value.int (xs k)) (ix_v (i := i) (j := 5) (L := L) (y := 5) (by omega) hL rfl).2)) rfl rfl rfl ?_
      refine ab_fin.s2 (i := .aload_n 3) (k := 1) (pc' := 695) (lv' := [(4, .int (Int32.ofNat (6 * i))), (3, .ref 3467), (2, .ref 102), (1, .ref 0), (0, .retAddr 9)]) (st' := [.ref 3467, .int (xs (6 * i + 5)), .int (xs (6 * i + 4)), .int (xs (6 * i + 3)), .int (xs (6 * i + 2)), .int (xs (6 * i + 1)), .ref 0]) (by decide +kernel) rfl rfl ?_
      refine ab_fin.call (i := .invokestatic 111) (k := 3) (y := 13519) (As := [.ref 0, .int (xs (6 * i + 1)), .int (xs (6 * i + 2)), .int (xs (6 * i + 3)), .int (xs (6 * i + 4)), .int (xs (6 * i + 5)), .ref 3467]) (rest := []) (M' := (mL_nearer, [(0, 16, 19, 13), (0, 16, 23, 19)])) (by decide +kernel) (ab_cs rfl rfl ⟨(Nat.le_of_ble_eq_true rfl), (Nat.le_of_ble_eq_true rfl)⟩ rfl) rfl (Nat.le_of_ble_eq_true rfl) ?_
      show ab_fin _ _ _ _ 0 [(0, .ref 0), (1, .int (xs (6 * i + 1))), (2, .int (xs (6 * i + 2))), (3, .int (xs (6 * i + 3))), (4, .int (xs (6 * i + 4))), (5, .int (xs (6 * i + 5))), (6, .ref 3467)] [] _ _
      refine ab_fin.s2 (i := .aload 6) (k := 2) (pc' := 2) (lv' := [(0, .ref 0), (1, .int (xs (6 * i + 1))), (2, .int (xs (6 * i + 2))), (3, .int (xs (6 * i + 3))), (4, .int (xs (6 * i + 4))), (5, .int (xs (6 * i + 5))), (6, .ref 3467)]) (st' := [.ref 3467]) (by decide +kernel) rfl rfl ?_
      refine ab_fin.s1i (i := .iconst 0) (k := 1) (pc' := 3) (n := 0) (by decide +kernel) rfl (by decide +kernel) rfl ?_
      refine ab_fin.s2 (i := .aload_n 0) (k := 1) (pc' := 4) (lv' := [(0, .ref 0), (1, .int (xs (6 * i + 1))), (2, .int (xs (6 * i + 2))), (3, .int (xs (6 * i + 3))), (4, .int (xs (6 * i + 4))), (5, .int (xs (6 * i + 5))), (6, .ref 3467)]) (st' := [.ref 0, .int 0, .ref 3467]) (by decide +kernel) rfl rfl ?_
      refine ab_fin.s2 (i := .iload_n 1) (k := 1) (pc' := 5) (lv' := [(0, .ref 0), (1, .int (xs (6 * i + 1))), (2, .int (xs (6 * i + 2))), (3, .int (xs (6 * i + 3))), (4, .int (xs (6 * i + 4))), (5, .int (xs (6 * i + 5))), (6, .ref 3467)]) (st' := [.int (xs (6 * i + 1)), .ref 0, .int 0, .ref 3467]) (by decide +kernel) rfl rfl ?_
      refine ab_fin.s2 (i := .iload_n 2) (k := 1) (pc' := 6) (lv' := [(0, .ref 0), (1, .int (xs (6 * i + 1))), (2, .int (xs (6 * i + 2))), (3, .int (xs (6 * i + 3))), (4, .int (xs (6 * i + 4))), (5, .int (xs (6 * i + 5))), (6, .ref 3467)]) (st' := [.int (xs (6 * i + 2)), .int (xs (6 * i + 1)), .ref 0, .int 0, .ref 3467]) (by decide +kernel) rfl rfl ?_
      refine ab_fin.s2 (i := .iload_n 3) (k := 1) (pc' := 7) (lv' := [(0, .ref 0), (1, .int (xs (6 * i + 1))), (2, .int (xs (6 * i + 2))), (3, .int (xs (6 * i + 3))), (4, .int (xs (6 * i + 4))), (5, .int (xs (6 * i + 5))), (6, .ref 3467)]) (st' := [.int (xs (6 * i + 3)), .int (xs (6 * i + 2)), .int (xs (6 * i + 1)), .ref 0, .int 0, .ref 3467]) (by decide +kernel) rfl rfl ?_
      refine ab_fin.s2 (i := .iload 4) (k := 2) (pc' := 9) (lv' := [(0, .ref 0), (1, .int (xs (6 * i + 1))), (2, .int (xs (6 * i + 2))), (3, .int (xs (6 * i + 3))), (4, .int (xs (6 * i + 4))), (5, .int (xs (6 * i + 5))), (6, .ref 3467)]) (st' := [.int (xs (6 * i + 4)), .int (xs (6 * i + 3)), .int (xs (6 * i + 2)), .int (xs (6 * i + 1)), .ref 0, .int 0, .ref 3467]) (by decide +kernel) rfl rfl ?_
      refine ab_fin.s2 (i := .iload 5) (k := 2) (pc' := 11) (lv' := [(0, .ref 0), (1, .int (xs (6 * i + 1))), (2, .int (xs (6 * i + 2))), (3, .int (xs (6 * i + 3))), (4, .int (xs (6 * i + 4))), (5, .int (xs (6 * i + 5))), (6, .ref 3467)]) (st' := [.int (xs (6 * i + 5)), .int (xs (6 * i + 4)), .int (xs (6 * i + 3)), .int (xs (6 * i + 2)), .int (xs (6 * i + 1)), .ref 0, .int 0, .ref 3467]) (by decide +kernel) rfl rfl ?_
      refine ab_fin.call (i := .invokevirtual 40) (k := 3) (y := 3084) (As := [.ref 0, .int (xs (6 * i + 1)), .int (xs (6 * i + 2)), .int (xs (6 * i + 3)), .int (xs (6 * i + 4)), .int (xs (6 * i + 5))]) (rest := [.int 0, .ref 3467]) (M' := (mX12_nearer, [])) (by decide +kernel) (ab_cv rfl rfl e13 ⟨(Nat.le_of_ble_eq_true rfl), (Nat.le_of_ble_eq_true rfl)⟩ rfl) rfl (Nat.le_of_ble_eq_true rfl) ?_
      show ab_fin _ _ _ _ 0 [(0, .ref 0), (1, .int (xs (6 * i + 1))), (2, .int (xs (6 * i + 2))), (3, .int (xs (6 * i + 3))), (4, .int (xs (6 * i + 4))), (5, .int (xs (6 * i + 5)))] [] _ _
      refine W0.C hG (fun a => [(0, .ref a), (1, .int (xs (6 * i + 1))), (2, .int (xs (6 * i + 2))), (3, .int (xs (6 * i + 3))), (4, .int (xs (6 * i + 4))), (5, .int (xs (6 * i + 5)))]) (fun g => rfl) hC (fun r0 hc1 fC1 h1 q1 W1 => ?_)
      obtain ⟨x9, e9⟩ := q1.2
      subst e9
      show ab_bk _ _ _ _ _ _ _ _ _ (.inr ("java/lang/IllegalArgumentException", fC1 x9)) _
      refine ab_bk.catch (hp := 23) (by decide +kernel) rfl ?_
      refine ab_fin.s2 (i := .astore 7) (k := 2) (pc' := 25) (lv' := [(7, .ref (fC1 x9)), (0, .ref 0), (1, .int (xs (6 * i + 1))), (2, .int (xs (6 * i + 2))), (3, .int (xs (6 * i + 3))), (4, .int (xs (6 * i + 4))), (5, .int (xs (6 * i + 5))), (6, .ref 3467)]) (st' := []) (by decide +kernel) rfl rfl ?_
      refine ab_fin.s1i (i := .iconst 2) (k := 1) (pc' := 26) (n := 2) (by decide +kernel) rfl (by decide +kernel) rfl ?_
      refine ab_fin.ret (i := .ireturn) (k := 1) (some (.int 2)) (by decide +kernel) rfl ?_
      refine ab_bk.back (pc' := 698) (st' := [.int 2]) rfl rfl ?_
      refine ab_fin.s2 (i := .istore 5) (k := 2) (pc' := 700) (lv' := [(5, .int 2), (4, .int (Int32.ofNat (6 * i))), (3, .ref 3467), (2, .ref 102), (1, .ref 0), (0, .retAddr 9)]) (st' := []) (by decide +kernel) rfl rfl ?_
      refine ab_fin.s2 (i := .aload_n 2) (k := 1) (pc' := 701) (lv' := [(5, .int 2), (4, .int (Int32.ofNat (6 * i))), (3, .ref 3467), (2, .ref 102), (1, .ref 0), (0, .retAddr 9)]) (st' := [.ref 102]) (by decide +kernel) rfl rfl ?_
      refine ab_fin.s2 (i := .aload_n 0) (k := 1) (pc' := 702) (lv' := [(5, .int 2), (4, .int (Int32.ofNat (6 * i))), (3, .ref 3467), (2, .ref 102), (1, .ref 0), (0, .retAddr 9)]) (st' := [.retAddr 9, .ref 102]) (by decide +kernel) rfl rfl ?_
      refine ab_fin.s2 (i := .iload 4) (k := 2) (pc' := 704) (lv' := [(5, .int 2), (4, .int (Int32.ofNat (6 * i))), (3, .ref 3467), (2, .ref 102), (1, .ref 0), (0, .retAddr 9)]) (st' := [.int (Int32.ofNat (6 * i)), .retAddr 9, .ref 102]) (by decide +kernel) rfl rfl ?_
      refine ab_fin.s1i (i := .iconst 1) (k := 1) (pc' := 705) (n := 1) (by decide +kernel) rfl (by decide +kernel) rfl ?_
      refine ab_fin.s1 (i := .iadd) (k := 1) (pc' := 706) (st' := [.int (Int32.ofNat (6 * i) + 1), .retAddr 9, .ref 102]) (by decide +kernel) rfl rfl ?_
      refine ab_fin.s8 (i := .iaload) (k := 1) (pc' := 707) (st' := [.int (xs (6 * i + 1)), .ref 102]) (by decide +kernel) (ab_x0 rfl (ix_v (i := i) (j := 1) (L := L) (y := 1) (by omega) hL rfl).1 (congrArg (fun k => Value.int (xs k)) (ix_v (i := i) (j := 1) (L := L) (y := 1) (by omega) hL rfl).2)) rfl rfl rfl ?_
      refine ab_fin.s2 (i := .aload_n 0) (k := 1) (pc' := 708) (lv' := [(5, .int 2), (4, .int (Int32.ofNat (6 * i))), (3, .ref 3467), (2, .ref 102), (1, .ref 0), (0, .retAddr 9)]) (st' := [.retAddr 9, .int (xs (6 * i + 1)), .ref 102]) (by decide +kernel) rfl rfl ?_
      refine ab_fin.s2 (i := .iload 4) (k := 2) (pc' := 710) (lv' := [(5, .int 2), (4, .int (Int32.ofNat (6 * i))), (3, .ref 3467), (2, .ref 102), (1, .ref 0), (0, .retAddr 9)]) (st' := [.int (Int32.ofNat (6 * i)), .retAddr 9, .int (xs (6 * i + 1)), .ref 102]) (by decide +kernel) rfl rfl ?_
      refine ab_fin.s1i (i := .iconst 2) (k := 1) (pc' := 711) (n := 2) (by decide +kernel) rfl (by decide +kernel) rfl ?_
      refine ab_fin.s1 (i := .iadd) (k := 1) (pc' := 712) (st' := [.int (Int32.ofNat (6 * i) + 2), .retAddr 9, .int (xs (6 * i + 1)), .ref 102]) (by decide +kernel) rfl rfl ?_
      refine ab_fin.s8 (i := .iaload) (k := 1) (pc' := 713) (st' := [.int (xs (6 * i + 2)), .int (xs (6 * i + 1)), .ref 102]) (by decide +kernel) (ab_x0 rfl (ix_v (i := i) (j := 2) (L := L) (y := 2) (by omega) hL rfl).1 (congrArg (fun k => Value.int (xs k)) (ix_v (i := i) (j := 2) (L := L) (y := 2) (by omega) hL rfl).2)) rfl rfl rfl ?_
      refine ab_fin.s2 (i := .aload_n 0) (k := 1) (pc' := 714) (lv' := [(5, .int 2), (4, .int (Int32.ofNat (6 * i))), (3, .ref 3467), (2, .ref 102), (1, .ref 0), (0, .retAddr 9)]) (st' := [.retAddr 9, .int (xs (6 * i + 2)), .int (xs (6 * i + 1)), .ref 102]) (by decide +kernel) rfl rfl ?_
      refine ab_fin.s2 (i := .iload 4) (k := 2) (pc' := 716) (lv' := [(5, .int 2), (4, .int (Int32.ofNat (6 * i))), (3, .ref 3467), (2, .ref 102), (1, .ref 0), (0, .retAddr 9)]) (st' := [.int (Int32.ofNat (6 * i)), .retAddr 9, .int (xs (6 * i + 2)), .int (xs (6 * i + 1)), .ref 102]) (by decide +kernel) rfl rfl ?_
      refine ab_fin.s1i (i := .iconst 3) (k := 1) (pc' := 717) (n := 3) (by decide +kernel) rfl (by decide +kernel) rfl ?_
      refine ab_fin.s1 (i := .iadd) (k := 1) (pc' := 718) (st' := [.int (Int32.ofNat (6 * i) + 3), .retAddr 9, .int (xs (6 * i + 2)), .int (xs (6 * i + 1)), .ref 102]) (by decide +kernel) rfl rfl ?_
      refine ab_fin.s8 (i := .iaload) (k := 1) (pc' := 719) (st' := [.int (xs (6 * i + 3)), .int (xs (6 * i + 2)), .int (xs (6 * i + 1)), .ref 102]) (by decide +kernel) (ab_x0 rfl (ix_v (i := i) (j := 3) (L := L) (y := 3) (by omega) hL rfl).1 (congrArg (fun k => Value.int (xs k)) (ix_v (i := i) (j := 3) (L := L) (y := 3) (by omega) hL rfl).2)) rfl rfl rfl ?_
      refine ab_fin.s2 (i := .aload_n 0) (k := 1) (pc' := 720) (lv' := [(5, .int 2), (4, .int (Int32.ofNat (6 * i))), (3, .ref 3467), (2, .ref 102), (1, .ref 0), (0, .retAddr 9)]) (st' := [.retAddr 9, .int (xs (6 * i + 3)), .int (xs (6 * i + 2)), .int (xs (6 * i + 1)), .ref 102]) (by decide +kernel) rfl rfl ?_
      refine ab_fin.s2 (i := .iload 4) (k := 2) (pc' := 722) (lv' := [(5, .int 2), (4, .int (Int32.ofNat (6 * i))), (3, .ref 3467), (2, .ref 102), (1, .ref 0), (0, .retAddr 9)]) (st' := [.int (Int32.ofNat (6 * i)), .retAddr 9, .int (xs (6 * i + 3)), .int (xs (6 * i + 2)), .int (xs (6 * i + 1)), .ref 102]) (by decide +kernel) rfl rfl ?_
      refine ab_fin.s1i (i := .iconst 4) (k := 1) (pc' := 723) (n := 4) (by decide +kernel) rfl (by decide +kernel) rfl ?_
      refine ab_fin.s1 (i := .iadd) (k := 1) (pc' := 724) (st' := [.int (Int32.ofNat (6 * i) + 4), .retAddr 9, .int (xs (6 * i + 3)), .int (xs (6 * i + 2)), .int (xs (6 * i + 1)), .ref 102]) (by decide +kernel) rfl rfl ?_
      refine ab_fin.s8 (i := .iaload) (k := 1) (pc' := 725) (st' := [.int (xs (6 * i + 4)), .int (xs (6 * i + 3)), .int (xs (6 * i + 2)), .int (xs (6 * i + 1)), .ref 102]) (by decide +kernel) (ab_x0 rfl (ix_v (i := i) (j := 4) (L := L) (y := 4) (by omega) hL rfl).1 (congrArg (fun k => Value.int (xs k)) (ix_v (i := i) (j := 4) (L := L) (y := 4) (by omega) hL rfl).2)) rfl rfl rfl ?_
      refine ab_fin.s2 (i := .aload_n 0) (k := 1) (pc' := 726) (lv' := [(5, .int 2), (4, .int (Int32.ofNat (6 * i))), (3, .ref 3467), (2, .ref 102), (1, .ref 0), (0, .retAddr 9)]) (st' := [.retAddr 9, .int (xs (6 * i + 4)), .int (xs (6 * i + 3)), .int (xs (6 * i + 2)), .int (xs (6 * i + 1)), .ref 102]) (by decide +kernel) rfl rfl ?_
      refine ab_fin.s2 (i := .iload 4) (k := 2) (pc' := 728) (lv' := [(5, .int 2), (4, .int (Int32.ofNat (6 * i))), (3, .ref 3467), (2, .ref 102), (1, .ref 0), (0, .retAddr 9)]) (st' := [.int (Int32.ofNat (6 * i)), .retAddr 9, .int (xs (6 * i + 4)), .int (xs (6 * i + 3)), .int (xs (6 * i + 2)), .int (xs (6 * i + 1)), .ref 102]) (by decide +kernel) rfl rfl ?_
      refine ab_fin.s1i (i := .iconst 5) (k := 1) (pc' := 729) (n := 5) (by decide +kernel) rfl (by decide +kernel) rfl ?_
      refine ab_fin.s1 (i := .iadd) (k := 1) (pc' := 730) (st' := [.int (Int32.ofNat (6 * i) + 5), .retAddr 9, .int (xs (6 * i + 4)), .int (xs (6 * i + 3)), .int (xs (6 * i + 2)), .int (xs (6 * i + 1)), .ref 102]) (by decide +kernel) rfl rfl ?_
      refine ab_fin.s8 (i := .iaload) (k := 1) (pc' := 731) (st' := [.int (xs (6 * i + 5)), .int (xs (6 * i + 4)), .int (xs (6 * i + 3)), .int (xs (6 * i + 2)), .int (xs (6 * i + 1)), .ref 102]) (by decide +kernel) (ab_x0 rfl (ix_v (i := i) (j := 5) (L := L) (y := 5) (by omega) hL rfl).1 (congrArg (fun k => Value.int (xs k)) (ix_v (i := i) (j := 5) (L := L) (y := 5) (by omega) hL rfl).2)) rfl rfl rfl ?_
      refine ab_fin.call (i := .invokevirtual 113) (k := 3) (y := 6004) (As := [.ref 102, .int (xs (6 * i + 1)), .int (xs (6 * i + 2)), .int (xs (6 * i + 3)), .int (xs (6 * i + 4)), .int (xs (6 * i + 5))]) (rest := []) (M' := (mX23_nearer_, [])) (by decide +kernel) (ab_cv rfl rfl (W1.r0 e24) ⟨(Nat.le_of_ble_eq_true rfl), (Nat.le_of_ble_eq_true rfl)⟩ rfl) rfl (Nat.le_of_ble_eq_true rfl) ?_
      show ab_fin _ _ _ _ 0 [(0, .ref 102), (1, .int (xs (6 * i + 1))), (2, .int (xs (6 * i + 2))), (3, .int (xs (6 * i + 3))), (4, .int (xs (6 * i + 4))), (5, .int (xs (6 * i + 5)))] [] _ _
      refine W1.R hG (fun a => [(0, .ref a), (1, .int (xs (6 * i + 1))), (2, .int (xs (6 * i + 2))), (3, .int (xs (6 * i + 3))), (4, .int (xs (6 * i + 4))), (5, .int (xs (6 * i + 5)))]) (fun g => rfl) hR (fun r0 hr1 fR1 h2 q2 W2 => ?_)
      obtain rfl : r0 = .inl (some (.int 0)) := q2.2.1
      show ab_bk _ _ _ _ _ _ _ _ _ (.inl (some (.int 0))) _
      refine ab_bk.back (pc' := 734) (st' := [.int 0]) rfl rfl ?_
      obtain ⟨fs, t1, t2⟩ := thrR.at W2 q2.2.2
      refine ab_fin.s2 (i := .istore 6) (k := 2) (pc' := 736) (lv' := [(6, .int 0), (5, .int 2), (4, .int (Int32.ofNat (6 * i))), (3, .ref 3467), (2, .ref 102), (1, .ref 0), (0, .retAddr 9)]) (st' := []) (by decide +kernel) rfl rfl ?_
      refine ab_fin.s2 (i := .aload_n 2) (k := 1) (pc' := 737) (lv' := [(6, .int 0), (5, .int 2), (4, .int (Int32.ofNat (6 * i))), (3, .ref 3467), (2, .ref 102), (1, .ref 0), (0, .retAddr 9)]) (st' := [.ref 102]) (by decide +kernel) rfl rfl ?_
      refine ab_fin.call (i := .invokevirtual 75) (k := 3) (y := 5992) (As := [.ref 102]) (rest := []) (M' := (mX23_thrown, [])) (by decide +kernel) (ab_cv rfl rfl t1 ⟨(Nat.le_of_ble_eq_true rfl), (Nat.le_of_ble_eq_true rfl)⟩ rfl) rfl (Nat.le_of_ble_eq_true rfl) ?_
      show ab_fin _ _ _ _ 0 [(0, .ref 102)] [] _ _
      refine ab_fin.s2 (i := .aload_n 0) (k := 1) (pc' := 1) (lv' := [(0, .ref 102)]) (st' := [.ref 102]) (by decide +kernel) rfl rfl ?_
      refine ab_fin.getf (ix := 1000) (k := 110) (v := .int 2) (pc' := 4) (by decide +kernel) rfl t1 t2 rfl ?_
      refine ab_fin.ret (i := .ireturn) (k := 1) (some (.int 2)) (by decide +kernel) rfl ?_
      refine ab_bk.back (pc' := 740) (st' := [.int 2]) rfl rfl ?_
      refine ab_fin.s2 (i := .iload 5) (k := 2) (pc' := 742) (lv' := [(6, .int 0), (5, .int 2), (4, .int (Int32.ofNat (6 * i))), (3, .ref 3467), (2, .ref 102), (1, .ref 0), (0, .retAddr 9)]) (st' := [.int 2, .int 2]) (by decide +kernel) rfl rfl ?_
      refine ab_fin.brT (c := (2 : Int32) = (2 : Int32)) (i := .if_icmp .eq 5) (off := 5) (t := 747) (r := []) (by decide +kernel) rfl (by decide +kernel) rfl ?_
      refine ab_fin.s2 (i := .iload 5) (k := 2) (pc' := 749) (lv' := [(6, .int 0), (5, .int 2), (4, .int (Int32.ofNat (6 * i))), (3, .ref 3467), (2, .ref 102), (1, .ref 0), (0, .retAddr 9)]) (st' := [.int 2]) (by decide +kernel) rfl rfl ?_
      refine ab_fin.brT (c := ¬ (2 : Int32) = 0) (i := .ifCond .ne 15) (off := 15) (t := 764) (r := []) (by decide +kernel) rfl (by decide +kernel) (by decide +kernel) ?_
      refine ab_fin.s3 (i := .goto 326) (k := 3) (t := 1090) (st' := []) (by decide +kernel) (ab_goto (by decide +kernel)) ?_
      refine ab_fin.lv (lv' := [(4, .int (Int32.ofNat (6 * i))), (3, .ref 3467), (2, .ref 102), (1, .ref 0), (0, .retAddr 9)]) ⟨fun q hq => ?_, (by show ([6, 5, 4, 3, 2, 1, 0] : List Nat).Nodup; decide)⟩ (go _ _ _ _ _ _ W2 q1.1 q2.1)
      simp only [List.mem_cons, List.not_mem_nil, or_false] at hq ⊢
      rcases hq with rfl | rfl | rfl | rfl | rfl <;> simp
  · refine ab_fin.s2 (i := .aload_n 1) (k := 1) (pc' := 664) (lv' := [(4, .int (Int32.ofNat (6 * i))), (3, .ref 3467), (2, .ref 102), (1, .ref 0), (0, .retAddr 9)]) (st' := [.ref 0]) (by decide +kernel) rfl rfl ?_
    refine ab_fin.s2 (i := .aload_n 0) (k := 1) (pc' := 665) (lv' := [(4, .int (Int32.ofNat (6 * i))), (3, .ref 3467), (2, .ref 102), (1, .ref 0), (0, .retAddr 9)]) (st' := [.retAddr 9, .ref 0]) (by decide +kernel) rfl rfl ?_
    refine ab_fin.s2 (i := .iload 4) (k := 2) (pc' := 667) (lv' := [(4, .int (Int32.ofNat (6 * i))), (3, .ref 3467), (2, .ref 102), (1, .ref 0), (0, .retAddr 9)]) (st' := [.int (Int32.ofNat (6 * i)), .retAddr 9, .ref 0]) (by decide +kernel) rfl rfl ?_
    refine ab_fin.s1i (i := .iconst 1) (k := 1) (pc' := 668) (n := 1) (by decide +kernel) rfl (by decide +kernel) rfl ?_
    refine ab_fin.s1 (i := .iadd) (k := 1) (pc' := 669) (st' := [.int (Int32.ofNat (6 * i) + 1), .retAddr 9, .ref 0]) (by decide +kernel) rfl rfl ?_
    refine ab_fin.s8 (i := .iaload) (k := 1) (pc' := 670) (st' := [.int (xs (6 * i + 1)), .ref 0]) (by decide +kernel) (ab_x0 rfl (ix_v (i := i) (j := 1) (L := L) (y := 1) (by omega) hL rfl).1 (congrArg (fun k => Value.int (xs k)) (ix_v (i := i) (j := 1) (L := L) (y := 1) (by omega) hL rfl).2)) rfl rfl rfl ?_
    refine ab_fin.s2 (i := .aload_n 0) (k := 1) (pc' := 671) (lv' := [(4, .int (Int32.ofNat (6 * i))), (3, .ref 3467), (2, .ref 102), (1, .ref 0), (0, .retAddr 9)]) (st' := [.retAddr 9, .int (xs (6 * i + 1)), .ref 0]) (by decide +kernel) rfl rfl ?_
    refine ab_fin.s2 (i := .iload 4) (k := 2) (pc' := 673) (lv' := [(4, .int (Int32.ofNat (6 * i))), (3, .ref 3467), (2, .ref 102), (1, .ref 0), (0, .retAddr 9)]) (st' := [.int (Int32.ofNat (6 * i)), .retAddr 9, .int (xs (6 * i + 1)), .ref 0]) (by decide +kernel) rfl rfl ?_
    refine ab_fin.s1i (i := .iconst 2) (k := 1) (pc' := 674) (n := 2) (by decide +kernel) rfl (by decide +kernel) rfl ?_
    refine ab_fin.s1 (i := .iadd) (k := 1) (pc' := 675) (st' := [.int (Int32.ofNat (6 * i) + 2), .retAddr 9, .int (xs (6 * i + 1)), .ref 0]) (by decide +kernel) rfl rfl ?_
    refine ab_fin.s8 (i := .iaload) (k := 1) (pc' := 676) (st' := [.int (xs (6 * i + 2)), .int (xs (6 * i + 1)), .ref 0]) (by decide +kernel) (ab_x0 rfl (ix_v (i := i) (j := 2) (L := L) (y := 2) (by omega) hL rfl).1 (congrArg (fun k => Value.int (xs k)) (ix_v (i := i) (j := 2) (L := L) (y := 2) (by omega) hL rfl).2)) rfl rfl rfl ?_
    refine ab_fin.s2 (i := .aload_n 0) (k := 1) (pc' := 677) (lv' := [(4, .int (Int32.ofNat (6 * i))), (3, .ref 3467), (2, .ref 102), (1, .ref 0), (0, .retAddr 9)]) (st' := [.retAddr 9, .int (xs (6 * i + 2)), .int (xs (6 * i + 1)), .ref 0]) (by decide +kernel) rfl rfl ?_
    refine ab_fin.s2 (i := .iload 4) (k := 2) (pc' := 679) (lv' := [(4, .int (Int32.ofNat (6 * i))), (3, .ref 3467), (2, .ref 102), (1, .ref 0), (0, .retAddr 9)]) (st' := [.int (Int32.ofNat (6 * i)), .retAddr 9, .int (xs (6 * i + 2)), .int (xs (6 * i + 1)), .ref 0]) (by decide +kernel) rfl rfl ?_
    refine ab_fin.s1i (i := .iconst 3) (k := 1) (pc' := 680) (n := 3) (by decide +kernel) rfl (by decide +kernel) rfl ?_
    refine ab_fin.s1 (i := .iadd) (k := 1) (pc' := 681) (st' := [.int (Int32.ofNat (6 * i) + 3), .retAddr 9, .int (xs (6 * i + 2)), .int (xs (6 * i + 1)), .ref 0]) (by decide +kernel) rfl rfl ?_
    refine ab_fin.s8 (i := .iaload) (k := 1) (pc' := 682) (st' := [.int (xs (6 * i + 3)), .int (xs (6 * i + 2)), .int (xs (6 * i + 1)), .ref 0]) (by decide +kernel) (ab_x0 rfl (ix_v (i := i) (j := 3) (L := L) (y := 3) (by omega) hL rfl).1 (congrArg (fun k => Value.int (xs k)) (ix_v (i := i) (j := 3) (L := L) (y := 3) (by omega) hL rfl).2)) rfl rfl rfl ?_
    refine ab_fin.s2 (i := .aload_n 0) (k := 1) (pc' := 683) (lv' := [(4, .int (Int32.ofNat (6 * i))), (3, .ref 3467), (2, .ref 102), (1, .ref 0), (0, .retAddr 9)]) (st' := [.retAddr 9, .int (xs (6 * i + 3)), .int (xs (6 * i + 2)), .int (xs (6 * i + 1)), .ref 0]) (by decide +kernel) rfl rfl ?_
    refine ab_fin.s2 (i := .iload 4) (k := 2) (pc' := 685) (lv' := [(4, .int (Int32.ofNat (6 * i))), (3, .ref 3467), (2, .ref 102), (1, .ref 0), (0, .retAddr 9)]) (st' := [.int (Int32.ofNat (6 * i)), .retAddr 9, .int (xs (6 * i + 3)), .int (xs (6 * i + 2)), .int (xs (6 * i + 1)), .ref 0]) (by decide +kernel) rfl rfl ?_
    refine ab_fin.s1i (i := .iconst 4) (k := 1) (pc' := 686) (n := 4) (by decide +kernel) rfl (by decide +kernel) rfl ?_
    refine ab_fin.s1 (i := .iadd) (k := 1) (pc' := 687) (st' := [.int (Int32.ofNat (6 * i) + 4), .retAddr 9, .int (xs (6 * i + 3)), .int (xs (6 * i + 2)), .int (xs (6 * i + 1)), .ref 0]) (by decide +kernel) rfl rfl ?_
    refine ab_fin.s8 (i := .iaload) (k := 1) (pc' := 688) (st' := [.int (xs (6 * i + 4)), .int (xs (6 * i + 3)), .int (xs (6 * i + 2)), .int (xs (6 * i + 1)), .ref 0]) (by decide +kernel) (ab_x0 rfl (ix_v (i := i) (j := 4) (L := L) (y := 4) (by omega) hL rfl).1 (congrArg (fun k => Value.int (xs k)) (ix_v (i := i) (j := 4) (L := L) (y := 4) (by omega) hL rfl).2)) rfl rfl rfl ?_
    refine ab_fin.s2 (i := .aload_n 0) (k := 1) (pc' := 689) (lv' := [(4, .int (Int32.ofNat (6 * i))), (3, .ref 3467), (2, .ref 102), (1, .ref 0), (0, .retAddr 9)]) (st' := [.retAddr 9, .int (xs (6 * i + 4)), .int (xs (6 * i + 3)), .int (xs (6 * i + 2)), .int (xs (6 * i + 1)), .ref 0]) (by decide +kernel) rfl rfl ?_
    refine ab_fin.s2 (i := .iload 4) (k := 2) (pc' := 691) (lv' := [(4, .int (Int32.ofNat (6 * i))), (3, .ref 3467), (2, .ref 102), (1, .ref 0), (0, .retAddr 9)]) (st' := [.int (Int32.ofNat (6 * i)), .retAddr 9, .int (xs (6 * i + 4)), .int (xs (6 * i + 3)), .int (xs (6 * i + 2)), .int (xs (6 * i + 1)), .ref 0]) (by decide +kernel) rfl rfl ?_
    refine ab_fin.s1i (i := .iconst 5) (k := 1) (pc' := 692) (n := 5) (by decide +kernel) rfl (by decide +kernel) rfl ?_
    refine ab_fin.s1 (i := .iadd) (k := 1) (pc' := 693) (st' := [.int (Int32.ofNat (6 * i) + 5), .retAddr 9, .int (xs (6 * i + 4)), .int (xs (6 * i + 3)), .int (xs (6 * i + 2)), .int (xs (6 * i + 1)), .ref 0]) (by decide +kernel) rfl rfl ?_
    refine ab_fin.s8 (i := .iaload) (k := 1) (pc' := 694) (st' := [.int (xs (6 * i + 5)), .int (xs (6 * i + 4)), .int (xs (6 * i + 3)), .int (xs (6 * i + 2)), .int (xs (6 * i + 1)), .ref 0]) (by decide +kernel) (ab_x0 rfl (ix_v (i := i) (j := 5) (L := L) (y := 5) (by omega) hL rfl).1 (congrArg (fun k => Value.int (xs k)) (ix_v (i := i) (j := 5) (L := L) (y := 5) (by omega) hL rfl).2)) rfl rfl rfl ?_
    refine ab_fin.s2 (i := .aload_n 3) (k := 1) (pc' := 695) (lv' := [(4, .int (Int32.ofNat (6 * i))), (3, .ref 3467), (2, .ref 102), (1, .ref 0), (0, .retAddr 9)]) (st' := [.ref 3467, .int (xs (6 * i + 5)), .int (xs (6 * i + 4)), .int (xs (6 * i + 3)), .int (xs (6 * i + 2)), .int (xs (6 * i + 1)), .ref 0]) (by decide +kernel) rfl rfl ?_
    refine ab_fin.call (i := .invokestatic 111) (k := 3) (y := 13519) (As := [.ref 0, .int (xs (6 * i + 1)), .int (xs (6 * i + 2)), .int (xs (6 * i + 3)), .int (xs (6 * i + 4)), .int (xs (6 * i + 5)), .ref 3467]) (rest := []) (M' := (mL_nearer, [(0, 16, 19, 13), (0, 16, 23, 19)])) (by decide +kernel) (ab_cs rfl rfl ⟨(Nat.le_of_ble_eq_true rfl), (Nat.le_of_ble_eq_true rfl)⟩ rfl) rfl (Nat.le_of_ble_eq_true rfl) ?_
    show ab_fin _ _ _ _ 0 [(0, .ref 0), (1, .int (xs (6 * i + 1))), (2, .int (xs (6 * i + 2))), (3, .int (xs (6 * i + 3))), (4, .int (xs (6 * i + 4))), (5, .int (xs (6 * i + 5))), (6, .ref 3467)] [] _ _
    refine ab_fin.s2 (i := .aload 6) (k := 2) (pc' := 2) (lv' := [(0, .ref 0), (1, .int (xs (6 * i + 1))), (2, .int (xs (6 * i + 2))), (3, .int (xs (6 * i + 3))), (4, .int (xs (6 * i + 4))), (5, .int (xs (6 * i + 5))), (6, .ref 3467)]) (st' := [.ref 3467]) (by decide +kernel) rfl rfl ?_
    refine ab_fin.s1i (i := .iconst 0) (k := 1) (pc' := 3) (n := 0) (by decide +kernel) rfl (by decide +kernel) rfl ?_
    refine ab_fin.s2 (i := .aload_n 0) (k := 1) (pc' := 4) (lv' := [(0, .ref 0), (1, .int (xs (6 * i + 1))), (2, .int (xs (6 * i + 2))), (3, .int (xs (6 * i + 3))), (4, .int (xs (6 * i + 4))), (5, .int (xs (6 * i + 5))), (6, .ref 3467)]) (st' := [.ref 0, .int 0, .ref 3467]) (by decide +kernel) rfl rfl ?_
    refine ab_fin.s2 (i := .iload_n 1) (k := 1) (pc' := 5) (lv' := [(0, .ref 0), (1, .int (xs (6 * i + 1))), (2, .int (xs (6 * i + 2))), (3, .int (xs (6 * i + 3))), (4, .int (xs (6 * i + 4))), (5, .int (xs (6 * i + 5))), (6, .ref 3467)]) (st' := [.int (xs (6 * i + 1)), .ref 0, .int 0, .ref 3467]) (by decide +kernel) rfl rfl ?_
    refine ab_fin.s2 (i := .iload_n 2) (k := 1) (pc' := 6) (lv' := [(0, .ref 0), (1, .int (xs (6 * i + 1))), (2, .int (xs (6 * i + 2))), (3, .int (xs (6 * i + 3))), (4, .int (xs (6 * i + 4))), (5, .int (xs (6 * i + 5))), (6, .ref 3467)]) (st' := [.int (xs (6 * i + 2)), .int (xs (6 * i + 1)), .ref 0, .int 0, .ref 3467]) (by decide +kernel) rfl rfl ?_
    refine ab_fin.s2 (i := .iload_n 3) (k := 1) (pc' := 7) (lv' := [(0, .ref 0), (1, .int (xs (6 * i + 1))), (2, .int (xs (6 * i + 2))), (3, .int (xs (6 * i + 3))), (4, .int (xs (6 * i + 4))), (5, .int (xs (6 * i + 5))), (6, .ref 3467)]) (st' := [.int (xs (6 * i + 3)), .int (xs (6 * i + 2)), .int (xs (6 * i + 1)), .ref 0, .int 0, .ref 3467]) (by decide +kernel) rfl rfl ?_
    refine ab_fin.s2 (i := .iload 4) (k := 2) (pc' := 9) (lv' := [(0, .ref 0), (1, .int (xs (6 * i + 1))), (2, .int (xs (6 * i + 2))), (3, .int (xs (6 * i + 3))), (4, .int (xs (6 * i + 4))), (5, .int (xs (6 * i + 5))), (6, .ref 3467)]) (st' := [.int (xs (6 * i + 4)), .int (xs (6 * i + 3)), .int (xs (6 * i + 2)), .int (xs (6 * i + 1)), .ref 0, .int 0, .ref 3467]) (by decide +kernel) rfl rfl ?_
    refine ab_fin.s2 (i := .iload 5) (k := 2) (pc' := 11) (lv' := [(0, .ref 0), (1, .int (xs (6 * i + 1))), (2, .int (xs (6 * i + 2))), (3, .int (xs (6 * i + 3))), (4, .int (xs (6 * i + 4))), (5, .int (xs (6 * i + 5))), (6, .ref 3467)]) (st' := [.int (xs (6 * i + 5)), .int (xs (6 * i + 4)), .int (xs (6 * i + 3)), .int (xs (6 * i + 2)), .int (xs (6 * i + 1)), .ref 0, .int 0, .ref 3467]) (by decide +kernel) rfl rfl ?_
    refine ab_fin.call (i := .invokevirtual 40) (k := 3) (y := 3084) (As := [.ref 0, .int (xs (6 * i + 1)), .int (xs (6 * i + 2)), .int (xs (6 * i + 3)), .int (xs (6 * i + 4)), .int (xs (6 * i + 5))]) (rest := [.int 0, .ref 3467]) (M' := (mX12_nearer, [])) (by decide +kernel) (ab_cv rfl rfl e13 ⟨(Nat.le_of_ble_eq_true rfl), (Nat.le_of_ble_eq_true rfl)⟩ rfl) rfl (Nat.le_of_ble_eq_true rfl) ?_
    show ab_fin _ _ _ _ 0 [(0, .ref 0), (1, .int (xs (6 * i + 1))), (2, .int (xs (6 * i + 2))), (3, .int (xs (6 * i + 3))), (4, .int (xs (6 * i + 4))), (5, .int (xs (6 * i + 5)))] [] _ _
    refine W0.C hG (fun a => [(0, .ref a), (1, .int (xs (6 * i + 1))), (2, .int (xs (6 * i + 2))), (3, .int (xs (6 * i + 3))), (4, .int (xs (6 * i + 4))), (5, .int (xs (6 * i + 5)))]) (fun g => rfl) hC (fun r0 hc1 fC1 h1 q1 W1 => ?_)
    obtain rfl : r0 = .inl (some (.int v)) := q1.2
    show ab_bk _ _ _ _ _ _ _ _ _ (.inl (some (.int v))) _
    refine ab_bk.back (pc' := 14) (st' := [.int v, .int 0, .ref 3467]) rfl rfl ?_
    refine ab_fin.s1 (i := .i2l) (k := 1) (pc' := 15) (st' := [.long (v.toInt64), .int 0, .ref 3467]) (by decide +kernel) rfl rfl ?_
    refine ab_fin.last (l := [o]) (h1 := h1.set 3467 (.inr (.inl (1, .inr (.inl [v.toInt64]))))) (pc' := 16) (by decide +kernel) W1.2.2.2.2.1 (hi0 _) rfl rfl ?_
    have W1x := W1.out (v.toInt64)
    refine ab_fin.s3 (i := .goto 11) (k := 3) (t := 27) (st' := []) (by decide +kernel) (ab_goto (by decide +kernel)) ?_
    refine ab_fin.s1i (i := .iconst 0) (k := 1) (pc' := 28) (n := 0) (by decide +kernel) rfl (by decide +kernel) rfl ?_
    refine ab_fin.ret (i := .ireturn) (k := 1) (some (.int 0)) (by decide +kernel) rfl ?_
    refine ab_bk.back (pc' := 698) (st' := [.int 0]) rfl rfl ?_
    refine ab_fin.s2 (i := .istore 5) (k := 2) (pc' := 700) (lv' := [(5, .int 0), (4, .int (Int32.ofNat (6 * i))), (3, .ref 3467), (2, .ref 102), (1, .ref 0), (0, .retAddr 9)]) (st' := []) (by decide +kernel) rfl rfl ?_
    refine ab_fin.s2 (i := .aload_n 2) (k := 1) (pc' := 701) (lv' := [(5, .int 0), (4, .int (Int32.ofNat (6 * i))), (3, .ref 3467), (2, .ref 102), (1, .ref 0), (0, .retAddr 9)]) (st' := [.ref 102]) (by decide +kernel) rfl rfl ?_
    refine ab_fin.s2 (i := .aload_n 0) (k := 1) (pc' := 702) (lv' := [(5, .int 0), (4, .int (Int32.ofNat (6 * i))), (3, .ref 3467), (2, .ref 102), (1, .ref 0), (0, .retAddr 9)]) (st' := [.retAddr 9, .ref 102]) (by decide +kernel) rfl rfl ?_
    refine ab_fin.s2 (i := .iload 4) (k := 2) (pc' := 704) (lv' := [(5, .int 0), (4, .int (Int32.ofNat (6 * i))), (3, .ref 3467), (2, .ref 102), (1, .ref 0), (0, .retAddr 9)]) (st' := [.int (Int32.ofNat (6 * i)), .retAddr 9, .ref 102]) (by decide +kernel) rfl rfl ?_
    refine ab_fin.s1i (i := .iconst 1) (k := 1) (pc' := 705) (n := 1) (by decide +kernel) rfl (by decide +kernel) rfl ?_
    refine ab_fin.s1 (i := .iadd) (k := 1) (pc' := 706) (st' := [.int (Int32.ofNat (6 * i) + 1), .retAddr 9, .ref 102]) (by decide +kernel) rfl rfl ?_
    refine ab_fin.s8 (i := .iaload) (k := 1) (pc' := 707) (st' := [.int (xs (6 * i + 1)), .ref 102]) (by decide +kernel) (ab_x0 rfl (ix_v (i := i) (j := 1) (L := L) (y := 1) (by omega) hL rfl).1 (congrArg (fun k => Value.int (xs k)) (ix_v (i := i) (j := 1) (L := L) (y := 1) (by omega) hL rfl).2)) rfl rfl rfl ?_
    refine ab_fin.s2 (i := .aload_n 0) (k := 1) (pc' := 708) (lv' := [(5, .int 0), (4, .int (Int32.ofNat (6 * i))), (3, .ref 3467), (2, .ref 102), (1, .ref 0), (0, .retAddr 9)]) (st' := [.retAddr 9, .int (xs (6 * i + 1)), .ref 102]) (by decide +kernel) rfl rfl ?_
    refine ab_fin.s2 (i := .iload 4) (k := 2) (pc' := 710) (lv' := [(5, .int 0), (4, .int (Int32.ofNat (6 * i))), (3, .ref 3467), (2, .ref 102), (1, .ref 0), (0, .retAddr 9)]) (st' := [.int (Int32.ofNat (6 * i)), .retAddr 9, .int (xs (6 * i + 1)), .ref 102]) (by decide +kernel) rfl rfl ?_
    refine ab_fin.s1i (i := .iconst 2) (k := 1) (pc' := 711) (n := 2) (by decide +kernel) rfl (by decide +kernel) rfl ?_
    refine ab_fin.s1 (i := .iadd) (k := 1) (pc' := 712) (st' := [.int (Int32.ofNat (6 * i) + 2), .retAddr 9, .int (xs (6 * i + 1)), .ref 102]) (by decide +kernel) rfl rfl ?_
    refine ab_fin.s8 (i := .iaload) (k := 1) (pc' := 713) (st' := [.int (xs (6 * i + 2)), .int (xs (6 * i + 1)), .ref 102]) (by decide +kernel) (ab_x0 rfl (ix_v (i := i) (j := 2) (L := L) (y := 2) (by omega) hL rfl).1 (congrArg (fun k => Value.int (xs k)) (ix_v (i := i) (j := 2) (L := L) (y := 2) (by omega) hL rfl).2)) rfl rfl rfl ?_
    refine ab_fin.s2 (i := .aload_n 0) (k := 1) (pc' := 714) (lv' := [(5, .int 0), (4, .int (Int32.ofNat (6 * i))), (3, .ref 3467), (2, .ref 102), (1, .ref 0), (0, .retAddr 9)]) (st' := [.retAddr 9, .int (xs (6 * i + 2)), .int (xs (6 * i + 1)), .ref 102]) (by decide +kernel) rfl rfl ?_
    refine ab_fin.s2 (i := .iload 4) (k := 2) (pc' := 716) (lv' := [(5, .int 0), (4, .int (Int32.ofNat (6 * i))), (3, .ref 3467), (2, .ref 102), (1, .ref 0), (0, .retAddr 9)]) (st' := [.int (Int32.ofNat (6 * i)), .retAddr 9, .int (xs (6 * i + 2)), .int (xs (6 * i + 1)), .ref 102]) (by decide +kernel) rfl rfl ?_
    refine ab_fin.s1i (i := .iconst 3) (k := 1) (pc' := 717) (n := 3) (by decide +kernel) rfl (by decide +kernel) rfl ?_
    refine ab_fin.s1 (i := .iadd) (k := 1) (pc' := 718) (st' := [.int (Int32.ofNat (6 * i) + 3), .retAddr 9, .int (xs (6 * i + 2)), .int (xs (6 * i + 1)), .ref 102]) (by decide +kernel) rfl rfl ?_
    refine ab_fin.s8 (i := .iaload) (k := 1) (pc' := 719) (st' := [.int (xs (6 * i + 3)), .int (xs (6 * i + 2)), .int (xs (6 * i + 1)), .ref 102]) (by decide +kernel) (ab_x0 rfl (ix_v (i := i) (j := 3) (L := L) (y := 3) (by omega) hL rfl).1 (congrArg (fun k => Value.int (xs k)) (ix_v (i := i) (j := 3) (L := L) (y := 3) (by omega) hL rfl).2)) rfl rfl rfl ?_
    refine ab_fin.s2 (i := .aload_n 0) (k := 1) (pc' := 720) (lv' := [(5, .int 0), (4, .int (Int32.ofNat (6 * i))), (3, .ref 3467), (2, .ref 102), (1, .ref 0), (0, .retAddr 9)]) (st' := [.retAddr 9, .int (xs (6 * i + 3)), .int (xs (6 * i + 2)), .int (xs (6 * i + 1)), .ref 102]) (by decide +kernel) rfl rfl ?_
    refine ab_fin.s2 (i := .iload 4) (k := 2) (pc' := 722) (lv' := [(5, .int 0), (4, .int (Int32.ofNat (6 * i))), (3, .ref 3467), (2, .ref 102), (1, .ref 0), (0, .retAddr 9)]) (st' := [.int (Int32.ofNat (6 * i)), .retAddr 9, .int (xs (6 * i + 3)), .int (xs (6 * i + 2)), .int (xs (6 * i + 1)), .ref 102]) (by decide +kernel) rfl rfl ?_
    refine ab_fin.s1i (i := .iconst 4) (k := 1) (pc' := 723) (n := 4) (by decide +kernel) rfl (by decide +kernel) rfl ?_
    refine ab_fin.s1 (i := .iadd) (k := 1) (pc' := 724) (st' := [.int (Int32.ofNat (6 * i) + 4), .retAddr 9, .int (xs (6 * i + 3)), .int (xs (6 * i + 2)), .int (xs (6 * i + 1)), .ref 102]) (by decide +kernel) rfl rfl ?_
    refine ab_fin.s8 (i := .iaload) (k := 1) (pc' := 725) (st' := [.int (xs (6 * i + 4)), .int (xs (6 * i + 3)), .int (xs (6 * i + 2)), .int (xs (6 * i + 1)), .ref 102]) (by decide +kernel) (ab_x0 rfl (ix_v (i := i) (j := 4) (L := L) (y := 4) (by omega) hL rfl).1 (congrArg (fun k => Value.int (xs k)) (ix_v (i := i) (j := 4) (L := L) (y := 4) (by omega) hL rfl).2)) rfl rfl rfl ?_
    refine ab_fin.s2 (i := .aload_n 0) (k := 1) (pc' := 726) (lv' := [(5, .int 0), (4, .int (Int32.ofNat (6 * i))), (3, .ref 3467), (2, .ref 102), (1, .ref 0), (0, .retAddr 9)]) (st' := [.retAddr 9, .int (xs (6 * i + 4)), .int (xs (6 * i + 3)), .int (xs (6 * i + 2)), .int (xs (6 * i + 1)), .ref 102]) (by decide +kernel) rfl rfl ?_
    refine ab_fin.s2 (i := .iload 4) (k := 2) (pc' := 728) (lv' := [(5, .int 0), (4, .int (Int32.ofNat (6 * i))), (3, .ref 3467), (2, .ref 102), (1, .ref 0), (0, .retAddr 9)]) (st' := [.int (Int32.ofNat (6 * i)), .retAddr 9, .int (xs (6 * i + 4)), .int (xs (6 * i + 3)), .int (xs (6 * i + 2)), .int (xs (6 * i + 1)), .ref 102]) (by decide +kernel) rfl rfl ?_
    refine ab_fin.s1i (i := .iconst 5) (k := 1) (pc' := 729) (n := 5) (by decide +kernel) rfl (by decide +kernel) rfl ?_
    refine ab_fin.s1 (i := .iadd) (k := 1) (pc' := 730) (st' := [.int (Int32.ofNat (6 * i) + 5), .retAddr 9, .int (xs (6 * i + 4)), .int (xs (6 * i + 3)), .int (xs (6 * i + 2)), .int (xs (6 * i + 1)), .ref 102]) (by decide +kernel) rfl rfl ?_
    refine ab_fin.s8 (i := .iaload) (k := 1) (pc' := 731) (st' := [.int (xs (6 * i + 5)), .int (xs (6 * i + 4)), .int (xs (6 * i + 3)), .int (xs (6 * i + 2)), .int (xs (6 * i + 1)), .ref 102]) (by decide +kernel) (ab_x0 rfl (ix_v (i := i) (j := 5) (L := L) (y := 5) (by omega) hL rfl).1 (congrArg (fun k => Value.int (xs k)) (ix_v (i := i) (j := 5) (L := L) (y := 5) (by omega) hL rfl).2)) rfl rfl rfl ?_
    refine ab_fin.call (i := .invokevirtual 113) (k := 3) (y := 6004) (As := [.ref 102, .int (xs (6 * i + 1)), .int (xs (6 * i + 2)), .int (xs (6 * i + 3)), .int (xs (6 * i + 4)), .int (xs (6 * i + 5))]) (rest := []) (M' := (mX23_nearer_, [])) (by decide +kernel) (ab_cv rfl rfl (W1x.r0 e24) ⟨(Nat.le_of_ble_eq_true rfl), (Nat.le_of_ble_eq_true rfl)⟩ rfl) rfl (Nat.le_of_ble_eq_true rfl) ?_
    show ab_fin _ _ _ _ 0 [(0, .ref 102), (1, .int (xs (6 * i + 1))), (2, .int (xs (6 * i + 2))), (3, .int (xs (6 * i + 3))), (4, .int (xs (6 * i + 4))), (5, .int (xs (6 * i + 5)))] [] _ _
    refine W1x.R hG (fun a => [(0, .ref a), (1, .int (xs (6 * i + 1))), (2, .int (xs (6 * i + 2))), (3, .int (xs (6 * i + 3))), (4, .int (xs (6 * i + 4))), (5, .int (xs (6 * i + 5)))]) (fun g => rfl) hR (fun r0 hr1 fR1 h2 q2 W2 => ?_)
    obtain rfl : r0 = .inl (some (.int v)) := q2.2.1
    show ab_bk _ _ _ _ _ _ _ _ _ (.inl (some (.int v))) _
    refine ab_bk.back (pc' := 734) (st' := [.int v]) rfl rfl ?_
    obtain ⟨fs, t1, t2⟩ := thrR.at W2 q2.2.2
    refine ab_fin.s2 (i := .istore 6) (k := 2) (pc' := 736) (lv' := [(6, .int v), (5, .int 0), (4, .int (Int32.ofNat (6 * i))), (3, .ref 3467), (2, .ref 102), (1, .ref 0), (0, .retAddr 9)]) (st' := []) (by decide +kernel) rfl rfl ?_
    refine ab_fin.s2 (i := .aload_n 2) (k := 1) (pc' := 737) (lv' := [(6, .int v), (5, .int 0), (4, .int (Int32.ofNat (6 * i))), (3, .ref 3467), (2, .ref 102), (1, .ref 0), (0, .retAddr 9)]) (st' := [.ref 102]) (by decide +kernel) rfl rfl ?_
    refine ab_fin.call (i := .invokevirtual 75) (k := 3) (y := 5992) (As := [.ref 102]) (rest := []) (M' := (mX23_thrown, [])) (by decide +kernel) (ab_cv rfl rfl t1 ⟨(Nat.le_of_ble_eq_true rfl), (Nat.le_of_ble_eq_true rfl)⟩ rfl) rfl (Nat.le_of_ble_eq_true rfl) ?_
    show ab_fin _ _ _ _ 0 [(0, .ref 102)] [] _ _
    refine ab_fin.s2 (i := .aload_n 0) (k := 1) (pc' := 1) (lv' := [(0, .ref 102)]) (st' := [.ref 102]) (by decide +kernel) rfl rfl ?_
    refine ab_fin.getf (ix := 1000) (k := 110) (v := .int 0) (pc' := 4) (by decide +kernel) rfl t1 t2 rfl ?_
    refine ab_fin.ret (i := .ireturn) (k := 1) (some (.int 0)) (by decide +kernel) rfl ?_
    refine ab_bk.back (pc' := 740) (st' := [.int 0]) rfl rfl ?_
    refine ab_fin.s2 (i := .iload 5) (k := 2) (pc' := 742) (lv' := [(6, .int v), (5, .int 0), (4, .int (Int32.ofNat (6 * i))), (3, .ref 3467), (2, .ref 102), (1, .ref 0), (0, .retAddr 9)]) (st' := [.int 0, .int 0]) (by decide +kernel) rfl rfl ?_
    refine ab_fin.brT (c := (0 : Int32) = (0 : Int32)) (i := .if_icmp .eq 5) (off := 5) (t := 747) (r := []) (by decide +kernel) rfl (by decide +kernel) rfl ?_
    refine ab_fin.s2 (i := .iload 5) (k := 2) (pc' := 749) (lv' := [(6, .int v), (5, .int 0), (4, .int (Int32.ofNat (6 * i))), (3, .ref 3467), (2, .ref 102), (1, .ref 0), (0, .retAddr 9)]) (st' := [.int 0]) (by decide +kernel) rfl rfl ?_
    refine ab_fin.brF (c := ¬ (0 : Int32) = 0) (i := .ifCond .ne 15) (off := 15) (t := 764) (pc' := 752) (r := []) (by decide +kernel) rfl (by decide +kernel) rfl (by decide +kernel) ?_
    refine ab_fin.s2 (i := .aload_n 3) (k := 1) (pc' := 753) (lv' := [(6, .int v), (5, .int 0), (4, .int (Int32.ofNat (6 * i))), (3, .ref 3467), (2, .ref 102), (1, .ref 0), (0, .retAddr 9)]) (st' := [.ref 3467]) (by decide +kernel) rfl rfl ?_
    refine ab_fin.s1i (i := .iconst 0) (k := 1) (pc' := 754) (n := 0) (by decide +kernel) rfl (by decide +kernel) rfl ?_
    refine ab_fin.lald (l := [v.toInt64]) (v := v.toInt64) (pc' := 755) (by decide +kernel) W2.2.2.2.2.1 (hi0 _) rfl rfl ?_
    refine ab_fin.s2 (i := .iload 6) (k := 2) (pc' := 757) (lv' := [(6, .int v), (5, .int 0), (4, .int (Int32.ofNat (6 * i))), (3, .ref 3467), (2, .ref 102), (1, .ref 0), (0, .retAddr 9)]) (st' := [.int v, .long (v.toInt64)]) (by decide +kernel) rfl rfl ?_
    refine ab_fin.s1 (i := .i2l) (k := 1) (pc' := 758) (st' := [.long (v.toInt64), .long (v.toInt64)]) (by decide +kernel) rfl rfl ?_
    refine ab_fin.s1i (i := .lcmp) (k := 1) (pc' := 759) (n := 0) (by decide +kernel) rfl (lg_c0 _) rfl ?_
    refine ab_fin.brT (c := (0 : Int32) = 0) (i := .ifCond .eq 5) (off := 5) (t := 764) (r := []) (by decide +kernel) rfl (by decide +kernel) (by decide +kernel) ?_
    refine ab_fin.s3 (i := .goto 326) (k := 3) (t := 1090) (st' := []) (by decide +kernel) (ab_goto (by decide +kernel)) ?_
    refine ab_fin.lv (lv' := [(4, .int (Int32.ofNat (6 * i))), (3, .ref 3467), (2, .ref 102), (1, .ref 0), (0, .retAddr 9)]) ⟨fun q hq => ?_, (by show ([6, 5, 4, 3, 2, 1, 0] : List Nat).Nodup; decide)⟩ (go _ _ _ _ _ _ W2 q1.1 q2.1)
    simp only [List.mem_cons, List.not_mem_nil, or_false] at hq ⊢
    rcases hq with rfl | rfl | rfl | rfl | rfl <;> simp
set_option maxRecDepth 100000 in
set_option maxHeartbeats 0 in
theorem lw_call {z4 z5 z6 : Value} {xs : Nat → Int32} {L : Nat} {h hc hr : List ab_E} {o : Int64} {fC fR : Nat → Nat} {PC PR : List ab_E → Prop} {Q : ab_RX → List ab_E → Prop} (hL : L ≤ 3072) (hG : ab_pure (hb_Gz (some z4, some z5, some z6) (some (0, L, fun i => .int (xs i))))) {i : Nat} (hi : 6 * i + 6 ≤ L) (W0 : Two h hc hr o fC fR) (k13 : is13 hc) (k24 : is24 hr) {r : Nat ⊕ Int32} (ht : ∀ th, r = .inl th → th = 1 ∨ th = 2) (hC : ab_fin (hb_Gz (some z4, some z5, some z6) (some (0, L, fun i => .int (xs i)))) hb_GT 2044 (mX12_call, []) 0 [(0, .ref 0), (1, .int (xs (6 * i + 1))), (2, .int (xs (6 * i + 2)))] [] hc (AnC "java/lang/IndexOutOfBoundsException" "java/lang/IllegalArgumentException" PC r)) (hR : ab_fin (hb_Gz (some z4, some z5, some z6) (some (0, L, fun i => .int (xs i)))) hb_GT 2045 (mX23_call_, []) 0 [(0, .ref 0), (1, .int (xs (6 * i + 1))), (2, .int (xs (6 * i + 2)))] [] hr (AnR PR r)) (go : ∀ h' hc' hr' o' fC' fR', Two h' hc' hr' o' fC' fR' → PC hc' → PR hr' → ab_fin (hb_Gz (some z4, some z5, some z6) (some (0, L, fun i => .int (xs i)))) hb_GT 2046 (mL_law, []) 1090 [(4, .int (Int32.ofNat (6 * i))), (3, .ref 3467), (2, .ref 102), (1, .ref 0), (0, .retAddr 9)] [] h' Q) : ab_fin (hb_Gz (some z4, some z5, some z6) (some (0, L, fun i => .int (xs i)))) hb_GT 2046 (mL_law, []) 767 [(4, .int (Int32.ofNat (6 * i))), (3, .ref 3467), (2, .ref 102), (1, .ref 0), (0, .retAddr 9)] [] h Q := by
  obtain ⟨fs13, k13⟩ := k13
  obtain ⟨fs24, e24⟩ := k24
  have e13 := W0.c0 k13
  rcases r with th | v
  · rcases ht th rfl with rfl | rfl
    · refine ab_fin.s2 (i := .aload_n 1) (k := 1) (pc' := 768) (lv' := [(4, .int (Int32.ofNat (6 * i))), (3, .ref 3467), (2, .ref 102), (1, .ref 0), (0, .retAddr 9)]) (st' := [.ref 0]) (by decide +kernel) rfl rfl ?_
      refine ab_fin.s2 (i := .aload_n 0) (k := 1) (pc' := 769) (lv' := [(4, .int (Int32.ofNat (6 * i))), (3, .ref 3467), (2, .ref 102), (1, .ref 0), (0, .retAddr 9)]) (st' := [.retAddr 9, .ref 0]) (by decide +kernel) rfl rfl ?_
      refine ab_fin.s2 (i := .iload 4) (k := 2) (pc' := 771) (lv' := [(4, .int (Int32.ofNat (6 * i))), (3, .ref 3467), (2, .ref 102), (1, .ref 0), (0, .retAddr 9)]) (st' := [.int (Int32.ofNat (6 * i)), .retAddr 9, .ref 0]) (by decide +kernel) rfl rfl ?_
      refine ab_fin.s1i (i := .iconst 1) (k := 1) (pc' := 772) (n := 1) (by decide +kernel) rfl (by decide +kernel) rfl ?_
      refine ab_fin.s1 (i := .iadd) (k := 1) (pc' := 773) (st' := [.int (Int32.ofNat (6 * i) + 1), .retAddr 9, .ref 0]) (by decide +kernel) rfl rfl ?_
      refine ab_fin.s8 (i := .iaload) (k := 1) (pc' := 774) (st' := [.int (xs (6 * i + 1)), .ref 0]) (by decide +kernel) (ab_x0 rfl (ix_v (i := i) (j := 1) (L := L) (y := 1) (by omega) hL rfl).1 (congrArg (fun k => Value.int (xs k)) (ix_v (i := i) (j := 1) (L := L) (y := 1) (by omega) hL rfl).2)) rfl rfl rfl ?_
      refine ab_fin.s2 (i := .aload_n 0) (k := 1) (pc' := 775) (lv' := [(4, .int (Int32.ofNat (6 * i))), (3, .ref 3467), (2, .ref 102), (1, .ref 0), (0, .retAddr 9)]) (st' := [.retAddr 9, .int (xs (6 * i + 1)), .ref 0]) (by decide +kernel) rfl rfl ?_
      refine ab_fin.s2 (i := .iload 4) (k := 2) (pc' := 777) (lv' := [(4, .int (Int32.ofNat (6 * i))), (3, .ref 3467), (2, .ref 102), (1, .ref 0), (0, .retAddr 9)]) (st' := [.int (Int32.ofNat (6 * i)), .retAddr 9, .int (xs (6 * i + 1)), .ref 0]) (by decide +kernel) rfl rfl ?_
      refine ab_fin.s1i (i := .iconst 2) (k := 1) (pc' := 778) (n := 2) (by decide +kernel) rfl (by decide +kernel) rfl ?_
      refine ab_fin.s1 (i := .iadd) (k := 1) (pc' := 779) (st' := [.int (Int32.ofNat (6 * i) + 2), .retAddr 9, .int (xs (6 * i + 1)), .ref 0]) (by decide +kernel) rfl rfl ?_
      refine ab_fin.s8 (i := .iaload) (k := 1) (pc' := 780) (st' := [.int (xs (6 * i + 2)), .int (xs (6 * i + 1)), .ref 0]) (by decide +kernel) (ab_x0 rfl (ix_v (i := i) (j := 2) (L := L) (y := 2) (by omega) hL rfl).1 (congrArg (fun k => Value.int (xs k)) (ix_v (i := i) (j := 2) (L := L) (y := 2) (by omega) hL rfl).2)) rfl rfl rfl ?_
      refine ab_fin.s2 (i := .aload_n 3) (k := 1) (pc' := 781) (lv' := [(4, .int (Int32.ofNat (6 * i))), (3, .ref 3467), (2, .ref 102), (1, .ref 0), (0, .retAddr 9)]) (st' := [.ref 3467, .int (xs (6 * i + 2)), .int (xs (6 * i + 1)), .ref 0]) (by decide +kernel) rfl rfl ?_
      refine ab_fin.call (i := .invokestatic 114) (k := 3) (y := 13520) (As := [.ref 0, .int (xs (6 * i + 1)), .int (xs (6 * i + 2)), .ref 3467]) (rest := []) (M' := (mL_call, [(0, 10, 13, 13), (0, 10, 17, 19)])) (by decide +kernel) (ab_cs rfl rfl ⟨(Nat.le_of_ble_eq_true rfl), (Nat.le_of_ble_eq_true rfl)⟩ rfl) rfl (Nat.le_of_ble_eq_true rfl) ?_
      show ab_fin _ _ _ _ 0 [(0, .ref 0), (1, .int (xs (6 * i + 1))), (2, .int (xs (6 * i + 2))), (3, .ref 3467)] [] _ _
      refine ab_fin.s2 (i := .aload_n 3) (k := 1) (pc' := 1) (lv' := [(0, .ref 0), (1, .int (xs (6 * i + 1))), (2, .int (xs (6 * i + 2))), (3, .ref 3467)]) (st' := [.ref 3467]) (by decide +kernel) rfl rfl ?_
      refine ab_fin.s1i (i := .iconst 0) (k := 1) (pc' := 2) (n := 0) (by decide +kernel) rfl (by decide +kernel) rfl ?_
      refine ab_fin.s2 (i := .aload_n 0) (k := 1) (pc' := 3) (lv' := [(0, .ref 0), (1, .int (xs (6 * i + 1))), (2, .int (xs (6 * i + 2))), (3, .ref 3467)]) (st' := [.ref 0, .int 0, .ref 3467]) (by decide +kernel) rfl rfl ?_
      refine ab_fin.s2 (i := .iload_n 1) (k := 1) (pc' := 4) (lv' := [(0, .ref 0), (1, .int (xs (6 * i + 1))), (2, .int (xs (6 * i + 2))), (3, .ref 3467)]) (st' := [.int (xs (6 * i + 1)), .ref 0, .int 0, .ref 3467]) (by decide +kernel) rfl rfl ?_
      refine ab_fin.s2 (i := .iload_n 2) (k := 1) (pc' := 5) (lv' := [(0, .ref 0), (1, .int (xs (6 * i + 1))), (2, .int (xs (6 * i + 2))), (3, .ref 3467)]) (st' := [.int (xs (6 * i + 2)), .int (xs (6 * i + 1)), .ref 0, .int 0, .ref 3467]) (by decide +kernel) rfl rfl ?_
      refine ab_fin.call (i := .invokevirtual 43) (k := 3) (y := 3085) (As := [.ref 0, .int (xs (6 * i + 1)), .int (xs (6 * i + 2))]) (rest := [.int 0, .ref 3467]) (M' := (mX12_call, [])) (by decide +kernel) (ab_cv rfl rfl e13 ⟨(Nat.le_of_ble_eq_true rfl), (Nat.le_of_ble_eq_true rfl)⟩ rfl) rfl (Nat.le_of_ble_eq_true rfl) ?_
      show ab_fin _ _ _ _ 0 [(0, .ref 0), (1, .int (xs (6 * i + 1))), (2, .int (xs (6 * i + 2)))] [] _ _
      refine W0.C hG (fun a => [(0, .ref a), (1, .int (xs (6 * i + 1))), (2, .int (xs (6 * i + 2)))]) (fun g => rfl) hC (fun r0 hc1 fC1 h1 q1 W1 => ?_)
      obtain ⟨x9, e9⟩ := q1.2
      subst e9
      show ab_bk _ _ _ _ _ _ _ _ _ (.inr ("java/lang/IndexOutOfBoundsException", fC1 x9)) _
      refine ab_bk.catch (hp := 13) (by decide +kernel) rfl ?_
      refine ab_fin.s2 (i := .astore 4) (k := 2) (pc' := 15) (lv' := [(4, .ref (fC1 x9)), (0, .ref 0), (1, .int (xs (6 * i + 1))), (2, .int (xs (6 * i + 2))), (3, .ref 3467)]) (st' := []) (by decide +kernel) rfl rfl ?_
      refine ab_fin.s1i (i := .iconst 1) (k := 1) (pc' := 16) (n := 1) (by decide +kernel) rfl (by decide +kernel) rfl ?_
      refine ab_fin.ret (i := .ireturn) (k := 1) (some (.int 1)) (by decide +kernel) rfl ?_
      refine ab_bk.back (pc' := 784) (st' := [.int 1]) rfl rfl ?_
      refine ab_fin.s2 (i := .istore 5) (k := 2) (pc' := 786) (lv' := [(5, .int 1), (4, .int (Int32.ofNat (6 * i))), (3, .ref 3467), (2, .ref 102), (1, .ref 0), (0, .retAddr 9)]) (st' := []) (by decide +kernel) rfl rfl ?_
      refine ab_fin.s2 (i := .aload_n 2) (k := 1) (pc' := 787) (lv' := [(5, .int 1), (4, .int (Int32.ofNat (6 * i))), (3, .ref 3467), (2, .ref 102), (1, .ref 0), (0, .retAddr 9)]) (st' := [.ref 102]) (by decide +kernel) rfl rfl ?_
      refine ab_fin.s2 (i := .aload_n 0) (k := 1) (pc' := 788) (lv' := [(5, .int 1), (4, .int (Int32.ofNat (6 * i))), (3, .ref 3467), (2, .ref 102), (1, .ref 0), (0, .retAddr 9)]) (st' := [.retAddr 9, .ref 102]) (by decide +kernel) rfl rfl ?_
      refine ab_fin.s2 (i := .iload 4) (k := 2) (pc' := 790) (lv' := [(5, .int 1), (4, .int (Int32.ofNat (6 * i))), (3, .ref 3467), (2, .ref 102), (1, .ref 0), (0, .retAddr 9)]) (st' := [.int (Int32.ofNat (6 * i)), .retAddr 9, .ref 102]) (by decide +kernel) rfl rfl ?_
      refine ab_fin.s1i (i := .iconst 1) (k := 1) (pc' := 791) (n := 1) (by decide +kernel) rfl (by decide +kernel) rfl ?_
      refine ab_fin.s1 (i := .iadd) (k := 1) (pc' := 792) (st' := [.int (Int32.ofNat (6 * i) + 1), .retAddr 9, .ref 102]) (by decide +kernel) rfl rfl ?_
      refine ab_fin.s8 (i := .iaload) (k := 1) (pc' := 793) (st' := [.int (xs (6 * i + 1)), .ref 102]) (by decide +kernel) (ab_x0 rfl (ix_v (i := i) (j := 1) (L := L) (y := 1) (by omega) hL rfl).1 (congrArg (fun k => Value.int (xs k)) (ix_v (i := i) (j := 1) (L := L) (y := 1) (by omega) hL rfl).2)) rfl rfl rfl ?_
      refine ab_fin.s2 (i := .aload_n 0) (k := 1) (pc' := 794) (lv' := [(5, .int 1), (4, .int (Int32.ofNat (6 * i))), (3, .ref 3467), (2, .ref 102), (1, .ref 0), (0, .retAddr 9)]) (st' := [.retAddr 9, .int (xs (6 * i + 1)), .ref 102]) (by decide +kernel) rfl rfl ?_
      refine ab_fin.s2 (i := .iload 4) (k := 2) (pc' := 796) (lv' := [(5, .int 1), (4, .int (Int32.ofNat (6 * i))), (3, .ref 3467), (2, .ref 102), (1, .ref 0), (0, .retAddr 9)]) (st' := [.int (Int32.ofNat (6 * i)), .retAddr 9, .int (xs (6 * i + 1)), .ref 102]) (by decide +kernel) rfl rfl ?_
      refine ab_fin.s1i (i := .iconst 2) (k := 1) (pc' := 797) (n := 2) (by decide +kernel) rfl (by decide +kernel) rfl ?_
      refine ab_fin.s1 (i := .iadd) (k := 1) (pc' := 798) (st' := [.int (Int32.ofNat (6 * i) + 2), .retAddr 9, .int (xs (6 * i + 1)), .ref 102]) (by decide +kernel) rfl rfl ?_
      refine ab_fin.s8 (i := .iaload) (k := 1) (pc' := 799) (st' := [.int (xs (6 * i + 2)), .int (xs (6 * i + 1)), .ref 102]) (by decide +kernel) (ab_x0 rfl (ix_v (i := i) (j := 2) (L := L) (y := 2) (by omega) hL rfl).1 (congrArg (fun k => Value.int (xs k)) (ix_v (i := i) (j := 2) (L := L) (y := 2) (by omega) hL rfl).2)) rfl rfl rfl ?_
      refine ab_fin.call (i := .invokevirtual 116) (k := 3) (y := 6005) (As := [.ref 102, .int (xs (6 * i + 1)), .int (xs (6 * i + 2))]) (rest := []) (M' := (mX23_call_, [])) (by decide +kernel) (ab_cv rfl rfl (W1.r0 e24) ⟨(Nat.le_of_ble_eq_true rfl), (Nat.le_of_ble_eq_true rfl)⟩ rfl) rfl (Nat.le_of_ble_eq_true rfl) ?_
      show ab_fin _ _ _ _ 0 [(0, .ref 102), (1, .int (xs (6 * i + 1))), (2, .int (xs (6 * i + 2)))] [] _ _
      refine W1.R hG (fun a => [(0, .ref a), (1, .int (xs (6 * i + 1))), (2, .int (xs (6 * i + 2)))]) (fun g => rfl) hR (fun r0 hr1 fR1 h2 q2 W2 => ?_)
      obtain rfl : r0 = .inl (some (.int 0)) := q2.2.1
      show ab_bk _ _ _ _ _ _ _ _ _ (.inl (some (.int 0))) _
      refine ab_bk.back (pc' := 802) (st' := [.int 0]) rfl rfl ?_
      obtain ⟨fs, t1, t2⟩ := thrR.at W2 q2.2.2
      refine ab_fin.s2 (i := .istore 6) (k := 2) (pc' := 804) (lv' := [(6, .int 0), (5, .int 1), (4, .int (Int32.ofNat (6 * i))), (3, .ref 3467), (2, .ref 102), (1, .ref 0), (0, .retAddr 9)]) (st' := []) (by decide +kernel) rfl rfl ?_
      refine ab_fin.s2 (i := .aload_n 2) (k := 1) (pc' := 805) (lv' := [(6, .int 0), (5, .int 1), (4, .int (Int32.ofNat (6 * i))), (3, .ref 3467), (2, .ref 102), (1, .ref 0), (0, .retAddr 9)]) (st' := [.ref 102]) (by decide +kernel) rfl rfl ?_
      refine ab_fin.call (i := .invokevirtual 75) (k := 3) (y := 5992) (As := [.ref 102]) (rest := []) (M' := (mX23_thrown, [])) (by decide +kernel) (ab_cv rfl rfl t1 ⟨(Nat.le_of_ble_eq_true rfl), (Nat.le_of_ble_eq_true rfl)⟩ rfl) rfl (Nat.le_of_ble_eq_true rfl) ?_
      show ab_fin _ _ _ _ 0 [(0, .ref 102)] [] _ _
      refine ab_fin.s2 (i := .aload_n 0) (k := 1) (pc' := 1) (lv' := [(0, .ref 102)]) (st' := [.ref 102]) (by decide +kernel) rfl rfl ?_
      refine ab_fin.getf (ix := 1000) (k := 110) (v := .int 1) (pc' := 4) (by decide +kernel) rfl t1 t2 rfl ?_
      refine ab_fin.ret (i := .ireturn) (k := 1) (some (.int 1)) (by decide +kernel) rfl ?_
      refine ab_bk.back (pc' := 808) (st' := [.int 1]) rfl rfl ?_
      refine ab_fin.s2 (i := .iload 5) (k := 2) (pc' := 810) (lv' := [(6, .int 0), (5, .int 1), (4, .int (Int32.ofNat (6 * i))), (3, .ref 3467), (2, .ref 102), (1, .ref 0), (0, .retAddr 9)]) (st' := [.int 1, .int 1]) (by decide +kernel) rfl rfl ?_
      refine ab_fin.brT (c := (1 : Int32) = (1 : Int32)) (i := .if_icmp .eq 5) (off := 5) (t := 815) (r := []) (by decide +kernel) rfl (by decide +kernel) rfl ?_
      refine ab_fin.s2 (i := .iload 5) (k := 2) (pc' := 817) (lv' := [(6, .int 0), (5, .int 1), (4, .int (Int32.ofNat (6 * i))), (3, .ref 3467), (2, .ref 102), (1, .ref 0), (0, .retAddr 9)]) (st' := [.int 1]) (by decide +kernel) rfl rfl ?_
      refine ab_fin.brT (c := ¬ (1 : Int32) = 0) (i := .ifCond .ne 15) (off := 15) (t := 832) (r := []) (by decide +kernel) rfl (by decide +kernel) (by decide +kernel) ?_
      refine ab_fin.s3 (i := .goto 258) (k := 3) (t := 1090) (st' := []) (by decide +kernel) (ab_goto (by decide +kernel)) ?_
      refine ab_fin.lv (lv' := [(4, .int (Int32.ofNat (6 * i))), (3, .ref 3467), (2, .ref 102), (1, .ref 0), (0, .retAddr 9)]) ⟨fun q hq => ?_, (by show ([6, 5, 4, 3, 2, 1, 0] : List Nat).Nodup; decide)⟩ (go _ _ _ _ _ _ W2 q1.1 q2.1)
      simp only [List.mem_cons, List.not_mem_nil, or_false] at hq ⊢
      rcases hq with rfl | rfl | rfl | rfl | rfl <;> simp
    · refine ab_fin.s2 (i := .aload_n 1) (k := 1) (pc' := 768) (lv' := [(4, .int (Int32.ofNat (6 * i))), (3, .ref 3467), (2, .ref 102), (1, .ref 0), (0, .retAddr 9)]) (st' := [.ref 0]) (by decide +kernel) rfl rfl ?_
      refine ab_fin.s2 (i := .aload_n 0) (k := 1) (pc' := 769) (lv' := [(4, .int (Int32.ofNat (6 * i))), (3, .ref 3467), (2, .ref 102), (1, .ref 0), (0, .retAddr 9)]) (st' := [.retAddr 9, .ref 0]) (by decide +kernel) rfl rfl ?_
      refine ab_fin.s2 (i := .iload 4) (k := 2) (pc' := 771) (lv' := [(4, .int (Int32.ofNat (6 * i))), (3, .ref 3467), (2, .ref 102), (1, .ref 0), (0, .retAddr 9)]) (st' := [.int (Int32.ofNat (6 * i)), .retAddr 9, .ref 0]) (by decide +kernel) rfl rfl ?_
      refine ab_fin.s1i (i := .iconst 1) (k := 1) (pc' := 772) (n := 1) (by decide +kernel) rfl (by decide +kernel) rfl ?_
      refine ab_fin.s1 (i := .iadd) (k := 1) (pc' := 773) (st' := [.int (Int32.ofNat (6 * i) + 1), .retAddr 9, .ref 0]) (by decide +kernel) rfl rfl ?_
      refine ab_fin.s8 (i := .iaload) (k := 1) (pc' := 774) (st' := [.int (xs (6 * i + 1)), .ref 0]) (by decide +kernel) (ab_x0 rfl (ix_v (i := i) (j := 1) (L := L) (y := 1) (by omega) hL rfl).1 (congrArg (fun k => Value.int (xs k)) (ix_v (i := i) (j := 1) (L := L) (y := 1) (by omega) hL rfl).2)) rfl rfl rfl ?_
      refine ab_fin.s2 (i := .aload_n 0) (k := 1) (pc' := 775) (lv' := [(4, .int (Int32.ofNat (6 * i))), (3, .ref 3467), (2, .ref 102), (1, .ref 0), (0, .retAddr 9)]) (st' := [.retAddr 9, .int (xs (6 * i + 1)), .ref 0]) (by decide +kernel) rfl rfl ?_
      refine ab_fin.s2 (i := .iload 4) (k := 2) (pc' := 777) (lv' := [(4, .int (Int32.ofNat (6 * i))), (3, .ref 3467), (2, .ref 102), (1, .ref 0), (0, .retAddr 9)]) (st' := [.int (Int32.ofNat (6 * i)), .retAddr 9, .int (xs (6 * i + 1)), .ref 0]) (by decide +kernel) rfl rfl ?_
      refine ab_fin.s1i (i := .iconst 2) (k := 1) (pc' := 778) (n := 2) (by decide +kernel) rfl (by decide +kernel) rfl ?_
      refine ab_fin.s1 (i := .iadd) (k := 1) (pc' := 779) (st' := [.int (Int32.ofNat (6 * i) + 2), .retAddr 9, .int (xs (6 * i + 1)), .ref 0]) (by decide +kernel) rfl rfl ?_
      refine ab_fin.s8 (i := .iaload) (k := 1) (pc' := 780) (st' := [.int (xs (6 * i + 2)), .int (xs (6 * i + 1)), .ref 0]) (by decide +kernel) (ab_x0 rfl (ix_v (i := i) (j := 2) (L := L) (y := 2) (by omega) hL rfl).1 (congrArg (fun k => Value.int (xs k)) (ix_v (i := i) (j := 2) (L := L) (y := 2) (by omega) hL rfl).2)) rfl rfl rfl ?_
      refine ab_fin.s2 (i := .aload_n 3) (k := 1) (pc' := 781) (lv' := [(4, .int (Int32.ofNat (6 * i))), (3, .ref 3467), (2, .ref 102), (1, .ref 0), (0, .retAddr 9)]) (st' := [.ref 3467, .int (xs (6 * i + 2)), .int (xs (6 * i + 1)), .ref 0]) (by decide +kernel) rfl rfl ?_
      refine ab_fin.call (i := .invokestatic 114) (k := 3) (y := 13520) (As := [.ref 0, .int (xs (6 * i + 1)), .int (xs (6 * i + 2)), .ref 3467]) (rest := []) (M' := (mL_call, [(0, 10, 13, 13), (0, 10, 17, 19)])) (by decide +kernel) (ab_cs rfl rfl ⟨(Nat.le_of_ble_eq_true rfl), (Nat.le_of_ble_eq_true rfl)⟩ rfl) rfl (Nat.le_of_ble_eq_true rfl) ?_
      show ab_fin _ _ _ _ 0 [(0, .ref 0), (1, .int (xs (6 * i + 1))), (2, .int (xs (6 * i + 2))), (3, .ref 3467)] [] _ _
      refine ab_fin.s2 (i := .aload_n 3) (k := 1) (pc' := 1) (lv' := [(0, .ref 0), (1, .int (xs (6 * i + 1))), (2, .int (xs (6 * i + 2))), (3, .ref 3467)]) (st' := [.ref 3467]) (by decide +kernel) rfl rfl ?_
      refine ab_fin.s1i (i := .iconst 0) (k := 1) (pc' := 2) (n := 0) (by decide +kernel) rfl (by decide +kernel) rfl ?_
      refine ab_fin.s2 (i := .aload_n 0) (k := 1) (pc' := 3) (lv' := [(0, .ref 0), (1, .int (xs (6 * i + 1))), (2, .int (xs (6 * i + 2))), (3, .ref 3467)]) (st' := [.ref 0, .int 0, .ref 3467]) (by decide +kernel) rfl rfl ?_
      refine ab_fin.s2 (i := .iload_n 1) (k := 1) (pc' := 4) (lv' := [(0, .ref 0), (1, .int (xs (6 * i + 1))), (2, .int (xs (6 * i + 2))), (3, .ref 3467)]) (st' := [.int (xs (6 * i + 1)), .ref 0, .int 0, .ref 3467]) (by decide +kernel) rfl rfl ?_
      refine ab_fin.s2 (i := .iload_n 2) (k := 1) (pc' := 5) (lv' := [(0, .ref 0), (1, .int (xs (6 * i + 1))), (2, .int (xs (6 * i + 2))), (3, .ref 3467)]) (st' := [.int (xs (6 * i + 2)), .int (xs (6 * i + 1)), .ref 0, .int 0, .ref 3467]) (by decide +kernel) rfl rfl ?_
      refine ab_fin.call (i := .invokevirtual 43) (k := 3) (y := 3085) (As := [.ref 0, .int (xs (6 * i + 1)), .int (xs (6 * i + 2))]) (rest := [.int 0, .ref 3467]) (M' := (mX12_call, [])) (by decide +kernel) (ab_cv rfl rfl e13 ⟨(Nat.le_of_ble_eq_true rfl), (Nat.le_of_ble_eq_true rfl)⟩ rfl) rfl (Nat.le_of_ble_eq_true rfl) ?_
      show ab_fin _ _ _ _ 0 [(0, .ref 0), (1, .int (xs (6 * i + 1))), (2, .int (xs (6 * i + 2)))] [] _ _
      refine W0.C hG (fun a => [(0, .ref a), (1, .int (xs (6 * i + 1))), (2, .int (xs (6 * i + 2)))]) (fun g => rfl) hC (fun r0 hc1 fC1 h1 q1 W1 => ?_)
      obtain ⟨x9, e9⟩ := q1.2
      subst e9
      show ab_bk _ _ _ _ _ _ _ _ _ (.inr ("java/lang/IllegalArgumentException", fC1 x9)) _
      refine ab_bk.catch (hp := 17) (by decide +kernel) rfl ?_
      refine ab_fin.s2 (i := .astore 4) (k := 2) (pc' := 19) (lv' := [(4, .ref (fC1 x9)), (0, .ref 0), (1, .int (xs (6 * i + 1))), (2, .int (xs (6 * i + 2))), (3, .ref 3467)]) (st' := []) (by decide +kernel) rfl rfl ?_
      refine ab_fin.s1i (i := .iconst 2) (k := 1) (pc' := 20) (n := 2) (by decide +kernel) rfl (by decide +kernel) rfl ?_
      refine ab_fin.ret (i := .ireturn) (k := 1) (some (.int 2)) (by decide +kernel) rfl ?_
      refine ab_bk.back (pc' := 784) (st' := [.int 2]) rfl rfl ?_
      refine ab_fin.s2 (i := .istore 5) (k := 2) (pc' := 786) (lv' := [(5, .int 2), (4, .int (Int32.ofNat (6 * i))), (3, .ref 3467), (2, .ref 102), (1, .ref 0), (0, .retAddr 9)]) (st' := []) (by decide +kernel) rfl rfl ?_
      refine ab_fin.s2 (i := .aload_n 2) (k := 1) (pc' := 787) (lv' := [(5, .int 2), (4, .int (Int32.ofNat (6 * i))), (3, .ref 3467), (2, .ref 102), (1, .ref 0), (0, .retAddr 9)]) (st' := [.ref 102]) (by decide +kernel) rfl rfl ?_
      refine ab_fin.s2 (i := .aload_n 0) (k := 1) (pc' := 788) (lv' := [(5, .int 2), (4, .int (Int32.ofNat (6 * i))), (3, .ref 3467), (2, .ref 102), (1, .ref 0), (0, .retAddr 9)]) (st' := [.retAddr 9, .ref 102]) (by decide +kernel) rfl rfl ?_
      refine ab_fin.s2 (i := .iload 4) (k := 2) (pc' := 790) (lv' := [(5, .int 2), (4, .int (Int32.ofNat (6 * i))), (3, .ref 3467), (2, .ref 102), (1, .ref 0), (0, .retAddr 9)]) (st' := [.int (Int32.ofNat (6 * i)), .retAddr 9, .ref 102]) (by decide +kernel) rfl rfl ?_
      refine ab_fin.s1i (i := .iconst 1) (k := 1) (pc' := 791) (n := 1) (by decide +kernel) rfl (by decide +kernel) rfl ?_
      refine ab_fin.s1 (i := .iadd) (k := 1) (pc' := 792) (st' := [.int (Int32.ofNat (6 * i) + 1), .retAddr 9, .ref 102]) (by decide +kernel) rfl rfl ?_
      refine ab_fin.s8 (i := .iaload) (k := 1) (pc' := 793) (st' := [.int (xs (6 * i + 1)), .ref 102]) (by decide +kernel) (ab_x0 rfl (ix_v (i := i) (j := 1) (L := L) (y := 1) (by omega) hL rfl).1 (congrArg (fun k => Value.int (xs k)) (ix_v (i := i) (j := 1) (L := L) (y := 1) (by omega) hL rfl).2)) rfl rfl rfl ?_
      refine ab_fin.s2 (i := .aload_n 0) (k := 1) (pc' := 794) (lv' := [(5, .int 2), (4, .int (Int32.ofNat (6 * i))), (3, .ref 3467), (2, .ref 102), (1, .ref 0), (0, .retAddr 9)]) (st' := [.retAddr 9, .int (xs (6 * i + 1)), .ref 102]) (by decide +kernel) rfl rfl ?_
      refine ab_fin.s2 (i := .iload 4) (k := 2) (pc' := 796) (lv' := [(5, .int 2), (4, .int (Int32.ofNat (6 * i))), (3, .ref 3467), (2, .ref 102), (1, .ref 0), (0, .retAddr 9)]) (st' := [.int (Int32.ofNat (6 * i)), .retAddr 9, .int (xs (6 * i + 1)), .ref 102]) (by decide +kernel) rfl rfl ?_
      refine ab_fin.s1i (i := .iconst 2) (k := 1) (pc' := 797) (n := 2) (by decide +kernel) rfl (by decide +kernel) rfl ?_
      refine ab_fin.s1 (i := .iadd) (k := 1) (pc' := 798) (st' := [.int (Int32.ofNat (6 * i) + 2), .retAddr 9, .int (xs (6 * i + 1)), .ref 102]) (by decide +kernel) rfl rfl ?_
      refine ab_fin.s8 (i := .iaload) (k := 1) (pc' := 799) (st' := [.int (xs (6 * i + 2)), .int (xs (6 * i + 1)), .ref 102]) (by decide +kernel) (ab_x0 rfl (ix_v (i := i) (j := 2) (L := L) (y := 2) (by omega) hL rfl).1 (congrArg (fun k => Value.int (xs k)) (ix_v (i := i) (j := 2) (L := L) (y := 2) (by omega) hL rfl).2)) rfl rfl rfl ?_
      refine ab_fin.call (i := .invokevirtual 116) (k := 3) (y := 6005) (As := [.ref 102, .int (xs (6 * i + 1)), .int (xs (6 * i + 2))]) (rest := []) (M' := (mX23_call_, [])) (by decide +kernel) (ab_cv rfl rfl (W1.r0 e24) ⟨(Nat.le_of_ble_eq_true rfl), (Nat.le_of_ble_eq_true rfl)⟩ rfl) rfl (Nat.le_of_ble_eq_true rfl) ?_
      show ab_fin _ _ _ _ 0 [(0, .ref 102), (1, .int (xs (6 * i + 1))), (2, .int (xs (6 * i + 2)))] [] _ _
      refine W1.R hG (fun a => [(0, .ref a), (1, .int (xs (6 * i + 1))), (2, .int (xs (6 * i + 2)))]) (fun g => rfl) hR (fun r0 hr1 fR1 h2 q2 W2 => ?_)
      obtain rfl : r0 = .inl (some (.int 0)) := q2.2.1
      show ab_bk _ _ _ _ _ _ _ _ _ (.inl (some (.int 0))) _
      refine ab_bk.back (pc' := 802) (st' := [.int 0]) rfl rfl ?_
      obtain ⟨fs, t1, t2⟩ := thrR.at W2 q2.2.2
      refine ab_fin.s2 (i := .istore 6) (k := 2) (pc' := 804) (lv' := [(6, .int 0), (5, .int 2), (4, .int (Int32.ofNat (6 * i))), (3, .ref 3467), (2, .ref 102), (1, .ref 0), (0, .retAddr 9)]) (st' := []) (by decide +kernel) rfl rfl ?_
      refine ab_fin.s2 (i := .aload_n 2) (k := 1) (pc' := 805) (lv' := [(6, .int 0), (5, .int 2), (4, .int (Int32.ofNat (6 * i))), (3, .ref 3467), (2, .ref 102), (1, .ref 0), (0, .retAddr 9)]) (st' := [.ref 102]) (by decide +kernel) rfl rfl ?_
      refine ab_fin.call (i := .invokevirtual 75) (k := 3) (y := 5992) (As := [.ref 102]) (rest := []) (M' := (mX23_thrown, [])) (by decide +kernel) (ab_cv rfl rfl t1 ⟨(Nat.le_of_ble_eq_true rfl), (Nat.le_of_ble_eq_true rfl)⟩ rfl) rfl (Nat.le_of_ble_eq_true rfl) ?_
      show ab_fin _ _ _ _ 0 [(0, .ref 102)] [] _ _
      refine ab_fin.s2 (i := .aload_n 0) (k := 1) (pc' := 1) (lv' := [(0, .ref 102)]) (st' := [.ref 102]) (by decide +kernel) rfl rfl ?_
      refine ab_fin.getf (ix := 1000) (k := 110) (v := .int 2) (pc' := 4) (by decide +kernel) rfl t1 t2 rfl ?_
      refine ab_fin.ret (i := .ireturn) (k := 1) (some (.int 2)) (by decide +kernel) rfl ?_
      refine ab_bk.back (pc' := 808) (st' := [.int 2]) rfl rfl ?_
      refine ab_fin.s2 (i := .iload 5) (k := 2) (pc' := 810) (lv' := [(6, .int 0), (5, .int 2), (4, .int (Int32.ofNat (6 * i))), (3, .ref 3467), (2, .ref 102), (1, .ref 0), (0, .retAddr 9)]) (st' := [.int 2, .int 2]) (by decide +kernel) rfl rfl ?_
      refine ab_fin.brT (c := (2 : Int32) = (2 : Int32)) (i := .if_icmp .eq 5) (off := 5) (t := 815) (r := []) (by decide +kernel) rfl (by decide +kernel) rfl ?_
      refine ab_fin.s2 (i := .iload 5) (k := 2) (pc' := 817) (lv' := [(6, .int 0), (5, .int 2), (4, .int (Int32.ofNat (6 * i))), (3, .ref 3467), (2, .ref 102), (1, .ref 0), (0, .retAddr 9)]) (st' := [.int 2]) (by decide +kernel) rfl rfl ?_
      refine ab_fin.brT (c := ¬ (2 : Int32) = 0) (i := .ifCond .ne 15) (off := 15) (t := 832) (r := []) (by decide +kernel) rfl (by decide +kernel) (by decide +kernel) ?_
      refine ab_fin.s3 (i := .goto 258) (k := 3) (t := 1090) (st' := []) (by decide +kernel) (ab_goto (by decide +kernel)) ?_
      refine ab_fin.lv (lv' := [(4, .int (Int32.ofNat (6 * i))), (3, .ref 3467), (2, .ref 102), (1, .ref 0), (0, .retAddr 9)]) ⟨fun q hq => ?_, (by show ([6, 5, 4, 3, 2, 1, 0] : List Nat).Nodup; decide)⟩ (go _ _ _ _ _ _ W2 q1.1 q2.1)
      simp only [List.mem_cons, List.not_mem_nil, or_false] at hq ⊢
      rcases hq with rfl | rfl | rfl | rfl | rfl <;> simp
  · refine ab_fin.s2 (i := .aload_n 1) (k := 1) (pc' := 768) (lv' := [(4, .int (Int32.ofNat (6 * i))), (3, .ref 3467), (2, .ref 102), (1, .ref 0), (0, .retAddr 9)]) (st' := [.ref 0]) (by decide +kernel) rfl rfl ?_
    refine ab_fin.s2 (i := .aload_n 0) (k := 1) (pc' := 769) (lv' := [(4, .int (Int32.ofNat (6 * i))), (3, .ref 3467), (2, .ref 102), (1, .ref 0), (0, .retAddr 9)]) (st' := [.retAddr 9, .ref 0]) (by decide +kernel) rfl rfl ?_
    refine ab_fin.s2 (i := .iload 4) (k := 2) (pc' := 771) (lv' := [(4, .int (Int32.ofNat (6 * i))), (3, .ref 3467), (2, .ref 102), (1, .ref 0), (0, .retAddr 9)]) (st' := [.int (Int32.ofNat (6 * i)), .retAddr 9, .ref 0]) (by decide +kernel) rfl rfl ?_
    refine ab_fin.s1i (i := .iconst 1) (k := 1) (pc' := 772) (n := 1) (by decide +kernel) rfl (by decide +kernel) rfl ?_
    refine ab_fin.s1 (i := .iadd) (k := 1) (pc' := 773) (st' := [.int (Int32.ofNat (6 * i) + 1), .retAddr 9, .ref 0]) (by decide +kernel) rfl rfl ?_
    refine ab_fin.s8 (i := .iaload) (k := 1) (pc' := 774) (st' := [.int (xs (6 * i + 1)), .ref 0]) (by decide +kernel) (ab_x0 rfl (ix_v (i := i) (j := 1) (L := L) (y := 1) (by omega) hL rfl).1 (congrArg (fun k => Value.int (xs k)) (ix_v (i := i) (j := 1) (L := L) (y := 1) (by omega) hL rfl).2)) rfl rfl rfl ?_
    refine ab_fin.s2 (i := .aload_n 0) (k := 1) (pc' := 775) (lv' := [(4, .int (Int32.ofNat (6 * i))), (3, .ref 3467), (2, .ref 102), (1, .ref 0), (0, .retAddr 9)]) (st' := [.retAddr 9, .int (xs (6 * i + 1)), .ref 0]) (by decide +kernel) rfl rfl ?_
    refine ab_fin.s2 (i := .iload 4) (k := 2) (pc' := 777) (lv' := [(4, .int (Int32.ofNat (6 * i))), (3, .ref 3467), (2, .ref 102), (1, .ref 0), (0, .retAddr 9)]) (st' := [.int (Int32.ofNat (6 * i)), .retAddr 9, .int (xs (6 * i + 1)), .ref 0]) (by decide +kernel) rfl rfl ?_
    refine ab_fin.s1i (i := .iconst 2) (k := 1) (pc' := 778) (n := 2) (by decide +kernel) rfl (by decide +kernel) rfl ?_
    refine ab_fin.s1 (i := .iadd) (k := 1) (pc' := 779) (st' := [.int (Int32.ofNat (6 * i) + 2), .retAddr 9, .int (xs (6 * i + 1)), .ref 0]) (by decide +kernel) rfl rfl ?_
    refine ab_fin.s8 (i := .iaload) (k := 1) (pc' := 780) (st' := [.int (xs (6 * i + 2)), .int (xs (6 * i + 1)), .ref 0]) (by decide +kernel) (ab_x0 rfl (ix_v (i := i) (j := 2) (L := L) (y := 2) (by omega) hL rfl).1 (congrArg (fun k => Value.int (xs k)) (ix_v (i := i) (j := 2) (L := L) (y := 2) (by omega) hL rfl).2)) rfl rfl rfl ?_
    refine ab_fin.s2 (i := .aload_n 3) (k := 1) (pc' := 781) (lv' := [(4, .int (Int32.ofNat (6 * i))), (3, .ref 3467), (2, .ref 102), (1, .ref 0), (0, .retAddr 9)]) (st' := [.ref 3467, .int (xs (6 * i + 2)), .int (xs (6 * i + 1)), .ref 0]) (by decide +kernel) rfl rfl ?_
    refine ab_fin.call (i := .invokestatic 114) (k := 3) (y := 13520) (As := [.ref 0, .int (xs (6 * i + 1)), .int (xs (6 * i + 2)), .ref 3467]) (rest := []) (M' := (mL_call, [(0, 10, 13, 13), (0, 10, 17, 19)])) (by decide +kernel) (ab_cs rfl rfl ⟨(Nat.le_of_ble_eq_true rfl), (Nat.le_of_ble_eq_true rfl)⟩ rfl) rfl (Nat.le_of_ble_eq_true rfl) ?_
    show ab_fin _ _ _ _ 0 [(0, .ref 0), (1, .int (xs (6 * i + 1))), (2, .int (xs (6 * i + 2))), (3, .ref 3467)] [] _ _
    refine ab_fin.s2 (i := .aload_n 3) (k := 1) (pc' := 1) (lv' := [(0, .ref 0), (1, .int (xs (6 * i + 1))), (2, .int (xs (6 * i + 2))), (3, .ref 3467)]) (st' := [.ref 3467]) (by decide +kernel) rfl rfl ?_
    refine ab_fin.s1i (i := .iconst 0) (k := 1) (pc' := 2) (n := 0) (by decide +kernel) rfl (by decide +kernel) rfl ?_
    refine ab_fin.s2 (i := .aload_n 0) (k := 1) (pc' := 3) (lv' := [(0, .ref 0), (1, .int (xs (6 * i + 1))), (2, .int (xs (6 * i + 2))), (3, .ref 3467)]) (st' := [.ref 0, .int 0, .ref 3467]) (by decide +kernel) rfl rfl ?_
    refine ab_fin.s2 (i := .iload_n 1) (k := 1) (pc' := 4) (lv' := [(0, .ref 0), (1, .int (xs (6 * i + 1))), (2, .int (xs (6 * i + 2))), (3, .ref 3467)]) (st' := [.int (xs (6 * i + 1)), .ref 0, .int 0, .ref 3467]) (by decide +kernel) rfl rfl ?_
    refine ab_fin.s2 (i := .iload_n 2) (k := 1) (pc' := 5) (lv' := [(0, .ref 0), (1, .int (xs (6 * i + 1))), (2, .int (xs (6 * i + 2))), (3, .ref 3467)]) (st' := [.int (xs (6 * i + 2)), .int (xs (6 * i + 1)), .ref 0, .int 0, .ref 3467]) (by decide +kernel) rfl rfl ?_
    refine ab_fin.call (i := .invokevirtual 43) (k := 3) (y := 3085) (As := [.ref 0, .int (xs (6 * i + 1)), .int (xs (6 * i + 2))]) (rest := [.int 0, .ref 3467]) (M' := (mX12_call, [])) (by decide +kernel) (ab_cv rfl rfl e13 ⟨(Nat.le_of_ble_eq_true rfl), (Nat.le_of_ble_eq_true rfl)⟩ rfl) rfl (Nat.le_of_ble_eq_true rfl) ?_
    show ab_fin _ _ _ _ 0 [(0, .ref 0), (1, .int (xs (6 * i + 1))), (2, .int (xs (6 * i + 2)))] [] _ _
    refine W0.C hG (fun a => [(0, .ref a), (1, .int (xs (6 * i + 1))), (2, .int (xs (6 * i + 2)))]) (fun g => rfl) hC (fun r0 hc1 fC1 h1 q1 W1 => ?_)
    obtain rfl : r0 = .inl (some (.int v)) := q1.2
    show ab_bk _ _ _ _ _ _ _ _ _ (.inl (some (.int v))) _
    refine ab_bk.back (pc' := 8) (st' := [.int v, .int 0, .ref 3467]) rfl rfl ?_
    refine ab_fin.s1 (i := .i2l) (k := 1) (pc' := 9) (st' := [.long (v.toInt64), .int 0, .ref 3467]) (by decide +kernel) rfl rfl ?_
    refine ab_fin.last (l := [o]) (h1 := h1.set 3467 (.inr (.inl (1, .inr (.inl [v.toInt64]))))) (pc' := 10) (by decide +kernel) W1.2.2.2.2.1 (hi0 _) rfl rfl ?_
    have W1x := W1.out (v.toInt64)
    refine ab_fin.s3 (i := .goto 11) (k := 3) (t := 21) (st' := []) (by decide +kernel) (ab_goto (by decide +kernel)) ?_
    refine ab_fin.s1i (i := .iconst 0) (k := 1) (pc' := 22) (n := 0) (by decide +kernel) rfl (by decide +kernel) rfl ?_
    refine ab_fin.ret (i := .ireturn) (k := 1) (some (.int 0)) (by decide +kernel) rfl ?_
    refine ab_bk.back (pc' := 784) (st' := [.int 0]) rfl rfl ?_
    refine ab_fin.s2 (i := .istore 5) (k := 2) (pc' := 786) (lv' := [(5, .int 0), (4, .int (Int32.ofNat (6 * i))), (3, .ref 3467), (2, .ref 102), (1, .ref 0), (0, .retAddr 9)]) (st' := []) (by decide +kernel) rfl rfl ?_
    refine ab_fin.s2 (i := .aload_n 2) (k := 1) (pc' := 787) (lv' := [(5, .int 0), (4, .int (Int32.ofNat (6 * i))), (3, .ref 3467), (2, .ref 102), (1, .ref 0), (0, .retAddr 9)]) (st' := [.ref 102]) (by decide +kernel) rfl rfl ?_
    refine ab_fin.s2 (i := .aload_n 0) (k := 1) (pc' := 788) (lv' := [(5, .int 0), (4, .int (Int32.ofNat (6 * i))), (3, .ref 3467), (2, .ref 102), (1, .ref 0), (0, .retAddr 9)]) (st' := [.retAddr 9, .ref 102]) (by decide +kernel) rfl rfl ?_
    refine ab_fin.s2 (i := .iload 4) (k := 2) (pc' := 790) (lv' := [(5, .int 0), (4, .int (Int32.ofNat (6 * i))), (3, .ref 3467), (2, .ref 102), (1, .ref 0), (0, .retAddr 9)]) (st' := [.int (Int32.ofNat (6 * i)), .retAddr 9, .ref 102]) (by decide +kernel) rfl rfl ?_
    refine ab_fin.s1i (i := .iconst 1) (k := 1) (pc' := 791) (n := 1) (by decide +kernel) rfl (by decide +kernel) rfl ?_
    refine ab_fin.s1 (i := .iadd) (k := 1) (pc' := 792) (st' := [.int (Int32.ofNat (6 * i) + 1), .retAddr 9, .ref 102]) (by decide +kernel) rfl rfl ?_
    refine ab_fin.s8 (i := .iaload) (k := 1) (pc' := 793) (st' := [.int (xs (6 * i + 1)), .ref 102]) (by decide +kernel) (ab_x0 rfl (ix_v (i := i) (j := 1) (L := L) (y := 1) (by omega) hL rfl).1 (congrArg (fun k => Value.int (xs k)) (ix_v (i := i) (j := 1) (L := L) (y := 1) (by omega) hL rfl).2)) rfl rfl rfl ?_
    refine ab_fin.s2 (i := .aload_n 0) (k := 1) (pc' := 794) (lv' := [(5, .int 0), (4, .int (Int32.ofNat (6 * i))), (3, .ref 3467), (2, .ref 102), (1, .ref 0), (0, .retAddr 9)]) (st' := [.retAddr 9, .int (xs (6 * i + 1)), .ref 102]) (by decide +kernel) rfl rfl ?_
    refine ab_fin.s2 (i := .iload 4) (k := 2) (pc' := 796) (lv' := [(5, .int 0), (4, .int (Int32.ofNat (6 * i))), (3, .ref 3467), (2, .ref 102), (1, .ref 0), (0, .retAddr 9)]) (st' := [.int (Int32.ofNat (6 * i)), .retAddr 9, .int (xs (6 * i + 1)), .ref 102]) (by decide +kernel) rfl rfl ?_
    refine ab_fin.s1i (i := .iconst 2) (k := 1) (pc' := 797) (n := 2) (by decide +kernel) rfl (by decide +kernel) rfl ?_
    refine ab_fin.s1 (i := .iadd) (k := 1) (pc' := 798) (st' := [.int (Int32.ofNat (6 * i) + 2), .retAddr 9, .int (xs (6 * i + 1)), .ref 102]) (by decide +kernel) rfl rfl ?_
    refine ab_fin.s8 (i := .iaload) (k := 1) (pc' := 799) (st' := [.int (xs (6 * i + 2)), .int (xs (6 * i + 1)), .ref 102]) (by decide +kernel) (ab_x0 rfl (ix_v (i := i) (j := 2) (L := L) (y := 2) (by omega) hL rfl).1 (congrArg (fun k => Value.int (xs k)) (ix_v (i := i) (j := 2) (L := L) (y := 2) (by omega) hL rfl).2)) rfl rfl rfl ?_
    refine ab_fin.call (i := .invokevirtual 116) (k := 3) (y := 6005) (As := [.ref 102, .int (xs (6 * i + 1)), .int (xs (6 * i + 2))]) (rest := []) (M' := (mX23_call_, [])) (by decide +kernel) (ab_cv rfl rfl (W1x.r0 e24) ⟨(Nat.le_of_ble_eq_true rfl), (Nat.le_of_ble_eq_true rfl)⟩ rfl) rfl (Nat.le_of_ble_eq_true rfl) ?_
    show ab_fin _ _ _ _ 0 [(0, .ref 102), (1, .int (xs (6 * i + 1))), (2, .int (xs (6 * i + 2)))] [] _ _
    refine W1x.R hG (fun a => [(0, .ref a), (1, .int (xs (6 * i + 1))), (2, .int (xs (6 * i + 2)))]) (fun g => rfl) hR (fun r0 hr1 fR1 h2 q2 W2 => ?_)
    obtain rfl : r0 = .inl (some (.int v)) := q2.2.1
    show ab_bk _ _ _ _ _ _ _ _ _ (.inl (some (.int v))) _
    refine ab_bk.back (pc' := 802) (st' := [.int v]) rfl rfl ?_
    obtain ⟨fs, t1, t2⟩ := thrR.at W2 q2.2.2
    refine ab_fin.s2 (i := .istore 6) (k := 2) (pc' := 804) (lv' := [(6, .int v), (5, .int 0), (4, .int (Int32.ofNat (6 * i))), (3, .ref 3467), (2, .ref 102), (1, .ref 0), (0, .retAddr 9)]) (st' := []) (by decide +kernel) rfl rfl ?_
    refine ab_fin.s2 (i := .aload_n 2) (k := 1) (pc' := 805) (lv' := [(6, .int v), (5, .int 0), (4, .int (Int32.ofNat (6 * i))), (3, .ref 3467), (2, .ref 102), (1, .ref 0), (0, .retAddr 9)]) (st' := [.ref 102]) (by decide +kernel) rfl rfl ?_
    refine ab_fin.call (i := .invokevirtual 75) (k := 3) (y := 5992) (As := [.ref 102]) (rest := []) (M' := (mX23_thrown, [])) (by decide +kernel) (ab_cv rfl rfl t1 ⟨(Nat.le_of_ble_eq_true rfl), (Nat.le_of_ble_eq_true rfl)⟩ rfl) rfl (Nat.le_of_ble_eq_true rfl) ?_
    show ab_fin _ _ _ _ 0 [(0, .ref 102)] [] _ _
    refine ab_fin.s2 (i := .aload_n 0) (k := 1) (pc' := 1) (lv' := [(0, .ref 102)]) (st' := [.ref 102]) (by decide +kernel) rfl rfl ?_
    refine ab_fin.getf (ix := 1000) (k := 110) (v := .int 0) (pc' := 4) (by decide +kernel) rfl t1 t2 rfl ?_
    refine ab_fin.ret (i := .ireturn) (k := 1) (some (.int 0)) (by decide +kernel) rfl ?_
    refine ab_bk.back (pc' := 808) (st' := [.int 0]) rfl rfl ?_
    refine ab_fin.s2 (i := .iload 5) (k := 2) (pc' := 810) (lv' := [(6, .int v), (5, .int 0), (4, .int (Int32.ofNat (6 * i))), (3, .ref 3467), (2, .ref 102), (1, .ref 0), (0, .retAddr 9)]) (st' := [.int 0, .int 0]) (by decide +kernel) rfl rfl ?_
    refine ab_fin.brT (c := (0 : Int32) = (0 : Int32)) (i := .if_icmp .eq 5) (off := 5) (t := 815) (r := []) (by decide +kernel) rfl (by decide +kernel) rfl ?_
    refine ab_fin.s2 (i := .iload 5) (k := 2) (pc' := 817) (lv' := [(6, .int v), (5, .int 0), (4, .int (Int32.ofNat (6 * i))), (3, .ref 3467), (2, .ref 102), (1, .ref 0), (0, .retAddr 9)]) (st' := [.int 0]) (by decide +kernel) rfl rfl ?_
    refine ab_fin.brF (c := ¬ (0 : Int32) = 0) (i := .ifCond .ne 15) (off := 15) (t := 832) (pc' := 820) (r := []) (by decide +kernel) rfl (by decide +kernel) rfl (by decide +kernel) ?_
    refine ab_fin.s2 (i := .aload_n 3) (k := 1) (pc' := 821) (lv' := [(6, .int v), (5, .int 0), (4, .int (Int32.ofNat (6 * i))), (3, .ref 3467), (2, .ref 102), (1, .ref 0), (0, .retAddr 9)]) (st' := [.ref 3467]) (by decide +kernel) rfl rfl ?_
    refine ab_fin.s1i (i := .iconst 0) (k := 1) (pc' := 822) (n := 0) (by decide +kernel) rfl (by decide +kernel) rfl ?_
    refine ab_fin.lald (l := [v.toInt64]) (v := v.toInt64) (pc' := 823) (by decide +kernel) W2.2.2.2.2.1 (hi0 _) rfl rfl ?_
    refine ab_fin.s2 (i := .iload 6) (k := 2) (pc' := 825) (lv' := [(6, .int v), (5, .int 0), (4, .int (Int32.ofNat (6 * i))), (3, .ref 3467), (2, .ref 102), (1, .ref 0), (0, .retAddr 9)]) (st' := [.int v, .long (v.toInt64)]) (by decide +kernel) rfl rfl ?_
    refine ab_fin.s1 (i := .i2l) (k := 1) (pc' := 826) (st' := [.long (v.toInt64), .long (v.toInt64)]) (by decide +kernel) rfl rfl ?_
    refine ab_fin.s1i (i := .lcmp) (k := 1) (pc' := 827) (n := 0) (by decide +kernel) rfl (lg_c0 _) rfl ?_
    refine ab_fin.brT (c := (0 : Int32) = 0) (i := .ifCond .eq 5) (off := 5) (t := 832) (r := []) (by decide +kernel) rfl (by decide +kernel) (by decide +kernel) ?_
    refine ab_fin.s3 (i := .goto 258) (k := 3) (t := 1090) (st' := []) (by decide +kernel) (ab_goto (by decide +kernel)) ?_
    refine ab_fin.lv (lv' := [(4, .int (Int32.ofNat (6 * i))), (3, .ref 3467), (2, .ref 102), (1, .ref 0), (0, .retAddr 9)]) ⟨fun q hq => ?_, (by show ([6, 5, 4, 3, 2, 1, 0] : List Nat).Nodup; decide)⟩ (go _ _ _ _ _ _ W2 q1.1 q2.1)
    simp only [List.mem_cons, List.not_mem_nil, or_false] at hq ⊢
    rcases hq with rfl | rfl | rfl | rfl | rfl <;> simp
set_option maxRecDepth 100000 in
set_option maxHeartbeats 0 in
theorem lw_run {z4 z5 z6 : Value} {xs : Nat → Int32} {L : Nat} {h hc hr : List ab_E} {o : Int64} {fC fR : Nat → Nat} {PC PR : List ab_E → Prop} {Q : ab_RX → List ab_E → Prop} (hL : L ≤ 3072) (hG : ab_pure (hb_Gz (some z4, some z5, some z6) (some (0, L, fun i => .int (xs i))))) {i : Nat} (hi : 6 * i + 6 ≤ L) (W0 : Two h hc hr o fC fR) (k13 : is13 hc) (k24 : is24 hr) {r : Nat ⊕ Int32} (ht : ∀ th, r = .inl th → th = 1) (hC : ab_fin (hb_Gz (some z4, some z5, some z6) (some (0, L, fun i => .int (xs i)))) hb_GT 2044 (mX12_run, []) 0 [(0, .ref 0)] [] hc (AnC "java/lang/IllegalStateException" "java/lang/IllegalStateException" PC r)) (hR : ab_fin (hb_Gz (some z4, some z5, some z6) (some (0, L, fun i => .int (xs i)))) hb_GT 2045 (mX23_run, []) 0 [(0, .ref 0)] [] hr (AnR PR r)) (go : ∀ h' hc' hr' o' fC' fR', Two h' hc' hr' o' fC' fR' → PC hc' → PR hr' → ab_fin (hb_Gz (some z4, some z5, some z6) (some (0, L, fun i => .int (xs i)))) hb_GT 2046 (mL_law, []) 1090 [(4, .int (Int32.ofNat (6 * i))), (3, .ref 3467), (2, .ref 102), (1, .ref 0), (0, .retAddr 9)] [] h' Q) : ab_fin (hb_Gz (some z4, some z5, some z6) (some (0, L, fun i => .int (xs i)))) hb_GT 2046 (mL_law, []) 835 [(4, .int (Int32.ofNat (6 * i))), (3, .ref 3467), (2, .ref 102), (1, .ref 0), (0, .retAddr 9)] [] h Q := by
  obtain ⟨fs13, k13⟩ := k13
  obtain ⟨fs24, e24⟩ := k24
  have e13 := W0.c0 k13
  rcases r with th | v
  · obtain rfl := ht th rfl
    refine ab_fin.s2 (i := .aload_n 1) (k := 1) (pc' := 836) (lv' := [(4, .int (Int32.ofNat (6 * i))), (3, .ref 3467), (2, .ref 102), (1, .ref 0), (0, .retAddr 9)]) (st' := [.ref 0]) (by decide +kernel) rfl rfl ?_
    refine ab_fin.s2 (i := .aload_n 3) (k := 1) (pc' := 837) (lv' := [(4, .int (Int32.ofNat (6 * i))), (3, .ref 3467), (2, .ref 102), (1, .ref 0), (0, .retAddr 9)]) (st' := [.ref 3467, .ref 0]) (by decide +kernel) rfl rfl ?_
    refine ab_fin.call (i := .invokestatic 117) (k := 3) (y := 13521) (As := [.ref 0, .ref 3467]) (rest := []) (M' := (mL_run, [(0, 8, 11, 50)])) (by decide +kernel) (ab_cs rfl rfl ⟨(Nat.le_of_ble_eq_true rfl), (Nat.le_of_ble_eq_true rfl)⟩ rfl) rfl (Nat.le_of_ble_eq_true rfl) ?_
    show ab_fin _ _ _ _ 0 [(0, .ref 0), (1, .ref 3467)] [] _ _
    refine ab_fin.s2 (i := .aload_n 1) (k := 1) (pc' := 1) (lv' := [(0, .ref 0), (1, .ref 3467)]) (st' := [.ref 3467]) (by decide +kernel) rfl rfl ?_
    refine ab_fin.s1i (i := .iconst 0) (k := 1) (pc' := 2) (n := 0) (by decide +kernel) rfl (by decide +kernel) rfl ?_
    refine ab_fin.s2 (i := .aload_n 0) (k := 1) (pc' := 3) (lv' := [(0, .ref 0), (1, .ref 3467)]) (st' := [.ref 0, .int 0, .ref 3467]) (by decide +kernel) rfl rfl ?_
    refine ab_fin.call (i := .invokevirtual 46) (k := 3) (y := 3086) (As := [.ref 0]) (rest := [.int 0, .ref 3467]) (M' := (mX12_run, [])) (by decide +kernel) (ab_cv rfl rfl e13 ⟨(Nat.le_of_ble_eq_true rfl), (Nat.le_of_ble_eq_true rfl)⟩ rfl) rfl (Nat.le_of_ble_eq_true rfl) ?_
    show ab_fin _ _ _ _ 0 [(0, .ref 0)] [] _ _
    refine W0.C hG (fun a => [(0, .ref a)]) (fun g => rfl) hC (fun r0 hc1 fC1 h1 q1 W1 => ?_)
    obtain ⟨x9, e9⟩ := q1.2
    subst e9
    show ab_bk _ _ _ _ _ _ _ _ _ (.inr ("java/lang/IllegalStateException", fC1 x9)) _
    refine ab_bk.catch (hp := 11) (by decide +kernel) rfl ?_
    refine ab_fin.s2 (i := .astore_n 2) (k := 1) (pc' := 12) (lv' := [(2, .ref (fC1 x9)), (0, .ref 0), (1, .ref 3467)]) (st' := []) (by decide +kernel) rfl rfl ?_
    refine ab_fin.s1i (i := .iconst 1) (k := 1) (pc' := 13) (n := 1) (by decide +kernel) rfl (by decide +kernel) rfl ?_
    refine ab_fin.ret (i := .ireturn) (k := 1) (some (.int 1)) (by decide +kernel) rfl ?_
    refine ab_bk.back (pc' := 840) (st' := [.int 1]) rfl rfl ?_
    refine ab_fin.s2 (i := .istore 5) (k := 2) (pc' := 842) (lv' := [(5, .int 1), (4, .int (Int32.ofNat (6 * i))), (3, .ref 3467), (2, .ref 102), (1, .ref 0), (0, .retAddr 9)]) (st' := []) (by decide +kernel) rfl rfl ?_
    refine ab_fin.s2 (i := .aload_n 2) (k := 1) (pc' := 843) (lv' := [(5, .int 1), (4, .int (Int32.ofNat (6 * i))), (3, .ref 3467), (2, .ref 102), (1, .ref 0), (0, .retAddr 9)]) (st' := [.ref 102]) (by decide +kernel) rfl rfl ?_
    refine ab_fin.call (i := .invokevirtual 120) (k := 3) (y := 6006) (As := [.ref 102]) (rest := []) (M' := (mX23_run, [])) (by decide +kernel) (ab_cv rfl rfl (W1.r0 e24) ⟨(Nat.le_of_ble_eq_true rfl), (Nat.le_of_ble_eq_true rfl)⟩ rfl) rfl (Nat.le_of_ble_eq_true rfl) ?_
    show ab_fin _ _ _ _ 0 [(0, .ref 102)] [] _ _
    refine W1.R hG (fun a => [(0, .ref a)]) (fun g => rfl) hR (fun r0 hr1 fR1 h2 q2 W2 => ?_)
    obtain rfl : r0 = .inl (some (.int 0)) := q2.2.1
    show ab_bk _ _ _ _ _ _ _ _ _ (.inl (some (.int 0))) _
    refine ab_bk.back (pc' := 846) (st' := [.int 0]) rfl rfl ?_
    obtain ⟨fs, t1, t2⟩ := thrR.at W2 q2.2.2
    refine ab_fin.s2 (i := .istore 6) (k := 2) (pc' := 848) (lv' := [(6, .int 0), (5, .int 1), (4, .int (Int32.ofNat (6 * i))), (3, .ref 3467), (2, .ref 102), (1, .ref 0), (0, .retAddr 9)]) (st' := []) (by decide +kernel) rfl rfl ?_
    refine ab_fin.s2 (i := .aload_n 2) (k := 1) (pc' := 849) (lv' := [(6, .int 0), (5, .int 1), (4, .int (Int32.ofNat (6 * i))), (3, .ref 3467), (2, .ref 102), (1, .ref 0), (0, .retAddr 9)]) (st' := [.ref 102]) (by decide +kernel) rfl rfl ?_
    refine ab_fin.call (i := .invokevirtual 75) (k := 3) (y := 5992) (As := [.ref 102]) (rest := []) (M' := (mX23_thrown, [])) (by decide +kernel) (ab_cv rfl rfl t1 ⟨(Nat.le_of_ble_eq_true rfl), (Nat.le_of_ble_eq_true rfl)⟩ rfl) rfl (Nat.le_of_ble_eq_true rfl) ?_
    show ab_fin _ _ _ _ 0 [(0, .ref 102)] [] _ _
    refine ab_fin.s2 (i := .aload_n 0) (k := 1) (pc' := 1) (lv' := [(0, .ref 102)]) (st' := [.ref 102]) (by decide +kernel) rfl rfl ?_
    refine ab_fin.getf (ix := 1000) (k := 110) (v := .int 1) (pc' := 4) (by decide +kernel) rfl t1 t2 rfl ?_
    refine ab_fin.ret (i := .ireturn) (k := 1) (some (.int 1)) (by decide +kernel) rfl ?_
    refine ab_bk.back (pc' := 852) (st' := [.int 1]) rfl rfl ?_
    refine ab_fin.s2 (i := .iload 5) (k := 2) (pc' := 854) (lv' := [(6, .int 0), (5, .int 1), (4, .int (Int32.ofNat (6 * i))), (3, .ref 3467), (2, .ref 102), (1, .ref 0), (0, .retAddr 9)]) (st' := [.int 1, .int 1]) (by decide +kernel) rfl rfl ?_
    refine ab_fin.brT (c := (1 : Int32) = (1 : Int32)) (i := .if_icmp .eq 5) (off := 5) (t := 859) (r := []) (by decide +kernel) rfl (by decide +kernel) rfl ?_
    refine ab_fin.s2 (i := .iload 5) (k := 2) (pc' := 861) (lv' := [(6, .int 0), (5, .int 1), (4, .int (Int32.ofNat (6 * i))), (3, .ref 3467), (2, .ref 102), (1, .ref 0), (0, .retAddr 9)]) (st' := [.int 1]) (by decide +kernel) rfl rfl ?_
    refine ab_fin.brT (c := ¬ (1 : Int32) = 0) (i := .ifCond .ne 15) (off := 15) (t := 876) (r := []) (by decide +kernel) rfl (by decide +kernel) (by decide +kernel) ?_
    refine ab_fin.s3 (i := .goto 214) (k := 3) (t := 1090) (st' := []) (by decide +kernel) (ab_goto (by decide +kernel)) ?_
    refine ab_fin.lv (lv' := [(4, .int (Int32.ofNat (6 * i))), (3, .ref 3467), (2, .ref 102), (1, .ref 0), (0, .retAddr 9)]) ⟨fun q hq => ?_, (by show ([6, 5, 4, 3, 2, 1, 0] : List Nat).Nodup; decide)⟩ (go _ _ _ _ _ _ W2 q1.1 q2.1)
    simp only [List.mem_cons, List.not_mem_nil, or_false] at hq ⊢
    rcases hq with rfl | rfl | rfl | rfl | rfl <;> simp
  · refine ab_fin.s2 (i := .aload_n 1) (k := 1) (pc' := 836) (lv' := [(4, .int (Int32.ofNat (6 * i))), (3, .ref 3467), (2, .ref 102), (1, .ref 0), (0, .retAddr 9)]) (st' := [.ref 0]) (by decide +kernel) rfl rfl ?_
    refine ab_fin.s2 (i := .aload_n 3) (k := 1) (pc' := 837) (lv' := [(4, .int (Int32.ofNat (6 * i))), (3, .ref 3467), (2, .ref 102), (1, .ref 0), (0, .retAddr 9)]) (st' := [.ref 3467, .ref 0]) (by decide +kernel) rfl rfl ?_
    refine ab_fin.call (i := .invokestatic 117) (k := 3) (y := 13521) (As := [.ref 0, .ref 3467]) (rest := []) (M' := (mL_run, [(0, 8, 11, 50)])) (by decide +kernel) (ab_cs rfl rfl ⟨(Nat.le_of_ble_eq_true rfl), (Nat.le_of_ble_eq_true rfl)⟩ rfl) rfl (Nat.le_of_ble_eq_true rfl) ?_
    show ab_fin _ _ _ _ 0 [(0, .ref 0), (1, .ref 3467)] [] _ _
    refine ab_fin.s2 (i := .aload_n 1) (k := 1) (pc' := 1) (lv' := [(0, .ref 0), (1, .ref 3467)]) (st' := [.ref 3467]) (by decide +kernel) rfl rfl ?_
    refine ab_fin.s1i (i := .iconst 0) (k := 1) (pc' := 2) (n := 0) (by decide +kernel) rfl (by decide +kernel) rfl ?_
    refine ab_fin.s2 (i := .aload_n 0) (k := 1) (pc' := 3) (lv' := [(0, .ref 0), (1, .ref 3467)]) (st' := [.ref 0, .int 0, .ref 3467]) (by decide +kernel) rfl rfl ?_
    refine ab_fin.call (i := .invokevirtual 46) (k := 3) (y := 3086) (As := [.ref 0]) (rest := [.int 0, .ref 3467]) (M' := (mX12_run, [])) (by decide +kernel) (ab_cv rfl rfl e13 ⟨(Nat.le_of_ble_eq_true rfl), (Nat.le_of_ble_eq_true rfl)⟩ rfl) rfl (Nat.le_of_ble_eq_true rfl) ?_
    show ab_fin _ _ _ _ 0 [(0, .ref 0)] [] _ _
    refine W0.C hG (fun a => [(0, .ref a)]) (fun g => rfl) hC (fun r0 hc1 fC1 h1 q1 W1 => ?_)
    obtain rfl : r0 = .inl (some (.int v)) := q1.2
    show ab_bk _ _ _ _ _ _ _ _ _ (.inl (some (.int v))) _
    refine ab_bk.back (pc' := 6) (st' := [.int v, .int 0, .ref 3467]) rfl rfl ?_
    refine ab_fin.s1 (i := .i2l) (k := 1) (pc' := 7) (st' := [.long (v.toInt64), .int 0, .ref 3467]) (by decide +kernel) rfl rfl ?_
    refine ab_fin.last (l := [o]) (h1 := h1.set 3467 (.inr (.inl (1, .inr (.inl [v.toInt64]))))) (pc' := 8) (by decide +kernel) W1.2.2.2.2.1 (hi0 _) rfl rfl ?_
    have W1x := W1.out (v.toInt64)
    refine ab_fin.s3 (i := .goto 6) (k := 3) (t := 14) (st' := []) (by decide +kernel) (ab_goto (by decide +kernel)) ?_
    refine ab_fin.s1i (i := .iconst 0) (k := 1) (pc' := 15) (n := 0) (by decide +kernel) rfl (by decide +kernel) rfl ?_
    refine ab_fin.ret (i := .ireturn) (k := 1) (some (.int 0)) (by decide +kernel) rfl ?_
    refine ab_bk.back (pc' := 840) (st' := [.int 0]) rfl rfl ?_
    refine ab_fin.s2 (i := .istore 5) (k := 2) (pc' := 842) (lv' := [(5, .int 0), (4, .int (Int32.ofNat (6 * i))), (3, .ref 3467), (2, .ref 102), (1, .ref 0), (0, .retAddr 9)]) (st' := []) (by decide +kernel) rfl rfl ?_
    refine ab_fin.s2 (i := .aload_n 2) (k := 1) (pc' := 843) (lv' := [(5, .int 0), (4, .int (Int32.ofNat (6 * i))), (3, .ref 3467), (2, .ref 102), (1, .ref 0), (0, .retAddr 9)]) (st' := [.ref 102]) (by decide +kernel) rfl rfl ?_
    refine ab_fin.call (i := .invokevirtual 120) (k := 3) (y := 6006) (As := [.ref 102]) (rest := []) (M' := (mX23_run, [])) (by decide +kernel) (ab_cv rfl rfl (W1x.r0 e24) ⟨(Nat.le_of_ble_eq_true rfl), (Nat.le_of_ble_eq_true rfl)⟩ rfl) rfl (Nat.le_of_ble_eq_true rfl) ?_
    show ab_fin _ _ _ _ 0 [(0, .ref 102)] [] _ _
    refine W1x.R hG (fun a => [(0, .ref a)]) (fun g => rfl) hR (fun r0 hr1 fR1 h2 q2 W2 => ?_)
    obtain rfl : r0 = .inl (some (.int v)) := q2.2.1
    show ab_bk _ _ _ _ _ _ _ _ _ (.inl (some (.int v))) _
    refine ab_bk.back (pc' := 846) (st' := [.int v]) rfl rfl ?_
    obtain ⟨fs, t1, t2⟩ := thrR.at W2 q2.2.2
    refine ab_fin.s2 (i := .istore 6) (k := 2) (pc' := 848) (lv' := [(6, .int v), (5, .int 0), (4, .int (Int32.ofNat (6 * i))), (3, .ref 3467), (2, .ref 102), (1, .ref 0), (0, .retAddr 9)]) (st' := []) (by decide +kernel) rfl rfl ?_
    refine ab_fin.s2 (i := .aload_n 2) (k := 1) (pc' := 849) (lv' := [(6, .int v), (5, .int 0), (4, .int (Int32.ofNat (6 * i))), (3, .ref 3467), (2, .ref 102), (1, .ref 0), (0, .retAddr 9)]) (st' := [.ref 102]) (by decide +kernel) rfl rfl ?_
    refine ab_fin.call (i := .invokevirtual 75) (k := 3) (y := 5992) (As := [.ref 102]) (rest := []) (M' := (mX23_thrown, [])) (by decide +kernel) (ab_cv rfl rfl t1 ⟨(Nat.le_of_ble_eq_true rfl), (Nat.le_of_ble_eq_true rfl)⟩ rfl) rfl (Nat.le_of_ble_eq_true rfl) ?_
    show ab_fin _ _ _ _ 0 [(0, .ref 102)] [] _ _
    refine ab_fin.s2 (i := .aload_n 0) (k := 1) (pc' := 1) (lv' := [(0, .ref 102)]) (st' := [.ref 102]) (by decide +kernel) rfl rfl ?_
    refine ab_fin.getf (ix := 1000) (k := 110) (v := .int 0) (pc' := 4) (by decide +kernel) rfl t1 t2 rfl ?_
    refine ab_fin.ret (i := .ireturn) (k := 1) (some (.int 0)) (by decide +kernel) rfl ?_
    refine ab_bk.back (pc' := 852) (st' := [.int 0]) rfl rfl ?_
    refine ab_fin.s2 (i := .iload 5) (k := 2) (pc' := 854) (lv' := [(6, .int v), (5, .int 0), (4, .int (Int32.ofNat (6 * i))), (3, .ref 3467), (2, .ref 102), (1, .ref 0), (0, .retAddr 9)]) (st' := [.int 0, .int 0]) (by decide +kernel) rfl rfl ?_
    refine ab_fin.brT (c := (0 : Int32) = (0 : Int32)) (i := .if_icmp .eq 5) (off := 5) (t := 859) (r := []) (by decide +kernel) rfl (by decide +kernel) rfl ?_
    refine ab_fin.s2 (i := .iload 5) (k := 2) (pc' := 861) (lv' := [(6, .int v), (5, .int 0), (4, .int (Int32.ofNat (6 * i))), (3, .ref 3467), (2, .ref 102), (1, .ref 0), (0, .retAddr 9)]) (st' := [.int 0]) (by decide +kernel) rfl rfl ?_
    refine ab_fin.brF (c := ¬ (0 : Int32) = 0) (i := .ifCond .ne 15) (off := 15) (t := 876) (pc' := 864) (r := []) (by decide +kernel) rfl (by decide +kernel) rfl (by decide +kernel) ?_
    refine ab_fin.s2 (i := .aload_n 3) (k := 1) (pc' := 865) (lv' := [(6, .int v), (5, .int 0), (4, .int (Int32.ofNat (6 * i))), (3, .ref 3467), (2, .ref 102), (1, .ref 0), (0, .retAddr 9)]) (st' := [.ref 3467]) (by decide +kernel) rfl rfl ?_
    refine ab_fin.s1i (i := .iconst 0) (k := 1) (pc' := 866) (n := 0) (by decide +kernel) rfl (by decide +kernel) rfl ?_
    refine ab_fin.lald (l := [v.toInt64]) (v := v.toInt64) (pc' := 867) (by decide +kernel) W2.2.2.2.2.1 (hi0 _) rfl rfl ?_
    refine ab_fin.s2 (i := .iload 6) (k := 2) (pc' := 869) (lv' := [(6, .int v), (5, .int 0), (4, .int (Int32.ofNat (6 * i))), (3, .ref 3467), (2, .ref 102), (1, .ref 0), (0, .retAddr 9)]) (st' := [.int v, .long (v.toInt64)]) (by decide +kernel) rfl rfl ?_
    refine ab_fin.s1 (i := .i2l) (k := 1) (pc' := 870) (st' := [.long (v.toInt64), .long (v.toInt64)]) (by decide +kernel) rfl rfl ?_
    refine ab_fin.s1i (i := .lcmp) (k := 1) (pc' := 871) (n := 0) (by decide +kernel) rfl (lg_c0 _) rfl ?_
    refine ab_fin.brT (c := (0 : Int32) = 0) (i := .ifCond .eq 5) (off := 5) (t := 876) (r := []) (by decide +kernel) rfl (by decide +kernel) (by decide +kernel) ?_
    refine ab_fin.s3 (i := .goto 214) (k := 3) (t := 1090) (st' := []) (by decide +kernel) (ab_goto (by decide +kernel)) ?_
    refine ab_fin.lv (lv' := [(4, .int (Int32.ofNat (6 * i))), (3, .ref 3467), (2, .ref 102), (1, .ref 0), (0, .retAddr 9)]) ⟨fun q hq => ?_, (by show ([6, 5, 4, 3, 2, 1, 0] : List Nat).Nodup; decide)⟩ (go _ _ _ _ _ _ W2 q1.1 q2.1)
    simp only [List.mem_cons, List.not_mem_nil, or_false] at hq ⊢
    rcases hq with rfl | rfl | rfl | rfl | rfl <;> simp
set_option maxRecDepth 100000 in
set_option maxHeartbeats 0 in
theorem lw_told {z4 z5 z6 : Value} {xs : Nat → Int32} {L : Nat} {h hc hr : List ab_E} {o : Int64} {fC fR : Nat → Nat} {PC PR : List ab_E → Prop} {Q : ab_RX → List ab_E → Prop} (hL : L ≤ 3072) (hG : ab_pure (hb_Gz (some z4, some z5, some z6) (some (0, L, fun i => .int (xs i))))) {i : Nat} (hi : 6 * i + 6 ≤ L) (W0 : Two h hc hr o fC fR) (k13 : is13 hc) (k24 : is24 hr) {r : Nat ⊕ Int32} (ht : ∀ th, r = .inl th → th = 1) (hC : ab_fin (hb_Gz (some z4, some z5, some z6) (some (0, L, fun i => .int (xs i)))) hb_GT 2044 (mX12_told, []) 0 [(0, .ref 0), (1, .int (xs (6 * i + 1)))] [] hc (AnC "java/lang/IllegalArgumentException" "java/lang/IllegalArgumentException" PC r)) (hR : ab_fin (hb_Gz (some z4, some z5, some z6) (some (0, L, fun i => .int (xs i)))) hb_GT 2045 (mX23_told, []) 0 [(0, .ref 0), (1, .int (xs (6 * i + 1)))] [] hr (AnR PR r)) (go : ∀ h' hc' hr' o' fC' fR', Two h' hc' hr' o' fC' fR' → PC hc' → PR hr' → ab_fin (hb_Gz (some z4, some z5, some z6) (some (0, L, fun i => .int (xs i)))) hb_GT 2046 (mL_law, []) 1090 [(4, .int (Int32.ofNat (6 * i))), (3, .ref 3467), (2, .ref 102), (1, .ref 0), (0, .retAddr 9)] [] h' Q) : ab_fin (hb_Gz (some z4, some z5, some z6) (some (0, L, fun i => .int (xs i)))) hb_GT 2046 (mL_law, []) 879 [(4, .int (Int32.ofNat (6 * i))), (3, .ref 3467), (2, .ref 102), (1, .ref 0), (0, .retAddr 9)] [] h Q := by
  obtain ⟨fs13, k13⟩ := k13
  obtain ⟨fs24, e24⟩ := k24
  have e13 := W0.c0 k13
  rcases r with th | v
  · obtain rfl := ht th rfl
    refine ab_fin.s2 (i := .aload_n 1) (k := 1) (pc' := 880) (lv' := [(4, .int (Int32.ofNat (6 * i))), (3, .ref 3467), (2, .ref 102), (1, .ref 0), (0, .retAddr 9)]) (st' := [.ref 0]) (by decide +kernel) rfl rfl ?_
    refine ab_fin.s2 (i := .aload_n 0) (k := 1) (pc' := 881) (lv' := [(4, .int (Int32.ofNat (6 * i))), (3, .ref 3467), (2, .ref 102), (1, .ref 0), (0, .retAddr 9)]) (st' := [.retAddr 9, .ref 0]) (by decide +kernel) rfl rfl ?_
    refine ab_fin.s2 (i := .iload 4) (k := 2) (pc' := 883) (lv' := [(4, .int (Int32.ofNat (6 * i))), (3, .ref 3467), (2, .ref 102), (1, .ref 0), (0, .retAddr 9)]) (st' := [.int (Int32.ofNat (6 * i)), .retAddr 9, .ref 0]) (by decide +kernel) rfl rfl ?_
    refine ab_fin.s1i (i := .iconst 1) (k := 1) (pc' := 884) (n := 1) (by decide +kernel) rfl (by decide +kernel) rfl ?_
    refine ab_fin.s1 (i := .iadd) (k := 1) (pc' := 885) (st' := [.int (Int32.ofNat (6 * i) + 1), .retAddr 9, .ref 0]) (by decide +kernel) rfl rfl ?_
    refine ab_fin.s8 (i := .iaload) (k := 1) (pc' := 886) (st' := [.int (xs (6 * i + 1)), .ref 0]) (by decide +kernel) (ab_x0 rfl (ix_v (i := i) (j := 1) (L := L) (y := 1) (by omega) hL rfl).1 (congrArg (fun k => Value.int (xs k)) (ix_v (i := i) (j := 1) (L := L) (y := 1) (by omega) hL rfl).2)) rfl rfl rfl ?_
    refine ab_fin.s2 (i := .aload_n 3) (k := 1) (pc' := 887) (lv' := [(4, .int (Int32.ofNat (6 * i))), (3, .ref 3467), (2, .ref 102), (1, .ref 0), (0, .retAddr 9)]) (st' := [.ref 3467, .int (xs (6 * i + 1)), .ref 0]) (by decide +kernel) rfl rfl ?_
    refine ab_fin.call (i := .invokestatic 121) (k := 3) (y := 13522) (As := [.ref 0, .int (xs (6 * i + 1)), .ref 3467]) (rest := []) (M' := (mL_told, [(0, 9, 12, 19)])) (by decide +kernel) (ab_cs rfl rfl ⟨(Nat.le_of_ble_eq_true rfl), (Nat.le_of_ble_eq_true rfl)⟩ rfl) rfl (Nat.le_of_ble_eq_true rfl) ?_
    show ab_fin _ _ _ _ 0 [(0, .ref 0), (1, .int (xs (6 * i + 1))), (2, .ref 3467)] [] _ _
    refine ab_fin.s2 (i := .aload_n 2) (k := 1) (pc' := 1) (lv' := [(0, .ref 0), (1, .int (xs (6 * i + 1))), (2, .ref 3467)]) (st' := [.ref 3467]) (by decide +kernel) rfl rfl ?_
    refine ab_fin.s1i (i := .iconst 0) (k := 1) (pc' := 2) (n := 0) (by decide +kernel) rfl (by decide +kernel) rfl ?_
    refine ab_fin.s2 (i := .aload_n 0) (k := 1) (pc' := 3) (lv' := [(0, .ref 0), (1, .int (xs (6 * i + 1))), (2, .ref 3467)]) (st' := [.ref 0, .int 0, .ref 3467]) (by decide +kernel) rfl rfl ?_
    refine ab_fin.s2 (i := .iload_n 1) (k := 1) (pc' := 4) (lv' := [(0, .ref 0), (1, .int (xs (6 * i + 1))), (2, .ref 3467)]) (st' := [.int (xs (6 * i + 1)), .ref 0, .int 0, .ref 3467]) (by decide +kernel) rfl rfl ?_
    refine ab_fin.call (i := .invokevirtual 52) (k := 3) (y := 3087) (As := [.ref 0, .int (xs (6 * i + 1))]) (rest := [.int 0, .ref 3467]) (M' := (mX12_told, [])) (by decide +kernel) (ab_cv rfl rfl e13 ⟨(Nat.le_of_ble_eq_true rfl), (Nat.le_of_ble_eq_true rfl)⟩ rfl) rfl (Nat.le_of_ble_eq_true rfl) ?_
    show ab_fin _ _ _ _ 0 [(0, .ref 0), (1, .int (xs (6 * i + 1)))] [] _ _
    refine W0.C hG (fun a => [(0, .ref a), (1, .int (xs (6 * i + 1)))]) (fun g => rfl) hC (fun r0 hc1 fC1 h1 q1 W1 => ?_)
    obtain ⟨x9, e9⟩ := q1.2
    subst e9
    show ab_bk _ _ _ _ _ _ _ _ _ (.inr ("java/lang/IllegalArgumentException", fC1 x9)) _
    refine ab_bk.catch (hp := 12) (by decide +kernel) rfl ?_
    refine ab_fin.s2 (i := .astore_n 3) (k := 1) (pc' := 13) (lv' := [(3, .ref (fC1 x9)), (0, .ref 0), (1, .int (xs (6 * i + 1))), (2, .ref 3467)]) (st' := []) (by decide +kernel) rfl rfl ?_
    refine ab_fin.s1i (i := .iconst 1) (k := 1) (pc' := 14) (n := 1) (by decide +kernel) rfl (by decide +kernel) rfl ?_
    refine ab_fin.ret (i := .ireturn) (k := 1) (some (.int 1)) (by decide +kernel) rfl ?_
    refine ab_bk.back (pc' := 890) (st' := [.int 1]) rfl rfl ?_
    refine ab_fin.s2 (i := .istore 5) (k := 2) (pc' := 892) (lv' := [(5, .int 1), (4, .int (Int32.ofNat (6 * i))), (3, .ref 3467), (2, .ref 102), (1, .ref 0), (0, .retAddr 9)]) (st' := []) (by decide +kernel) rfl rfl ?_
    refine ab_fin.s2 (i := .aload_n 2) (k := 1) (pc' := 893) (lv' := [(5, .int 1), (4, .int (Int32.ofNat (6 * i))), (3, .ref 3467), (2, .ref 102), (1, .ref 0), (0, .retAddr 9)]) (st' := [.ref 102]) (by decide +kernel) rfl rfl ?_
    refine ab_fin.s2 (i := .aload_n 0) (k := 1) (pc' := 894) (lv' := [(5, .int 1), (4, .int (Int32.ofNat (6 * i))), (3, .ref 3467), (2, .ref 102), (1, .ref 0), (0, .retAddr 9)]) (st' := [.retAddr 9, .ref 102]) (by decide +kernel) rfl rfl ?_
    refine ab_fin.s2 (i := .iload 4) (k := 2) (pc' := 896) (lv' := [(5, .int 1), (4, .int (Int32.ofNat (6 * i))), (3, .ref 3467), (2, .ref 102), (1, .ref 0), (0, .retAddr 9)]) (st' := [.int (Int32.ofNat (6 * i)), .retAddr 9, .ref 102]) (by decide +kernel) rfl rfl ?_
    refine ab_fin.s1i (i := .iconst 1) (k := 1) (pc' := 897) (n := 1) (by decide +kernel) rfl (by decide +kernel) rfl ?_
    refine ab_fin.s1 (i := .iadd) (k := 1) (pc' := 898) (st' := [.int (Int32.ofNat (6 * i) + 1), .retAddr 9, .ref 102]) (by decide +kernel) rfl rfl ?_
    refine ab_fin.s8 (i := .iaload) (k := 1) (pc' := 899) (st' := [.int (xs (6 * i + 1)), .ref 102]) (by decide +kernel) (ab_x0 rfl (ix_v (i := i) (j := 1) (L := L) (y := 1) (by omega) hL rfl).1 (congrArg (fun k => Value.int (xs k)) (ix_v (i := i) (j := 1) (L := L) (y := 1) (by omega) hL rfl).2)) rfl rfl rfl ?_
    refine ab_fin.call (i := .invokevirtual 123) (k := 3) (y := 6007) (As := [.ref 102, .int (xs (6 * i + 1))]) (rest := []) (M' := (mX23_told, [])) (by decide +kernel) (ab_cv rfl rfl (W1.r0 e24) ⟨(Nat.le_of_ble_eq_true rfl), (Nat.le_of_ble_eq_true rfl)⟩ rfl) rfl (Nat.le_of_ble_eq_true rfl) ?_
    show ab_fin _ _ _ _ 0 [(0, .ref 102), (1, .int (xs (6 * i + 1)))] [] _ _
    refine W1.R hG (fun a => [(0, .ref a), (1, .int (xs (6 * i + 1)))]) (fun g => rfl) hR (fun r0 hr1 fR1 h2 q2 W2 => ?_)
    obtain rfl : r0 = .inl (some (.int 0)) := q2.2.1
    show ab_bk _ _ _ _ _ _ _ _ _ (.inl (some (.int 0))) _
    refine ab_bk.back (pc' := 902) (st' := [.int 0]) rfl rfl ?_
    obtain ⟨fs, t1, t2⟩ := thrR.at W2 q2.2.2
    refine ab_fin.s2 (i := .istore 6) (k := 2) (pc' := 904) (lv' := [(6, .int 0), (5, .int 1), (4, .int (Int32.ofNat (6 * i))), (3, .ref 3467), (2, .ref 102), (1, .ref 0), (0, .retAddr 9)]) (st' := []) (by decide +kernel) rfl rfl ?_
    refine ab_fin.s2 (i := .aload_n 2) (k := 1) (pc' := 905) (lv' := [(6, .int 0), (5, .int 1), (4, .int (Int32.ofNat (6 * i))), (3, .ref 3467), (2, .ref 102), (1, .ref 0), (0, .retAddr 9)]) (st' := [.ref 102]) (by decide +kernel) rfl rfl ?_
    refine ab_fin.call (i := .invokevirtual 75) (k := 3) (y := 5992) (As := [.ref 102]) (rest := []) (M' := (mX23_thrown, [])) (by decide +kernel) (ab_cv rfl rfl t1 ⟨(Nat.le_of_ble_eq_true rfl), (Nat.le_of_ble_eq_true rfl)⟩ rfl) rfl (Nat.le_of_ble_eq_true rfl) ?_
    show ab_fin _ _ _ _ 0 [(0, .ref 102)] [] _ _
    refine ab_fin.s2 (i := .aload_n 0) (k := 1) (pc' := 1) (lv' := [(0, .ref 102)]) (st' := [.ref 102]) (by decide +kernel) rfl rfl ?_
    refine ab_fin.getf (ix := 1000) (k := 110) (v := .int 1) (pc' := 4) (by decide +kernel) rfl t1 t2 rfl ?_
    refine ab_fin.ret (i := .ireturn) (k := 1) (some (.int 1)) (by decide +kernel) rfl ?_
    refine ab_bk.back (pc' := 908) (st' := [.int 1]) rfl rfl ?_
    refine ab_fin.s2 (i := .iload 5) (k := 2) (pc' := 910) (lv' := [(6, .int 0), (5, .int 1), (4, .int (Int32.ofNat (6 * i))), (3, .ref 3467), (2, .ref 102), (1, .ref 0), (0, .retAddr 9)]) (st' := [.int 1, .int 1]) (by decide +kernel) rfl rfl ?_
    refine ab_fin.brT (c := (1 : Int32) = (1 : Int32)) (i := .if_icmp .eq 5) (off := 5) (t := 915) (r := []) (by decide +kernel) rfl (by decide +kernel) rfl ?_
    refine ab_fin.s2 (i := .iload 5) (k := 2) (pc' := 917) (lv' := [(6, .int 0), (5, .int 1), (4, .int (Int32.ofNat (6 * i))), (3, .ref 3467), (2, .ref 102), (1, .ref 0), (0, .retAddr 9)]) (st' := [.int 1]) (by decide +kernel) rfl rfl ?_
    refine ab_fin.brT (c := ¬ (1 : Int32) = 0) (i := .ifCond .ne 15) (off := 15) (t := 932) (r := []) (by decide +kernel) rfl (by decide +kernel) (by decide +kernel) ?_
    refine ab_fin.s3 (i := .goto 158) (k := 3) (t := 1090) (st' := []) (by decide +kernel) (ab_goto (by decide +kernel)) ?_
    refine ab_fin.lv (lv' := [(4, .int (Int32.ofNat (6 * i))), (3, .ref 3467), (2, .ref 102), (1, .ref 0), (0, .retAddr 9)]) ⟨fun q hq => ?_, (by show ([6, 5, 4, 3, 2, 1, 0] : List Nat).Nodup; decide)⟩ (go _ _ _ _ _ _ W2 q1.1 q2.1)
    simp only [List.mem_cons, List.not_mem_nil, or_false] at hq ⊢
    rcases hq with rfl | rfl | rfl | rfl | rfl <;> simp
  · refine ab_fin.s2 (i := .aload_n 1) (k := 1) (pc' := 880) (lv' := [(4, .int (Int32.ofNat (6 * i))), (3, .ref 3467), (2, .ref 102), (1, .ref 0), (0, .retAddr 9)]) (st' := [.ref 0]) (by decide +kernel) rfl rfl ?_
    refine ab_fin.s2 (i := .aload_n 0) (k := 1) (pc' := 881) (lv' := [(4, .int (Int32.ofNat (6 * i))), (3, .ref 3467), (2, .ref 102), (1, .ref 0), (0, .retAddr 9)]) (st' := [.retAddr 9, .ref 0]) (by decide +kernel) rfl rfl ?_
    refine ab_fin.s2 (i := .iload 4) (k := 2) (pc' := 883) (lv' := [(4, .int (Int32.ofNat (6 * i))), (3, .ref 3467), (2, .ref 102), (1, .ref 0), (0, .retAddr 9)]) (st' := [.int (Int32.ofNat (6 * i)), .retAddr 9, .ref 0]) (by decide +kernel) rfl rfl ?_
    refine ab_fin.s1i (i := .iconst 1) (k := 1) (pc' := 884) (n := 1) (by decide +kernel) rfl (by decide +kernel) rfl ?_
    refine ab_fin.s1 (i := .iadd) (k := 1) (pc' := 885) (st' := [.int (Int32.ofNat (6 * i) + 1), .retAddr 9, .ref 0]) (by decide +kernel) rfl rfl ?_
    refine ab_fin.s8 (i := .iaload) (k := 1) (pc' := 886) (st' := [.int (xs (6 * i + 1)), .ref 0]) (by decide +kernel) (ab_x0 rfl (ix_v (i := i) (j := 1) (L := L) (y := 1) (by omega) hL rfl).1 (congrArg (fun k => Value.int (xs k)) (ix_v (i := i) (j := 1) (L := L) (y := 1) (by omega) hL rfl).2)) rfl rfl rfl ?_
    refine ab_fin.s2 (i := .aload_n 3) (k := 1) (pc' := 887) (lv' := [(4, .int (Int32.ofNat (6 * i))), (3, .ref 3467), (2, .ref 102), (1, .ref 0), (0, .retAddr 9)]) (st' := [.ref 3467, .int (xs (6 * i + 1)), .ref 0]) (by decide +kernel) rfl rfl ?_
    refine ab_fin.call (i := .invokestatic 121) (k := 3) (y := 13522) (As := [.ref 0, .int (xs (6 * i + 1)), .ref 3467]) (rest := []) (M' := (mL_told, [(0, 9, 12, 19)])) (by decide +kernel) (ab_cs rfl rfl ⟨(Nat.le_of_ble_eq_true rfl), (Nat.le_of_ble_eq_true rfl)⟩ rfl) rfl (Nat.le_of_ble_eq_true rfl) ?_
    show ab_fin _ _ _ _ 0 [(0, .ref 0), (1, .int (xs (6 * i + 1))), (2, .ref 3467)] [] _ _
    refine ab_fin.s2 (i := .aload_n 2) (k := 1) (pc' := 1) (lv' := [(0, .ref 0), (1, .int (xs (6 * i + 1))), (2, .ref 3467)]) (st' := [.ref 3467]) (by decide +kernel) rfl rfl ?_
    refine ab_fin.s1i (i := .iconst 0) (k := 1) (pc' := 2) (n := 0) (by decide +kernel) rfl (by decide +kernel) rfl ?_
    refine ab_fin.s2 (i := .aload_n 0) (k := 1) (pc' := 3) (lv' := [(0, .ref 0), (1, .int (xs (6 * i + 1))), (2, .ref 3467)]) (st' := [.ref 0, .int 0, .ref 3467]) (by decide +kernel) rfl rfl ?_
    refine ab_fin.s2 (i := .iload_n 1) (k := 1) (pc' := 4) (lv' := [(0, .ref 0), (1, .int (xs (6 * i + 1))), (2, .ref 3467)]) (st' := [.int (xs (6 * i + 1)), .ref 0, .int 0, .ref 3467]) (by decide +kernel) rfl rfl ?_
    refine ab_fin.call (i := .invokevirtual 52) (k := 3) (y := 3087) (As := [.ref 0, .int (xs (6 * i + 1))]) (rest := [.int 0, .ref 3467]) (M' := (mX12_told, [])) (by decide +kernel) (ab_cv rfl rfl e13 ⟨(Nat.le_of_ble_eq_true rfl), (Nat.le_of_ble_eq_true rfl)⟩ rfl) rfl (Nat.le_of_ble_eq_true rfl) ?_
    show ab_fin _ _ _ _ 0 [(0, .ref 0), (1, .int (xs (6 * i + 1)))] [] _ _
    refine W0.C hG (fun a => [(0, .ref a), (1, .int (xs (6 * i + 1)))]) (fun g => rfl) hC (fun r0 hc1 fC1 h1 q1 W1 => ?_)
    obtain rfl : r0 = .inl (some (.int v)) := q1.2
    show ab_bk _ _ _ _ _ _ _ _ _ (.inl (some (.int v))) _
    refine ab_bk.back (pc' := 7) (st' := [.int v, .int 0, .ref 3467]) rfl rfl ?_
    refine ab_fin.s1 (i := .i2l) (k := 1) (pc' := 8) (st' := [.long (v.toInt64), .int 0, .ref 3467]) (by decide +kernel) rfl rfl ?_
    refine ab_fin.last (l := [o]) (h1 := h1.set 3467 (.inr (.inl (1, .inr (.inl [v.toInt64]))))) (pc' := 9) (by decide +kernel) W1.2.2.2.2.1 (hi0 _) rfl rfl ?_
    have W1x := W1.out (v.toInt64)
    refine ab_fin.s3 (i := .goto 6) (k := 3) (t := 15) (st' := []) (by decide +kernel) (ab_goto (by decide +kernel)) ?_
    refine ab_fin.s1i (i := .iconst 0) (k := 1) (pc' := 16) (n := 0) (by decide +kernel) rfl (by decide +kernel) rfl ?_
    refine ab_fin.ret (i := .ireturn) (k := 1) (some (.int 0)) (by decide +kernel) rfl ?_
    refine ab_bk.back (pc' := 890) (st' := [.int 0]) rfl rfl ?_
    refine ab_fin.s2 (i := .istore 5) (k := 2) (pc' := 892) (lv' := [(5, .int 0), (4, .int (Int32.ofNat (6 * i))), (3, .ref 3467), (2, .ref 102), (1, .ref 0), (0, .retAddr 9)]) (st' := []) (by decide +kernel) rfl rfl ?_
    refine ab_fin.s2 (i := .aload_n 2) (k := 1) (pc' := 893) (lv' := [(5, .int 0), (4, .int (Int32.ofNat (6 * i))), (3, .ref 3467), (2, .ref 102), (1, .ref 0), (0, .retAddr 9)]) (st' := [.ref 102]) (by decide +kernel) rfl rfl ?_
    refine ab_fin.s2 (i := .aload_n 0) (k := 1) (pc' := 894) (lv' := [(5, .int 0), (4, .int (Int32.ofNat (6 * i))), (3, .ref 3467), (2, .ref 102), (1, .ref 0), (0, .retAddr 9)]) (st' := [.retAddr 9, .ref 102]) (by decide +kernel) rfl rfl ?_
    refine ab_fin.s2 (i := .iload 4) (k := 2) (pc' := 896) (lv' := [(5, .int 0), (4, .int (Int32.ofNat (6 * i))), (3, .ref 3467), (2, .ref 102), (1, .ref 0), (0, .retAddr 9)]) (st' := [.int (Int32.ofNat (6 * i)), .retAddr 9, .ref 102]) (by decide +kernel) rfl rfl ?_
    refine ab_fin.s1i (i := .iconst 1) (k := 1) (pc' := 897) (n := 1) (by decide +kernel) rfl (by decide +kernel) rfl ?_
    refine ab_fin.s1 (i := .iadd) (k := 1) (pc' := 898) (st' := [.int (Int32.ofNat (6 * i) + 1), .retAddr 9, .ref 102]) (by decide +kernel) rfl rfl ?_
    refine ab_fin.s8 (i := .iaload) (k := 1) (pc' := 899) (st' := [.int (xs (6 * i + 1)), .ref 102]) (by decide +kernel) (ab_x0 rfl (ix_v (i := i) (j := 1) (L := L) (y := 1) (by omega) hL rfl).1 (congrArg (fun k => Value.int (xs k)) (ix_v (i := i) (j := 1) (L := L) (y := 1) (by omega) hL rfl).2)) rfl rfl rfl ?_
    refine ab_fin.call (i := .invokevirtual 123) (k := 3) (y := 6007) (As := [.ref 102, .int (xs (6 * i + 1))]) (rest := []) (M' := (mX23_told, [])) (by decide +kernel) (ab_cv rfl rfl (W1x.r0 e24) ⟨(Nat.le_of_ble_eq_true rfl), (Nat.le_of_ble_eq_true rfl)⟩ rfl) rfl (Nat.le_of_ble_eq_true rfl) ?_
    show ab_fin _ _ _ _ 0 [(0, .ref 102), (1, .int (xs (6 * i + 1)))] [] _ _
    refine W1x.R hG (fun a => [(0, .ref a), (1, .int (xs (6 * i + 1)))]) (fun g => rfl) hR (fun r0 hr1 fR1 h2 q2 W2 => ?_)
    obtain rfl : r0 = .inl (some (.int v)) := q2.2.1
    show ab_bk _ _ _ _ _ _ _ _ _ (.inl (some (.int v))) _
    refine ab_bk.back (pc' := 902) (st' := [.int v]) rfl rfl ?_
    obtain ⟨fs, t1, t2⟩ := thrR.at W2 q2.2.2
    refine ab_fin.s2 (i := .istore 6) (k := 2) (pc' := 904) (lv' := [(6, .int v), (5, .int 0), (4, .int (Int32.ofNat (6 * i))), (3, .ref 3467), (2, .ref 102), (1, .ref 0), (0, .retAddr 9)]) (st' := []) (by decide +kernel) rfl rfl ?_
    refine ab_fin.s2 (i := .aload_n 2) (k := 1) (pc' := 905) (lv' := [(6, .int v), (5, .int 0), (4, .int (Int32.ofNat (6 * i))), (3, .ref 3467), (2, .ref 102), (1, .ref 0), (0, .retAddr 9)]) (st' := [.ref 102]) (by decide +kernel) rfl rfl ?_
    refine ab_fin.call (i := .invokevirtual 75) (k := 3) (y := 5992) (As := [.ref 102]) (rest := []) (M' := (mX23_thrown, [])) (by decide +kernel) (ab_cv rfl rfl t1 ⟨(Nat.le_of_ble_eq_true rfl), (Nat.le_of_ble_eq_true rfl)⟩ rfl) rfl (Nat.le_of_ble_eq_true rfl) ?_
    show ab_fin _ _ _ _ 0 [(0, .ref 102)] [] _ _
    refine ab_fin.s2 (i := .aload_n 0) (k := 1) (pc' := 1) (lv' := [(0, .ref 102)]) (st' := [.ref 102]) (by decide +kernel) rfl rfl ?_
    refine ab_fin.getf (ix := 1000) (k := 110) (v := .int 0) (pc' := 4) (by decide +kernel) rfl t1 t2 rfl ?_
    refine ab_fin.ret (i := .ireturn) (k := 1) (some (.int 0)) (by decide +kernel) rfl ?_
    refine ab_bk.back (pc' := 908) (st' := [.int 0]) rfl rfl ?_
    refine ab_fin.s2 (i := .iload 5) (k := 2) (pc' := 910) (lv' := [(6, .int v), (5, .int 0), (4, .int (Int32.ofNat (6 * i))), (3, .ref 3467), (2, .ref 102), (1, .ref 0), (0, .retAddr 9)]) (st' := [.int 0, .int 0]) (by decide +kernel) rfl rfl ?_
    refine ab_fin.brT (c := (0 : Int32) = (0 : Int32)) (i := .if_icmp .eq 5) (off := 5) (t := 915) (r := []) (by decide +kernel) rfl (by decide +kernel) rfl ?_
    refine ab_fin.s2 (i := .iload 5) (k := 2) (pc' := 917) (lv' := [(6, .int v), (5, .int 0), (4, .int (Int32.ofNat (6 * i))), (3, .ref 3467), (2, .ref 102), (1, .ref 0), (0, .retAddr 9)]) (st' := [.int 0]) (by decide +kernel) rfl rfl ?_
    refine ab_fin.brF (c := ¬ (0 : Int32) = 0) (i := .ifCond .ne 15) (off := 15) (t := 932) (pc' := 920) (r := []) (by decide +kernel) rfl (by decide +kernel) rfl (by decide +kernel) ?_
    refine ab_fin.s2 (i := .aload_n 3) (k := 1) (pc' := 921) (lv' := [(6, .int v), (5, .int 0), (4, .int (Int32.ofNat (6 * i))), (3, .ref 3467), (2, .ref 102), (1, .ref 0), (0, .retAddr 9)]) (st' := [.ref 3467]) (by decide +kernel) rfl rfl ?_
    refine ab_fin.s1i (i := .iconst 0) (k := 1) (pc' := 922) (n := 0) (by decide +kernel) rfl (by decide +kernel) rfl ?_
    refine ab_fin.lald (l := [v.toInt64]) (v := v.toInt64) (pc' := 923) (by decide +kernel) W2.2.2.2.2.1 (hi0 _) rfl rfl ?_
    refine ab_fin.s2 (i := .iload 6) (k := 2) (pc' := 925) (lv' := [(6, .int v), (5, .int 0), (4, .int (Int32.ofNat (6 * i))), (3, .ref 3467), (2, .ref 102), (1, .ref 0), (0, .retAddr 9)]) (st' := [.int v, .long (v.toInt64)]) (by decide +kernel) rfl rfl ?_
    refine ab_fin.s1 (i := .i2l) (k := 1) (pc' := 926) (st' := [.long (v.toInt64), .long (v.toInt64)]) (by decide +kernel) rfl rfl ?_
    refine ab_fin.s1i (i := .lcmp) (k := 1) (pc' := 927) (n := 0) (by decide +kernel) rfl (lg_c0 _) rfl ?_
    refine ab_fin.brT (c := (0 : Int32) = 0) (i := .ifCond .eq 5) (off := 5) (t := 932) (r := []) (by decide +kernel) rfl (by decide +kernel) (by decide +kernel) ?_
    refine ab_fin.s3 (i := .goto 158) (k := 3) (t := 1090) (st' := []) (by decide +kernel) (ab_goto (by decide +kernel)) ?_
    refine ab_fin.lv (lv' := [(4, .int (Int32.ofNat (6 * i))), (3, .ref 3467), (2, .ref 102), (1, .ref 0), (0, .retAddr 9)]) ⟨fun q hq => ?_, (by show ([6, 5, 4, 3, 2, 1, 0] : List Nat).Nodup; decide)⟩ (go _ _ _ _ _ _ W2 q1.1 q2.1)
    simp only [List.mem_cons, List.not_mem_nil, or_false] at hq ⊢
    rcases hq with rfl | rfl | rfl | rfl | rfl <;> simp
set_option maxRecDepth 100000 in
set_option maxHeartbeats 0 in
theorem lw_shown {z4 z5 z6 : Value} {xs : Nat → Int32} {L : Nat} {h hc hr : List ab_E} {o : Int64} {fC fR : Nat → Nat} {PC PR : List ab_E → Prop} {Q : ab_RX → List ab_E → Prop} (hL : L ≤ 3072) (hG : ab_pure (hb_Gz (some z4, some z5, some z6) (some (0, L, fun i => .int (xs i))))) {i : Nat} (hi : 6 * i + 6 ≤ L) (W0 : Two h hc hr o fC fR) (k13 : is13 hc) (k24 : is24 hr) {r : Nat ⊕ Int32} (ht : ∀ th, r = .inl th → th = 1) (hC : ab_fin (hb_Gz (some z4, some z5, some z6) (some (0, L, fun i => .int (xs i)))) hb_GT 2044 (mX12_shown, []) 0 [(0, .ref 0), (1, .int (xs (6 * i + 1)))] [] hc (AnC "java/lang/IndexOutOfBoundsException" "java/lang/IndexOutOfBoundsException" PC r)) (hR : ab_fin (hb_Gz (some z4, some z5, some z6) (some (0, L, fun i => .int (xs i)))) hb_GT 2045 (mX23_shown, []) 0 [(0, .ref 0), (1, .int (xs (6 * i + 1)))] [] hr (AnR PR r)) (go : ∀ h' hc' hr' o' fC' fR', Two h' hc' hr' o' fC' fR' → PC hc' → PR hr' → ab_fin (hb_Gz (some z4, some z5, some z6) (some (0, L, fun i => .int (xs i)))) hb_GT 2046 (mL_law, []) 1090 [(4, .int (Int32.ofNat (6 * i))), (3, .ref 3467), (2, .ref 102), (1, .ref 0), (0, .retAddr 9)] [] h' Q) : ab_fin (hb_Gz (some z4, some z5, some z6) (some (0, L, fun i => .int (xs i)))) hb_GT 2046 (mL_law, []) 935 [(4, .int (Int32.ofNat (6 * i))), (3, .ref 3467), (2, .ref 102), (1, .ref 0), (0, .retAddr 9)] [] h Q := by
  obtain ⟨fs13, k13⟩ := k13
  obtain ⟨fs24, e24⟩ := k24
  have e13 := W0.c0 k13
  rcases r with th | v
  · obtain rfl := ht th rfl
    refine ab_fin.s2 (i := .aload_n 1) (k := 1) (pc' := 936) (lv' := [(4, .int (Int32.ofNat (6 * i))), (3, .ref 3467), (2, .ref 102), (1, .ref 0), (0, .retAddr 9)]) (st' := [.ref 0]) (by decide +kernel) rfl rfl ?_
    refine ab_fin.s2 (i := .aload_n 0) (k := 1) (pc' := 937) (lv' := [(4, .int (Int32.ofNat (6 * i))), (3, .ref 3467), (2, .ref 102), (1, .ref 0), (0, .retAddr 9)]) (st' := [.retAddr 9, .ref 0]) (by decide +kernel) rfl rfl ?_
    refine ab_fin.s2 (i := .iload 4) (k := 2) (pc' := 939) (lv' := [(4, .int (Int32.ofNat (6 * i))), (3, .ref 3467), (2, .ref 102), (1, .ref 0), (0, .retAddr 9)]) (st' := [.int (Int32.ofNat (6 * i)), .retAddr 9, .ref 0]) (by decide +kernel) rfl rfl ?_
    refine ab_fin.s1i (i := .iconst 1) (k := 1) (pc' := 940) (n := 1) (by decide +kernel) rfl (by decide +kernel) rfl ?_
    refine ab_fin.s1 (i := .iadd) (k := 1) (pc' := 941) (st' := [.int (Int32.ofNat (6 * i) + 1), .retAddr 9, .ref 0]) (by decide +kernel) rfl rfl ?_
    refine ab_fin.s8 (i := .iaload) (k := 1) (pc' := 942) (st' := [.int (xs (6 * i + 1)), .ref 0]) (by decide +kernel) (ab_x0 rfl (ix_v (i := i) (j := 1) (L := L) (y := 1) (by omega) hL rfl).1 (congrArg (fun k => Value.int (xs k)) (ix_v (i := i) (j := 1) (L := L) (y := 1) (by omega) hL rfl).2)) rfl rfl rfl ?_
    refine ab_fin.s2 (i := .aload_n 3) (k := 1) (pc' := 943) (lv' := [(4, .int (Int32.ofNat (6 * i))), (3, .ref 3467), (2, .ref 102), (1, .ref 0), (0, .retAddr 9)]) (st' := [.ref 3467, .int (xs (6 * i + 1)), .ref 0]) (by decide +kernel) rfl rfl ?_
    refine ab_fin.call (i := .invokestatic 124) (k := 3) (y := 13523) (As := [.ref 0, .int (xs (6 * i + 1)), .ref 3467]) (rest := []) (M' := (mL_shown, [(0, 9, 12, 13)])) (by decide +kernel) (ab_cs rfl rfl ⟨(Nat.le_of_ble_eq_true rfl), (Nat.le_of_ble_eq_true rfl)⟩ rfl) rfl (Nat.le_of_ble_eq_true rfl) ?_
    show ab_fin _ _ _ _ 0 [(0, .ref 0), (1, .int (xs (6 * i + 1))), (2, .ref 3467)] [] _ _
    refine ab_fin.s2 (i := .aload_n 2) (k := 1) (pc' := 1) (lv' := [(0, .ref 0), (1, .int (xs (6 * i + 1))), (2, .ref 3467)]) (st' := [.ref 3467]) (by decide +kernel) rfl rfl ?_
    refine ab_fin.s1i (i := .iconst 0) (k := 1) (pc' := 2) (n := 0) (by decide +kernel) rfl (by decide +kernel) rfl ?_
    refine ab_fin.s2 (i := .aload_n 0) (k := 1) (pc' := 3) (lv' := [(0, .ref 0), (1, .int (xs (6 * i + 1))), (2, .ref 3467)]) (st' := [.ref 0, .int 0, .ref 3467]) (by decide +kernel) rfl rfl ?_
    refine ab_fin.s2 (i := .iload_n 1) (k := 1) (pc' := 4) (lv' := [(0, .ref 0), (1, .int (xs (6 * i + 1))), (2, .ref 3467)]) (st' := [.int (xs (6 * i + 1)), .ref 0, .int 0, .ref 3467]) (by decide +kernel) rfl rfl ?_
    refine ab_fin.call (i := .invokevirtual 55) (k := 3) (y := 3088) (As := [.ref 0, .int (xs (6 * i + 1))]) (rest := [.int 0, .ref 3467]) (M' := (mX12_shown, [])) (by decide +kernel) (ab_cv rfl rfl e13 ⟨(Nat.le_of_ble_eq_true rfl), (Nat.le_of_ble_eq_true rfl)⟩ rfl) rfl (Nat.le_of_ble_eq_true rfl) ?_
    show ab_fin _ _ _ _ 0 [(0, .ref 0), (1, .int (xs (6 * i + 1)))] [] _ _
    refine W0.C hG (fun a => [(0, .ref a), (1, .int (xs (6 * i + 1)))]) (fun g => rfl) hC (fun r0 hc1 fC1 h1 q1 W1 => ?_)
    obtain ⟨x9, e9⟩ := q1.2
    subst e9
    show ab_bk _ _ _ _ _ _ _ _ _ (.inr ("java/lang/IndexOutOfBoundsException", fC1 x9)) _
    refine ab_bk.catch (hp := 12) (by decide +kernel) rfl ?_
    refine ab_fin.s2 (i := .astore_n 3) (k := 1) (pc' := 13) (lv' := [(3, .ref (fC1 x9)), (0, .ref 0), (1, .int (xs (6 * i + 1))), (2, .ref 3467)]) (st' := []) (by decide +kernel) rfl rfl ?_
    refine ab_fin.s1i (i := .iconst 1) (k := 1) (pc' := 14) (n := 1) (by decide +kernel) rfl (by decide +kernel) rfl ?_
    refine ab_fin.ret (i := .ireturn) (k := 1) (some (.int 1)) (by decide +kernel) rfl ?_
    refine ab_bk.back (pc' := 946) (st' := [.int 1]) rfl rfl ?_
    refine ab_fin.s2 (i := .istore 5) (k := 2) (pc' := 948) (lv' := [(5, .int 1), (4, .int (Int32.ofNat (6 * i))), (3, .ref 3467), (2, .ref 102), (1, .ref 0), (0, .retAddr 9)]) (st' := []) (by decide +kernel) rfl rfl ?_
    refine ab_fin.s2 (i := .aload_n 2) (k := 1) (pc' := 949) (lv' := [(5, .int 1), (4, .int (Int32.ofNat (6 * i))), (3, .ref 3467), (2, .ref 102), (1, .ref 0), (0, .retAddr 9)]) (st' := [.ref 102]) (by decide +kernel) rfl rfl ?_
    refine ab_fin.s2 (i := .aload_n 0) (k := 1) (pc' := 950) (lv' := [(5, .int 1), (4, .int (Int32.ofNat (6 * i))), (3, .ref 3467), (2, .ref 102), (1, .ref 0), (0, .retAddr 9)]) (st' := [.retAddr 9, .ref 102]) (by decide +kernel) rfl rfl ?_
    refine ab_fin.s2 (i := .iload 4) (k := 2) (pc' := 952) (lv' := [(5, .int 1), (4, .int (Int32.ofNat (6 * i))), (3, .ref 3467), (2, .ref 102), (1, .ref 0), (0, .retAddr 9)]) (st' := [.int (Int32.ofNat (6 * i)), .retAddr 9, .ref 102]) (by decide +kernel) rfl rfl ?_
    refine ab_fin.s1i (i := .iconst 1) (k := 1) (pc' := 953) (n := 1) (by decide +kernel) rfl (by decide +kernel) rfl ?_
    refine ab_fin.s1 (i := .iadd) (k := 1) (pc' := 954) (st' := [.int (Int32.ofNat (6 * i) + 1), .retAddr 9, .ref 102]) (by decide +kernel) rfl rfl ?_
    refine ab_fin.s8 (i := .iaload) (k := 1) (pc' := 955) (st' := [.int (xs (6 * i + 1)), .ref 102]) (by decide +kernel) (ab_x0 rfl (ix_v (i := i) (j := 1) (L := L) (y := 1) (by omega) hL rfl).1 (congrArg (fun k => Value.int (xs k)) (ix_v (i := i) (j := 1) (L := L) (y := 1) (by omega) hL rfl).2)) rfl rfl rfl ?_
    refine ab_fin.call (i := .invokevirtual 126) (k := 3) (y := 6008) (As := [.ref 102, .int (xs (6 * i + 1))]) (rest := []) (M' := (mX23_shown, [])) (by decide +kernel) (ab_cv rfl rfl (W1.r0 e24) ⟨(Nat.le_of_ble_eq_true rfl), (Nat.le_of_ble_eq_true rfl)⟩ rfl) rfl (Nat.le_of_ble_eq_true rfl) ?_
    show ab_fin _ _ _ _ 0 [(0, .ref 102), (1, .int (xs (6 * i + 1)))] [] _ _
    refine W1.R hG (fun a => [(0, .ref a), (1, .int (xs (6 * i + 1)))]) (fun g => rfl) hR (fun r0 hr1 fR1 h2 q2 W2 => ?_)
    obtain rfl : r0 = .inl (some (.int 0)) := q2.2.1
    show ab_bk _ _ _ _ _ _ _ _ _ (.inl (some (.int 0))) _
    refine ab_bk.back (pc' := 958) (st' := [.int 0]) rfl rfl ?_
    obtain ⟨fs, t1, t2⟩ := thrR.at W2 q2.2.2
    refine ab_fin.s2 (i := .istore 6) (k := 2) (pc' := 960) (lv' := [(6, .int 0), (5, .int 1), (4, .int (Int32.ofNat (6 * i))), (3, .ref 3467), (2, .ref 102), (1, .ref 0), (0, .retAddr 9)]) (st' := []) (by decide +kernel) rfl rfl ?_
    refine ab_fin.s2 (i := .aload_n 2) (k := 1) (pc' := 961) (lv' := [(6, .int 0), (5, .int 1), (4, .int (Int32.ofNat (6 * i))), (3, .ref 3467), (2, .ref 102), (1, .ref 0), (0, .retAddr 9)]) (st' := [.ref 102]) (by decide +kernel) rfl rfl ?_
    refine ab_fin.call (i := .invokevirtual 75) (k := 3) (y := 5992) (As := [.ref 102]) (rest := []) (M' := (mX23_thrown, [])) (by decide +kernel) (ab_cv rfl rfl t1 ⟨(Nat.le_of_ble_eq_true rfl), (Nat.le_of_ble_eq_true rfl)⟩ rfl) rfl (Nat.le_of_ble_eq_true rfl) ?_
    show ab_fin _ _ _ _ 0 [(0, .ref 102)] [] _ _
    refine ab_fin.s2 (i := .aload_n 0) (k := 1) (pc' := 1) (lv' := [(0, .ref 102)]) (st' := [.ref 102]) (by decide +kernel) rfl rfl ?_
    refine ab_fin.getf (ix := 1000) (k := 110) (v := .int 1) (pc' := 4) (by decide +kernel) rfl t1 t2 rfl ?_
    refine ab_fin.ret (i := .ireturn) (k := 1) (some (.int 1)) (by decide +kernel) rfl ?_
    refine ab_bk.back (pc' := 964) (st' := [.int 1]) rfl rfl ?_
    refine ab_fin.s2 (i := .iload 5) (k := 2) (pc' := 966) (lv' := [(6, .int 0), (5, .int 1), (4, .int (Int32.ofNat (6 * i))), (3, .ref 3467), (2, .ref 102), (1, .ref 0), (0, .retAddr 9)]) (st' := [.int 1, .int 1]) (by decide +kernel) rfl rfl ?_
    refine ab_fin.brT (c := (1 : Int32) = (1 : Int32)) (i := .if_icmp .eq 5) (off := 5) (t := 971) (r := []) (by decide +kernel) rfl (by decide +kernel) rfl ?_
    refine ab_fin.s2 (i := .iload 5) (k := 2) (pc' := 973) (lv' := [(6, .int 0), (5, .int 1), (4, .int (Int32.ofNat (6 * i))), (3, .ref 3467), (2, .ref 102), (1, .ref 0), (0, .retAddr 9)]) (st' := [.int 1]) (by decide +kernel) rfl rfl ?_
    refine ab_fin.brT (c := ¬ (1 : Int32) = 0) (i := .ifCond .ne 15) (off := 15) (t := 988) (r := []) (by decide +kernel) rfl (by decide +kernel) (by decide +kernel) ?_
    refine ab_fin.s3 (i := .goto 102) (k := 3) (t := 1090) (st' := []) (by decide +kernel) (ab_goto (by decide +kernel)) ?_
    refine ab_fin.lv (lv' := [(4, .int (Int32.ofNat (6 * i))), (3, .ref 3467), (2, .ref 102), (1, .ref 0), (0, .retAddr 9)]) ⟨fun q hq => ?_, (by show ([6, 5, 4, 3, 2, 1, 0] : List Nat).Nodup; decide)⟩ (go _ _ _ _ _ _ W2 q1.1 q2.1)
    simp only [List.mem_cons, List.not_mem_nil, or_false] at hq ⊢
    rcases hq with rfl | rfl | rfl | rfl | rfl <;> simp
  · refine ab_fin.s2 (i := .aload_n 1) (k := 1) (pc' := 936) (lv' := [(4, .int (Int32.ofNat (6 * i))), (3, .ref 3467), (2, .ref 102), (1, .ref 0), (0, .retAddr 9)]) (st' := [.ref 0]) (by decide +kernel) rfl rfl ?_
    refine ab_fin.s2 (i := .aload_n 0) (k := 1) (pc' := 937) (lv' := [(4, .int (Int32.ofNat (6 * i))), (3, .ref 3467), (2, .ref 102), (1, .ref 0), (0, .retAddr 9)]) (st' := [.retAddr 9, .ref 0]) (by decide +kernel) rfl rfl ?_
    refine ab_fin.s2 (i := .iload 4) (k := 2) (pc' := 939) (lv' := [(4, .int (Int32.ofNat (6 * i))), (3, .ref 3467), (2, .ref 102), (1, .ref 0), (0, .retAddr 9)]) (st' := [.int (Int32.ofNat (6 * i)), .retAddr 9, .ref 0]) (by decide +kernel) rfl rfl ?_
    refine ab_fin.s1i (i := .iconst 1) (k := 1) (pc' := 940) (n := 1) (by decide +kernel) rfl (by decide +kernel) rfl ?_
    refine ab_fin.s1 (i := .iadd) (k := 1) (pc' := 941) (st' := [.int (Int32.ofNat (6 * i) + 1), .retAddr 9, .ref 0]) (by decide +kernel) rfl rfl ?_
    refine ab_fin.s8 (i := .iaload) (k := 1) (pc' := 942) (st' := [.int (xs (6 * i + 1)), .ref 0]) (by decide +kernel) (ab_x0 rfl (ix_v (i := i) (j := 1) (L := L) (y := 1) (by omega) hL rfl).1 (congrArg (fun k => Value.int (xs k)) (ix_v (i := i) (j := 1) (L := L) (y := 1) (by omega) hL rfl).2)) rfl rfl rfl ?_
    refine ab_fin.s2 (i := .aload_n 3) (k := 1) (pc' := 943) (lv' := [(4, .int (Int32.ofNat (6 * i))), (3, .ref 3467), (2, .ref 102), (1, .ref 0), (0, .retAddr 9)]) (st' := [.ref 3467, .int (xs (6 * i + 1)), .ref 0]) (by decide +kernel) rfl rfl ?_
    refine ab_fin.call (i := .invokestatic 124) (k := 3) (y := 13523) (As := [.ref 0, .int (xs (6 * i + 1)), .ref 3467]) (rest := []) (M' := (mL_shown, [(0, 9, 12, 13)])) (by decide +kernel) (ab_cs rfl rfl ⟨(Nat.le_of_ble_eq_true rfl), (Nat.le_of_ble_eq_true rfl)⟩ rfl) rfl (Nat.le_of_ble_eq_true rfl) ?_
    show ab_fin _ _ _ _ 0 [(0, .ref 0), (1, .int (xs (6 * i + 1))), (2, .ref 3467)] [] _ _
    refine ab_fin.s2 (i := .aload_n 2) (k := 1) (pc' := 1) (lv' := [(0, .ref 0), (1, .int (xs (6 * i + 1))), (2, .ref 3467)]) (st' := [.ref 3467]) (by decide +kernel) rfl rfl ?_
    refine ab_fin.s1i (i := .iconst 0) (k := 1) (pc' := 2) (n := 0) (by decide +kernel) rfl (by decide +kernel) rfl ?_
    refine ab_fin.s2 (i := .aload_n 0) (k := 1) (pc' := 3) (lv' := [(0, .ref 0), (1, .int (xs (6 * i + 1))), (2, .ref 3467)]) (st' := [.ref 0, .int 0, .ref 3467]) (by decide +kernel) rfl rfl ?_
    refine ab_fin.s2 (i := .iload_n 1) (k := 1) (pc' := 4) (lv' := [(0, .ref 0), (1, .int (xs (6 * i + 1))), (2, .ref 3467)]) (st' := [.int (xs (6 * i + 1)), .ref 0, .int 0, .ref 3467]) (by decide +kernel) rfl rfl ?_
    refine ab_fin.call (i := .invokevirtual 55) (k := 3) (y := 3088) (As := [.ref 0, .int (xs (6 * i + 1))]) (rest := [.int 0, .ref 3467]) (M' := (mX12_shown, [])) (by decide +kernel) (ab_cv rfl rfl e13 ⟨(Nat.le_of_ble_eq_true rfl), (Nat.le_of_ble_eq_true rfl)⟩ rfl) rfl (Nat.le_of_ble_eq_true rfl) ?_
    show ab_fin _ _ _ _ 0 [(0, .ref 0), (1, .int (xs (6 * i + 1)))] [] _ _
    refine W0.C hG (fun a => [(0, .ref a), (1, .int (xs (6 * i + 1)))]) (fun g => rfl) hC (fun r0 hc1 fC1 h1 q1 W1 => ?_)
    obtain rfl : r0 = .inl (some (.int v)) := q1.2
    show ab_bk _ _ _ _ _ _ _ _ _ (.inl (some (.int v))) _
    refine ab_bk.back (pc' := 7) (st' := [.int v, .int 0, .ref 3467]) rfl rfl ?_
    refine ab_fin.s1 (i := .i2l) (k := 1) (pc' := 8) (st' := [.long (v.toInt64), .int 0, .ref 3467]) (by decide +kernel) rfl rfl ?_
    refine ab_fin.last (l := [o]) (h1 := h1.set 3467 (.inr (.inl (1, .inr (.inl [v.toInt64]))))) (pc' := 9) (by decide +kernel) W1.2.2.2.2.1 (hi0 _) rfl rfl ?_
    have W1x := W1.out (v.toInt64)
    refine ab_fin.s3 (i := .goto 6) (k := 3) (t := 15) (st' := []) (by decide +kernel) (ab_goto (by decide +kernel)) ?_
    refine ab_fin.s1i (i := .iconst 0) (k := 1) (pc' := 16) (n := 0) (by decide +kernel) rfl (by decide +kernel) rfl ?_
    refine ab_fin.ret (i := .ireturn) (k := 1) (some (.int 0)) (by decide +kernel) rfl ?_
    refine ab_bk.back (pc' := 946) (st' := [.int 0]) rfl rfl ?_
    refine ab_fin.s2 (i := .istore 5) (k := 2) (pc' := 948) (lv' := [(5, .int 0), (4, .int (Int32.ofNat (6 * i))), (3, .ref 3467), (2, .ref 102), (1, .ref 0), (0, .retAddr 9)]) (st' := []) (by decide +kernel) rfl rfl ?_
    refine ab_fin.s2 (i := .aload_n 2) (k := 1) (pc' := 949) (lv' := [(5, .int 0), (4, .int (Int32.ofNat (6 * i))), (3, .ref 3467), (2, .ref 102), (1, .ref 0), (0, .retAddr 9)]) (st' := [.ref 102]) (by decide +kernel) rfl rfl ?_
    refine ab_fin.s2 (i := .aload_n 0) (k := 1) (pc' := 950) (lv' := [(5, .int 0), (4, .int (Int32.ofNat (6 * i))), (3, .ref 3467), (2, .ref 102), (1, .ref 0), (0, .retAddr 9)]) (st' := [.retAddr 9, .ref 102]) (by decide +kernel) rfl rfl ?_
    refine ab_fin.s2 (i := .iload 4) (k := 2) (pc' := 952) (lv' := [(5, .int 0), (4, .int (Int32.ofNat (6 * i))), (3, .ref 3467), (2, .ref 102), (1, .ref 0), (0, .retAddr 9)]) (st' := [.int (Int32.ofNat (6 * i)), .retAddr 9, .ref 102]) (by decide +kernel) rfl rfl ?_
    refine ab_fin.s1i (i := .iconst 1) (k := 1) (pc' := 953) (n := 1) (by decide +kernel) rfl (by decide +kernel) rfl ?_
    refine ab_fin.s1 (i := .iadd) (k := 1) (pc' := 954) (st' := [.int (Int32.ofNat (6 * i) + 1), .retAddr 9, .ref 102]) (by decide +kernel) rfl rfl ?_
    refine ab_fin.s8 (i := .iaload) (k := 1) (pc' := 955) (st' := [.int (xs (6 * i + 1)), .ref 102]) (by decide +kernel) (ab_x0 rfl (ix_v (i := i) (j := 1) (L := L) (y := 1) (by omega) hL rfl).1 (congrArg (fun k => Value.int (xs k)) (ix_v (i := i) (j := 1) (L := L) (y := 1) (by omega) hL rfl).2)) rfl rfl rfl ?_
    refine ab_fin.call (i := .invokevirtual 126) (k := 3) (y := 6008) (As := [.ref 102, .int (xs (6 * i + 1))]) (rest := []) (M' := (mX23_shown, [])) (by decide +kernel) (ab_cv rfl rfl (W1x.r0 e24) ⟨(Nat.le_of_ble_eq_true rfl), (Nat.le_of_ble_eq_true rfl)⟩ rfl) rfl (Nat.le_of_ble_eq_true rfl) ?_
    show ab_fin _ _ _ _ 0 [(0, .ref 102), (1, .int (xs (6 * i + 1)))] [] _ _
    refine W1x.R hG (fun a => [(0, .ref a), (1, .int (xs (6 * i + 1)))]) (fun g => rfl) hR (fun r0 hr1 fR1 h2 q2 W2 => ?_)
    obtain rfl : r0 = .inl (some (.int v)) := q2.2.1
    show ab_bk _ _ _ _ _ _ _ _ _ (.inl (some (.int v))) _
    refine ab_bk.back (pc' := 958) (st' := [.int v]) rfl rfl ?_
    obtain ⟨fs, t1, t2⟩ := thrR.at W2 q2.2.2
    refine ab_fin.s2 (i := .istore 6) (k := 2) (pc' := 960) (lv' := [(6, .int v), (5, .int 0), (4, .int (Int32.ofNat (6 * i))), (3, .ref 3467), (2, .ref 102), (1, .ref 0), (0, .retAddr 9)]) (st' := []) (by decide +kernel) rfl rfl ?_
    refine ab_fin.s2 (i := .aload_n 2) (k := 1) (pc' := 961) (lv' := [(6, .int v), (5, .int 0), (4, .int (Int32.ofNat (6 * i))), (3, .ref 3467), (2, .ref 102), (1, .ref 0), (0, .retAddr 9)]) (st' := [.ref 102]) (by decide +kernel) rfl rfl ?_
    refine ab_fin.call (i := .invokevirtual 75) (k := 3) (y := 5992) (As := [.ref 102]) (rest := []) (M' := (mX23_thrown, [])) (by decide +kernel) (ab_cv rfl rfl t1 ⟨(Nat.le_of_ble_eq_true rfl), (Nat.le_of_ble_eq_true rfl)⟩ rfl) rfl (Nat.le_of_ble_eq_true rfl) ?_
    show ab_fin _ _ _ _ 0 [(0, .ref 102)] [] _ _
    refine ab_fin.s2 (i := .aload_n 0) (k := 1) (pc' := 1) (lv' := [(0, .ref 102)]) (st' := [.ref 102]) (by decide +kernel) rfl rfl ?_
    refine ab_fin.getf (ix := 1000) (k := 110) (v := .int 0) (pc' := 4) (by decide +kernel) rfl t1 t2 rfl ?_
    refine ab_fin.ret (i := .ireturn) (k := 1) (some (.int 0)) (by decide +kernel) rfl ?_
    refine ab_bk.back (pc' := 964) (st' := [.int 0]) rfl rfl ?_
    refine ab_fin.s2 (i := .iload 5) (k := 2) (pc' := 966) (lv' := [(6, .int v), (5, .int 0), (4, .int (Int32.ofNat (6 * i))), (3, .ref 3467), (2, .ref 102), (1, .ref 0), (0, .retAddr 9)]) (st' := [.int 0, .int 0]) (by decide +kernel) rfl rfl ?_
    refine ab_fin.brT (c := (0 : Int32) = (0 : Int32)) (i := .if_icmp .eq 5) (off := 5) (t := 971) (r := []) (by decide +kernel) rfl (by decide +kernel) rfl ?_
    refine ab_fin.s2 (i := .iload 5) (k := 2) (pc' := 973) (lv' := [(6, .int v), (5, .int 0), (4, .int (Int32.ofNat (6 * i))), (3, .ref 3467), (2, .ref 102), (1, .ref 0), (0, .retAddr 9)]) (st' := [.int 0]) (by decide +kernel) rfl rfl ?_
    refine ab_fin.brF (c := ¬ (0 : Int32) = 0) (i := .ifCond .ne 15) (off := 15) (t := 988) (pc' := 976) (r := []) (by decide +kernel) rfl (by decide +kernel) rfl (by decide +kernel) ?_
    refine ab_fin.s2 (i := .aload_n 3) (k := 1) (pc' := 977) (lv' := [(6, .int v), (5, .int 0), (4, .int (Int32.ofNat (6 * i))), (3, .ref 3467), (2, .ref 102), (1, .ref 0), (0, .retAddr 9)]) (st' := [.ref 3467]) (by decide +kernel) rfl rfl ?_
    refine ab_fin.s1i (i := .iconst 0) (k := 1) (pc' := 978) (n := 0) (by decide +kernel) rfl (by decide +kernel) rfl ?_
    refine ab_fin.lald (l := [v.toInt64]) (v := v.toInt64) (pc' := 979) (by decide +kernel) W2.2.2.2.2.1 (hi0 _) rfl rfl ?_
    refine ab_fin.s2 (i := .iload 6) (k := 2) (pc' := 981) (lv' := [(6, .int v), (5, .int 0), (4, .int (Int32.ofNat (6 * i))), (3, .ref 3467), (2, .ref 102), (1, .ref 0), (0, .retAddr 9)]) (st' := [.int v, .long (v.toInt64)]) (by decide +kernel) rfl rfl ?_
    refine ab_fin.s1 (i := .i2l) (k := 1) (pc' := 982) (st' := [.long (v.toInt64), .long (v.toInt64)]) (by decide +kernel) rfl rfl ?_
    refine ab_fin.s1i (i := .lcmp) (k := 1) (pc' := 983) (n := 0) (by decide +kernel) rfl (lg_c0 _) rfl ?_
    refine ab_fin.brT (c := (0 : Int32) = 0) (i := .ifCond .eq 5) (off := 5) (t := 988) (r := []) (by decide +kernel) rfl (by decide +kernel) (by decide +kernel) ?_
    refine ab_fin.s3 (i := .goto 102) (k := 3) (t := 1090) (st' := []) (by decide +kernel) (ab_goto (by decide +kernel)) ?_
    refine ab_fin.lv (lv' := [(4, .int (Int32.ofNat (6 * i))), (3, .ref 3467), (2, .ref 102), (1, .ref 0), (0, .retAddr 9)]) ⟨fun q hq => ?_, (by show ([6, 5, 4, 3, 2, 1, 0] : List Nat).Nodup; decide)⟩ (go _ _ _ _ _ _ W2 q1.1 q2.1)
    simp only [List.mem_cons, List.not_mem_nil, or_false] at hq ⊢
    rcases hq with rfl | rfl | rfl | rfl | rfl <;> simp
set_option maxRecDepth 100000 in
set_option maxHeartbeats 0 in
theorem lw_ran {z4 z5 z6 : Value} {xs : Nat → Int32} {L : Nat} {h hc hr : List ab_E} {o : Int64} {fC fR : Nat → Nat} {PC PR : List ab_E → Prop} {Q : ab_RX → List ab_E → Prop} (hL : L ≤ 3072) (hG : ab_pure (hb_Gz (some z4, some z5, some z6) (some (0, L, fun i => .int (xs i))))) {i : Nat} (hi : 6 * i + 6 ≤ L) (W0 : Two h hc hr o fC fR) (k13 : is13 hc) (k24 : is24 hr) {r : Nat ⊕ Int32} (ht : ∀ th, r = .inl th → th = 1) (hC : ab_fin (hb_Gz (some z4, some z5, some z6) (some (0, L, fun i => .int (xs i)))) hb_GT 2044 (mX12_ran, []) 0 [(0, .ref 0)] [] hc (AnC "java/lang/IllegalStateException" "java/lang/IllegalStateException" PC r)) (hR : ab_fin (hb_Gz (some z4, some z5, some z6) (some (0, L, fun i => .int (xs i)))) hb_GT 2045 (mX23_ran, []) 0 [(0, .ref 0)] [] hr (AnR PR r)) (go : ∀ h' hc' hr' o' fC' fR', Two h' hc' hr' o' fC' fR' → PC hc' → PR hr' → ab_fin (hb_Gz (some z4, some z5, some z6) (some (0, L, fun i => .int (xs i)))) hb_GT 2046 (mL_law, []) 1090 [(4, .int (Int32.ofNat (6 * i))), (3, .ref 3467), (2, .ref 102), (1, .ref 0), (0, .retAddr 9)] [] h' Q) : ab_fin (hb_Gz (some z4, some z5, some z6) (some (0, L, fun i => .int (xs i)))) hb_GT 2046 (mL_law, []) 991 [(4, .int (Int32.ofNat (6 * i))), (3, .ref 3467), (2, .ref 102), (1, .ref 0), (0, .retAddr 9)] [] h Q := by
  obtain ⟨fs13, k13⟩ := k13
  obtain ⟨fs24, e24⟩ := k24
  have e13 := W0.c0 k13
  rcases r with th | v
  · obtain rfl := ht th rfl
    refine ab_fin.s2 (i := .aload_n 1) (k := 1) (pc' := 992) (lv' := [(4, .int (Int32.ofNat (6 * i))), (3, .ref 3467), (2, .ref 102), (1, .ref 0), (0, .retAddr 9)]) (st' := [.ref 0]) (by decide +kernel) rfl rfl ?_
    refine ab_fin.s2 (i := .aload_n 3) (k := 1) (pc' := 993) (lv' := [(4, .int (Int32.ofNat (6 * i))), (3, .ref 3467), (2, .ref 102), (1, .ref 0), (0, .retAddr 9)]) (st' := [.ref 3467, .ref 0]) (by decide +kernel) rfl rfl ?_
    refine ab_fin.call (i := .invokestatic 127) (k := 3) (y := 13524) (As := [.ref 0, .ref 3467]) (rest := []) (M' := (mL_ran, [(0, 8, 11, 50)])) (by decide +kernel) (ab_cs rfl rfl ⟨(Nat.le_of_ble_eq_true rfl), (Nat.le_of_ble_eq_true rfl)⟩ rfl) rfl (Nat.le_of_ble_eq_true rfl) ?_
    show ab_fin _ _ _ _ 0 [(0, .ref 0), (1, .ref 3467)] [] _ _
    refine ab_fin.s2 (i := .aload_n 1) (k := 1) (pc' := 1) (lv' := [(0, .ref 0), (1, .ref 3467)]) (st' := [.ref 3467]) (by decide +kernel) rfl rfl ?_
    refine ab_fin.s1i (i := .iconst 0) (k := 1) (pc' := 2) (n := 0) (by decide +kernel) rfl (by decide +kernel) rfl ?_
    refine ab_fin.s2 (i := .aload_n 0) (k := 1) (pc' := 3) (lv' := [(0, .ref 0), (1, .ref 3467)]) (st' := [.ref 0, .int 0, .ref 3467]) (by decide +kernel) rfl rfl ?_
    refine ab_fin.call (i := .invokevirtual 58) (k := 3) (y := 3089) (As := [.ref 0]) (rest := [.int 0, .ref 3467]) (M' := (mX12_ran, [])) (by decide +kernel) (ab_cv rfl rfl e13 ⟨(Nat.le_of_ble_eq_true rfl), (Nat.le_of_ble_eq_true rfl)⟩ rfl) rfl (Nat.le_of_ble_eq_true rfl) ?_
    show ab_fin _ _ _ _ 0 [(0, .ref 0)] [] _ _
    refine W0.C hG (fun a => [(0, .ref a)]) (fun g => rfl) hC (fun r0 hc1 fC1 h1 q1 W1 => ?_)
    obtain ⟨x9, e9⟩ := q1.2
    subst e9
    show ab_bk _ _ _ _ _ _ _ _ _ (.inr ("java/lang/IllegalStateException", fC1 x9)) _
    refine ab_bk.catch (hp := 11) (by decide +kernel) rfl ?_
    refine ab_fin.s2 (i := .astore_n 2) (k := 1) (pc' := 12) (lv' := [(2, .ref (fC1 x9)), (0, .ref 0), (1, .ref 3467)]) (st' := []) (by decide +kernel) rfl rfl ?_
    refine ab_fin.s1i (i := .iconst 1) (k := 1) (pc' := 13) (n := 1) (by decide +kernel) rfl (by decide +kernel) rfl ?_
    refine ab_fin.ret (i := .ireturn) (k := 1) (some (.int 1)) (by decide +kernel) rfl ?_
    refine ab_bk.back (pc' := 996) (st' := [.int 1]) rfl rfl ?_
    refine ab_fin.s2 (i := .istore 5) (k := 2) (pc' := 998) (lv' := [(5, .int 1), (4, .int (Int32.ofNat (6 * i))), (3, .ref 3467), (2, .ref 102), (1, .ref 0), (0, .retAddr 9)]) (st' := []) (by decide +kernel) rfl rfl ?_
    refine ab_fin.s2 (i := .aload_n 2) (k := 1) (pc' := 999) (lv' := [(5, .int 1), (4, .int (Int32.ofNat (6 * i))), (3, .ref 3467), (2, .ref 102), (1, .ref 0), (0, .retAddr 9)]) (st' := [.ref 102]) (by decide +kernel) rfl rfl ?_
    refine ab_fin.call (i := .invokevirtual 129) (k := 3) (y := 6009) (As := [.ref 102]) (rest := []) (M' := (mX23_ran, [])) (by decide +kernel) (ab_cv rfl rfl (W1.r0 e24) ⟨(Nat.le_of_ble_eq_true rfl), (Nat.le_of_ble_eq_true rfl)⟩ rfl) rfl (Nat.le_of_ble_eq_true rfl) ?_
    show ab_fin _ _ _ _ 0 [(0, .ref 102)] [] _ _
    refine W1.R hG (fun a => [(0, .ref a)]) (fun g => rfl) hR (fun r0 hr1 fR1 h2 q2 W2 => ?_)
    obtain rfl : r0 = .inl (some (.int 0)) := q2.2.1
    show ab_bk _ _ _ _ _ _ _ _ _ (.inl (some (.int 0))) _
    refine ab_bk.back (pc' := 1002) (st' := [.int 0]) rfl rfl ?_
    obtain ⟨fs, t1, t2⟩ := thrR.at W2 q2.2.2
    refine ab_fin.s2 (i := .istore 6) (k := 2) (pc' := 1004) (lv' := [(6, .int 0), (5, .int 1), (4, .int (Int32.ofNat (6 * i))), (3, .ref 3467), (2, .ref 102), (1, .ref 0), (0, .retAddr 9)]) (st' := []) (by decide +kernel) rfl rfl ?_
    refine ab_fin.s2 (i := .aload_n 2) (k := 1) (pc' := 1005) (lv' := [(6, .int 0), (5, .int 1), (4, .int (Int32.ofNat (6 * i))), (3, .ref 3467), (2, .ref 102), (1, .ref 0), (0, .retAddr 9)]) (st' := [.ref 102]) (by decide +kernel) rfl rfl ?_
    refine ab_fin.call (i := .invokevirtual 75) (k := 3) (y := 5992) (As := [.ref 102]) (rest := []) (M' := (mX23_thrown, [])) (by decide +kernel) (ab_cv rfl rfl t1 ⟨(Nat.le_of_ble_eq_true rfl), (Nat.le_of_ble_eq_true rfl)⟩ rfl) rfl (Nat.le_of_ble_eq_true rfl) ?_
    show ab_fin _ _ _ _ 0 [(0, .ref 102)] [] _ _
    refine ab_fin.s2 (i := .aload_n 0) (k := 1) (pc' := 1) (lv' := [(0, .ref 102)]) (st' := [.ref 102]) (by decide +kernel) rfl rfl ?_
    refine ab_fin.getf (ix := 1000) (k := 110) (v := .int 1) (pc' := 4) (by decide +kernel) rfl t1 t2 rfl ?_
    refine ab_fin.ret (i := .ireturn) (k := 1) (some (.int 1)) (by decide +kernel) rfl ?_
    refine ab_bk.back (pc' := 1008) (st' := [.int 1]) rfl rfl ?_
    refine ab_fin.s2 (i := .iload 5) (k := 2) (pc' := 1010) (lv' := [(6, .int 0), (5, .int 1), (4, .int (Int32.ofNat (6 * i))), (3, .ref 3467), (2, .ref 102), (1, .ref 0), (0, .retAddr 9)]) (st' := [.int 1, .int 1]) (by decide +kernel) rfl rfl ?_
    refine ab_fin.brT (c := (1 : Int32) = (1 : Int32)) (i := .if_icmp .eq 5) (off := 5) (t := 1015) (r := []) (by decide +kernel) rfl (by decide +kernel) rfl ?_
    refine ab_fin.s2 (i := .iload 5) (k := 2) (pc' := 1017) (lv' := [(6, .int 0), (5, .int 1), (4, .int (Int32.ofNat (6 * i))), (3, .ref 3467), (2, .ref 102), (1, .ref 0), (0, .retAddr 9)]) (st' := [.int 1]) (by decide +kernel) rfl rfl ?_
    refine ab_fin.brT (c := ¬ (1 : Int32) = 0) (i := .ifCond .ne 15) (off := 15) (t := 1032) (r := []) (by decide +kernel) rfl (by decide +kernel) (by decide +kernel) ?_
    refine ab_fin.s3 (i := .goto 58) (k := 3) (t := 1090) (st' := []) (by decide +kernel) (ab_goto (by decide +kernel)) ?_
    refine ab_fin.lv (lv' := [(4, .int (Int32.ofNat (6 * i))), (3, .ref 3467), (2, .ref 102), (1, .ref 0), (0, .retAddr 9)]) ⟨fun q hq => ?_, (by show ([6, 5, 4, 3, 2, 1, 0] : List Nat).Nodup; decide)⟩ (go _ _ _ _ _ _ W2 q1.1 q2.1)
    simp only [List.mem_cons, List.not_mem_nil, or_false] at hq ⊢
    rcases hq with rfl | rfl | rfl | rfl | rfl <;> simp
  · refine ab_fin.s2 (i := .aload_n 1) (k := 1) (pc' := 992) (lv' := [(4, .int (Int32.ofNat (6 * i))), (3, .ref 3467), (2, .ref 102), (1, .ref 0), (0, .retAddr 9)]) (st' := [.ref 0]) (by decide +kernel) rfl rfl ?_
    refine ab_fin.s2 (i := .aload_n 3) (k := 1) (pc' := 993) (lv' := [(4, .int (Int32.ofNat (6 * i))), (3, .ref 3467), (2, .ref 102), (1, .ref 0), (0, .retAddr 9)]) (st' := [.ref 3467, .ref 0]) (by decide +kernel) rfl rfl ?_
    refine ab_fin.call (i := .invokestatic 127) (k := 3) (y := 13524) (As := [.ref 0, .ref 3467]) (rest := []) (M' := (mL_ran, [(0, 8, 11, 50)])) (by decide +kernel) (ab_cs rfl rfl ⟨(Nat.le_of_ble_eq_true rfl), (Nat.le_of_ble_eq_true rfl)⟩ rfl) rfl (Nat.le_of_ble_eq_true rfl) ?_
    show ab_fin _ _ _ _ 0 [(0, .ref 0), (1, .ref 3467)] [] _ _
    refine ab_fin.s2 (i := .aload_n 1) (k := 1) (pc' := 1) (lv' := [(0, .ref 0), (1, .ref 3467)]) (st' := [.ref 3467]) (by decide +kernel) rfl rfl ?_
    refine ab_fin.s1i (i := .iconst 0) (k := 1) (pc' := 2) (n := 0) (by decide +kernel) rfl (by decide +kernel) rfl ?_
    refine ab_fin.s2 (i := .aload_n 0) (k := 1) (pc' := 3) (lv' := [(0, .ref 0), (1, .ref 3467)]) (st' := [.ref 0, .int 0, .ref 3467]) (by decide +kernel) rfl rfl ?_
    refine ab_fin.call (i := .invokevirtual 58) (k := 3) (y := 3089) (As := [.ref 0]) (rest := [.int 0, .ref 3467]) (M' := (mX12_ran, [])) (by decide +kernel) (ab_cv rfl rfl e13 ⟨(Nat.le_of_ble_eq_true rfl), (Nat.le_of_ble_eq_true rfl)⟩ rfl) rfl (Nat.le_of_ble_eq_true rfl) ?_
    show ab_fin _ _ _ _ 0 [(0, .ref 0)] [] _ _
    refine W0.C hG (fun a => [(0, .ref a)]) (fun g => rfl) hC (fun r0 hc1 fC1 h1 q1 W1 => ?_)
    obtain rfl : r0 = .inl (some (.int v)) := q1.2
    show ab_bk _ _ _ _ _ _ _ _ _ (.inl (some (.int v))) _
    refine ab_bk.back (pc' := 6) (st' := [.int v, .int 0, .ref 3467]) rfl rfl ?_
    refine ab_fin.s1 (i := .i2l) (k := 1) (pc' := 7) (st' := [.long (v.toInt64), .int 0, .ref 3467]) (by decide +kernel) rfl rfl ?_
    refine ab_fin.last (l := [o]) (h1 := h1.set 3467 (.inr (.inl (1, .inr (.inl [v.toInt64]))))) (pc' := 8) (by decide +kernel) W1.2.2.2.2.1 (hi0 _) rfl rfl ?_
    have W1x := W1.out (v.toInt64)
    refine ab_fin.s3 (i := .goto 6) (k := 3) (t := 14) (st' := []) (by decide +kernel) (ab_goto (by decide +kernel)) ?_
    refine ab_fin.s1i (i := .iconst 0) (k := 1) (pc' := 15) (n := 0) (by decide +kernel) rfl (by decide +kernel) rfl ?_
    refine ab_fin.ret (i := .ireturn) (k := 1) (some (.int 0)) (by decide +kernel) rfl ?_
    refine ab_bk.back (pc' := 996) (st' := [.int 0]) rfl rfl ?_
    refine ab_fin.s2 (i := .istore 5) (k := 2) (pc' := 998) (lv' := [(5, .int 0), (4, .int (Int32.ofNat (6 * i))), (3, .ref 3467), (2, .ref 102), (1, .ref 0), (0, .retAddr 9)]) (st' := []) (by decide +kernel) rfl rfl ?_
    refine ab_fin.s2 (i := .aload_n 2) (k := 1) (pc' := 999) (lv' := [(5, .int 0), (4, .int (Int32.ofNat (6 * i))), (3, .ref 3467), (2, .ref 102), (1, .ref 0), (0, .retAddr 9)]) (st' := [.ref 102]) (by decide +kernel) rfl rfl ?_
    refine ab_fin.call (i := .invokevirtual 129) (k := 3) (y := 6009) (As := [.ref 102]) (rest := []) (M' := (mX23_ran, [])) (by decide +kernel) (ab_cv rfl rfl (W1x.r0 e24) ⟨(Nat.le_of_ble_eq_true rfl), (Nat.le_of_ble_eq_true rfl)⟩ rfl) rfl (Nat.le_of_ble_eq_true rfl) ?_
    show ab_fin _ _ _ _ 0 [(0, .ref 102)] [] _ _
    refine W1x.R hG (fun a => [(0, .ref a)]) (fun g => rfl) hR (fun r0 hr1 fR1 h2 q2 W2 => ?_)
    obtain rfl : r0 = .inl (some (.int v)) := q2.2.1
    show ab_bk _ _ _ _ _ _ _ _ _ (.inl (some (.int v))) _
    refine ab_bk.back (pc' := 1002) (st' := [.int v]) rfl rfl ?_
    obtain ⟨fs, t1, t2⟩ := thrR.at W2 q2.2.2
    refine ab_fin.s2 (i := .istore 6) (k := 2) (pc' := 1004) (lv' := [(6, .int v), (5, .int 0), (4, .int (Int32.ofNat (6 * i))), (3, .ref 3467), (2, .ref 102), (1, .ref 0), (0, .retAddr 9)]) (st' := []) (by decide +kernel) rfl rfl ?_
    refine ab_fin.s2 (i := .aload_n 2) (k := 1) (pc' := 1005) (lv' := [(6, .int v), (5, .int 0), (4, .int (Int32.ofNat (6 * i))), (3, .ref 3467), (2, .ref 102), (1, .ref 0), (0, .retAddr 9)]) (st' := [.ref 102]) (by decide +kernel) rfl rfl ?_
    refine ab_fin.call (i := .invokevirtual 75) (k := 3) (y := 5992) (As := [.ref 102]) (rest := []) (M' := (mX23_thrown, [])) (by decide +kernel) (ab_cv rfl rfl t1 ⟨(Nat.le_of_ble_eq_true rfl), (Nat.le_of_ble_eq_true rfl)⟩ rfl) rfl (Nat.le_of_ble_eq_true rfl) ?_
    show ab_fin _ _ _ _ 0 [(0, .ref 102)] [] _ _
    refine ab_fin.s2 (i := .aload_n 0) (k := 1) (pc' := 1) (lv' := [(0, .ref 102)]) (st' := [.ref 102]) (by decide +kernel) rfl rfl ?_
    refine ab_fin.getf (ix := 1000) (k := 110) (v := .int 0) (pc' := 4) (by decide +kernel) rfl t1 t2 rfl ?_
    refine ab_fin.ret (i := .ireturn) (k := 1) (some (.int 0)) (by decide +kernel) rfl ?_
    refine ab_bk.back (pc' := 1008) (st' := [.int 0]) rfl rfl ?_
    refine ab_fin.s2 (i := .iload 5) (k := 2) (pc' := 1010) (lv' := [(6, .int v), (5, .int 0), (4, .int (Int32.ofNat (6 * i))), (3, .ref 3467), (2, .ref 102), (1, .ref 0), (0, .retAddr 9)]) (st' := [.int 0, .int 0]) (by decide +kernel) rfl rfl ?_
    refine ab_fin.brT (c := (0 : Int32) = (0 : Int32)) (i := .if_icmp .eq 5) (off := 5) (t := 1015) (r := []) (by decide +kernel) rfl (by decide +kernel) rfl ?_
    refine ab_fin.s2 (i := .iload 5) (k := 2) (pc' := 1017) (lv' := [(6, .int v), (5, .int 0), (4, .int (Int32.ofNat (6 * i))), (3, .ref 3467), (2, .ref 102), (1, .ref 0), (0, .retAddr 9)]) (st' := [.int 0]) (by decide +kernel) rfl rfl ?_
    refine ab_fin.brF (c := ¬ (0 : Int32) = 0) (i := .ifCond .ne 15) (off := 15) (t := 1032) (pc' := 1020) (r := []) (by decide +kernel) rfl (by decide +kernel) rfl (by decide +kernel) ?_
    refine ab_fin.s2 (i := .aload_n 3) (k := 1) (pc' := 1021) (lv' := [(6, .int v), (5, .int 0), (4, .int (Int32.ofNat (6 * i))), (3, .ref 3467), (2, .ref 102), (1, .ref 0), (0, .retAddr 9)]) (st' := [.ref 3467]) (by decide +kernel) rfl rfl ?_
    refine ab_fin.s1i (i := .iconst 0) (k := 1) (pc' := 1022) (n := 0) (by decide +kernel) rfl (by decide +kernel) rfl ?_
    refine ab_fin.lald (l := [v.toInt64]) (v := v.toInt64) (pc' := 1023) (by decide +kernel) W2.2.2.2.2.1 (hi0 _) rfl rfl ?_
    refine ab_fin.s2 (i := .iload 6) (k := 2) (pc' := 1025) (lv' := [(6, .int v), (5, .int 0), (4, .int (Int32.ofNat (6 * i))), (3, .ref 3467), (2, .ref 102), (1, .ref 0), (0, .retAddr 9)]) (st' := [.int v, .long (v.toInt64)]) (by decide +kernel) rfl rfl ?_
    refine ab_fin.s1 (i := .i2l) (k := 1) (pc' := 1026) (st' := [.long (v.toInt64), .long (v.toInt64)]) (by decide +kernel) rfl rfl ?_
    refine ab_fin.s1i (i := .lcmp) (k := 1) (pc' := 1027) (n := 0) (by decide +kernel) rfl (lg_c0 _) rfl ?_
    refine ab_fin.brT (c := (0 : Int32) = 0) (i := .ifCond .eq 5) (off := 5) (t := 1032) (r := []) (by decide +kernel) rfl (by decide +kernel) (by decide +kernel) ?_
    refine ab_fin.s3 (i := .goto 58) (k := 3) (t := 1090) (st' := []) (by decide +kernel) (ab_goto (by decide +kernel)) ?_
    refine ab_fin.lv (lv' := [(4, .int (Int32.ofNat (6 * i))), (3, .ref 3467), (2, .ref 102), (1, .ref 0), (0, .retAddr 9)]) ⟨fun q hq => ?_, (by show ([6, 5, 4, 3, 2, 1, 0] : List Nat).Nodup; decide)⟩ (go _ _ _ _ _ _ W2 q1.1 q2.1)
    simp only [List.mem_cons, List.not_mem_nil, or_false] at hq ⊢
    rcases hq with rfl | rfl | rfl | rfl | rfl <;> simp

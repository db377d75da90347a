/-! more of the law's calls (printed by lawgen.py) -/
set_option maxRecDepth 100000 in
set_option maxHeartbeats 0 in
theorem lw_feed {z4 z5 z6 : Value} {xs : Nat → Int32} {L : Nat} {h hc hr : List ab_E} {o : Int64} {fC fR : Nat → Nat} {PC PR : List ab_E → Prop} {Q : ab_RX → List ab_E → Prop} (hL : L ≤ 3072) (hG : ab_pure (hb_Gz (some z4, some z5, some z6) (some (0, L, fun i => .int (xs i))))) {i : Nat} (hi : 6 * i + 6 ≤ L) (W0 : Two h hc hr o fC fR) (k13 : is13 hc) (k24 : is24 hr) {r : Nat ⊕ Int32} (ht : ∀ th, r = .inl th → th = 1) (hC : ab_fin (hb_Gz (some z4, some z5, some z6) (some (0, L, fun i => .int (xs i)))) hb_GT 2044 (mX12_feed, []) 0 [(0, .ref 0), (1, .int (xs (6 * i + 1))), (2, .int (xs (6 * i + 2))), (3, .int (xs (6 * i + 3))), (4, .int (xs (6 * i + 4))), (5, .int (xs (6 * i + 5)))] [] hc (AnC "java/lang/IndexOutOfBoundsException" "java/lang/IndexOutOfBoundsException" PC r)) (hR : ab_fin (hb_Gz (some z4, some z5, some z6) (some (0, L, fun i => .int (xs i)))) hb_GT 2045 (mX23_feed, []) 0 [(0, .ref 0), (1, .int (xs (6 * i + 1))), (2, .int (xs (6 * i + 2))), (3, .int (xs (6 * i + 3))), (4, .int (xs (6 * i + 4))), (5, .int (xs (6 * i + 5)))] [] hr (AnR PR r)) (go : ∀ h' hc' hr' o' fC' fR', Two h' hc' hr' o' fC' fR' → PC hc' → PR hr' → ab_fin (hb_Gz (some z4, some z5, some z6) (some (0, L, fun i => .int (xs i)))) hb_GT 2046 (mL_law, []) 1090 [(4, .int (Int32.ofNat (6 * i))), (3, .ref 3467), (2, .ref 102), (1, .ref 0), (0, .retAddr 9)] [] h' Q) : ab_fin (hb_Gz (some z4, some z5, some z6) (some (0, L, fun i => .int (xs i)))) hb_GT 2046 (mL_law, []) 124 [(4, .int (Int32.ofNat (6 * i))), (3, .ref 3467), (2, .ref 102), (1, .ref 0), (0, .retAddr 9)] [] h Q := by
  obtain ⟨fs13, k13⟩ := k13
  obtain ⟨fs24, e24⟩ := k24
  have e13 := W0.c0 k13
  rcases r with th | v
  · obtain rfl := ht th rfl
    refine ab_fin.s2 (i := .aload_n 1) (k := 1) (pc' := 125) (lv' := [(4, .int (Int32.ofNat (6 * i))), (3, .ref 3467), (2, .ref 102), (1, .ref 0), (0, .retAddr 9)]) (st' := [.ref 0]) (by decide +kernel) rfl rfl ?_
    refine ab_fin.s2 (i := .aload_n 0) (k := 1) (pc' := 126) (lv' := [(4, .int (Int32.ofNat (6 * i))), (3, .ref 3467), (2, .ref 102), (1, .ref 0), (0, .retAddr 9)]) (st' := [.retAddr 9, .ref 0]) (by decide +kernel) rfl rfl ?_
    refine ab_fin.s2 (i := .iload 4) (k := 2) (pc' := 128) (lv' := [(4, .int (Int32.ofNat (6 * i))), (3, .ref 3467), (2, .ref 102), (1, .ref 0), (0, .retAddr 9)]) (st' := [.int (Int32.ofNat (6 * i)), .retAddr 9, .ref 0]) (by decide +kernel) rfl rfl ?_
    refine ab_fin.s1i (i := .iconst 1) (k := 1) (pc' := 129) (n := 1) (by decide +kernel) rfl (by decide +kernel) rfl ?_
    refine ab_fin.s1 (i := .iadd) (k := 1) (pc' := 130) (st' := [.int (Int32.ofNat (6 * i) + 1), .retAddr 9, .ref 0]) (by decide +kernel) rfl rfl ?_
    refine ab_fin.s8 (i := .iaload) (k := 1) (pc' := 131) (st' := [.int (xs (6 * i + 1)), .ref 0]) (by decide +kernel) (ab_x0 rfl (ix_v (i := i) (j := 1) (L := L) (y := 1) (by omega) hL rfl).1 (congrArg (fun k => Value.int (xs k)) (ix_v (i := i) (j := 1) (L := L) (y := 1) (by omega) hL rfl).2)) rfl rfl rfl ?_
    refine ab_fin.s2 (i := .aload_n 0) (k := 1) (pc' := 132) (lv' := [(4, .int (Int32.ofNat (6 * i))), (3, .ref 3467), (2, .ref 102), (1, .ref 0), (0, .retAddr 9)]) (st' := [.retAddr 9, .int (xs (6 * i + 1)), .ref 0]) (by decide +kernel) rfl rfl ?_
    refine ab_fin.s2 (i := .iload 4) (k := 2) (pc' := 134) (lv' := [(4, .int (Int32.ofNat (6 * i))), (3, .ref 3467), (2, .ref 102), (1, .ref 0), (0, .retAddr 9)]) (st' := [.int (Int32.ofNat (6 * i)), .retAddr 9, .int (xs (6 * i + 1)), .ref 0]) (by decide +kernel) rfl rfl ?_
    refine ab_fin.s1i (i := .iconst 2) (k := 1) (pc' := 135) (n := 2) (by decide +kernel) rfl (by decide +kernel) rfl ?_
    refine ab_fin.s1 (i := .iadd) (k := 1) (pc' := 136) (st' := [.int (Int32.ofNat (6 * i) + 2), .retAddr 9, .int (xs (6 * i + 1)), .ref 0]) (by decide +kernel) rfl rfl ?_
    refine ab_fin.s8 (i := .iaload) (k := 1) (pc' := 137) (st' := [.int (xs (6 * i + 2)), .int (xs (6 * i + 1)), .ref 0]) (by decide +kernel) (ab_x0 rfl (ix_v (i := i) (j := 2) (L := L) (y := 2) (by omega) hL rfl).1 (congrArg (fun k => Value.int (xs k)) (ix_v (i := i) (j := 2) (L := L) (y := 2) (by omega) hL rfl).2)) rfl rfl rfl ?_
    refine ab_fin.s2 (i := .aload_n 0) (k := 1) (pc' := 138) (lv' := [(4, .int (Int32.ofNat (6 * i))), (3, .ref 3467), (2, .ref 102), (1, .ref 0), (0, .retAddr 9)]) (st' := [.retAddr 9, .int (xs (6 * i + 2)), .int (xs (6 * i + 1)), .ref 0]) (by decide +kernel) rfl rfl ?_
    refine ab_fin.s2 (i := .iload 4) (k := 2) (pc' := 140) (lv' := [(4, .int (Int32.ofNat (6 * i))), (3, .ref 3467), (2, .ref 102), (1, .ref 0), (0, .retAddr 9)]) (st' := [.int (Int32.ofNat (6 * i)), .retAddr 9, .int (xs (6 * i + 2)), .int (xs (6 * i + 1)), .ref 0]) (by decide +kernel) rfl rfl ?_
    refine ab_fin.s1i (i := .iconst 3) (k := 1) (pc' := 141) (n := 3) (by decide +kernel) rfl (by decide +kernel) rfl ?_
    refine ab_fin.s1 (i := .iadd) (k := 1) (pc' := 142) (st' := [.int (Int32.ofNat (6 * i) + 3), .retAddr 9, .int (xs (6 * i + 2)), .int (xs (6 * i + 1)), .ref 0]) (by decide +kernel) rfl rfl ?_
    refine ab_fin.s8 (i := .iaload) (k := 1) (pc' := 143) (st' := [.int (xs (6 * i + 3)), .int (xs (6 * i + 2)), .int (xs (6 * i + 1)), .ref 0]) (by decide +kernel) (ab_x0 rfl (ix_v (i := i) (j := 3) (L := L) (y := 3) (by omega) hL rfl).1 (congrArg (fun k => Value.int (xs k)) (ix_v (i := i) (j := 3) (L := L) (y := 3) (by omega) hL rfl).2)) rfl rfl rfl ?_
    refine ab_fin.s2 (i := .aload_n 0) (k := 1) (pc' := 144) (lv' := [(4, .int (Int32.ofNat (6 * i))), (3, .ref 3467), (2, .ref 102), (1, .ref 0), (0, .retAddr 9)]) (st' := [.retAddr 9, .int (xs (6 * i + 3)), .int (xs (6 * i + 2)), .int (xs (6 * i + 1)), .ref 0]) (by decide +kernel) rfl rfl ?_
    refine ab_fin.s2 (i := .iload 4) (k := 2) (pc' := 146) (lv' := [(4, .int (Int32.ofNat (6 * i))), (3, .ref 3467), (2, .ref 102), (1, .ref 0), (0, .retAddr 9)]) (st' := [.int (Int32.ofNat (6 * i)), .retAddr 9, .int (xs (6 * i + 3)), .int (xs (6 * i + 2)), .int (xs (6 * i + 1)), .ref 0]) (by decide +kernel) rfl rfl ?_
    refine ab_fin.s1i (i := .iconst 4) (k := 1) (pc' := 147) (n := 4) (by decide +kernel) rfl (by decide +kernel) rfl ?_
    refine ab_fin.s1 (i := .iadd) (k := 1) (pc' := 148) (st' := [.int (Int32.ofNat (6 * i) + 4), .retAddr 9, .int (xs (6 * i + 3)), .int (xs (6 * i + 2)), .int (xs (6 * i + 1)), .ref 0]) (by decide +kernel) rfl rfl ?_
    refine ab_fin.s8 (i := .iaload) (k := 1) (pc' := 149) (st' := [.int (xs (6 * i + 4)), .int (xs (6 * i + 3)), .int (xs (6 * i + 2)), .int (xs (6 * i + 1)), .ref 0]) (by decide +kernel) (ab_x0 rfl (ix_v (i := i) (j := 4) (L := L) (y := 4) (by omega) hL rfl).1 (congrArg (fun k => Value.int (xs k)) (ix_v (i := i) (j := 4) (L := L) (y := 4) (by omega) hL rfl).2)) rfl rfl rfl ?_
    refine ab_fin.s2 (i := .aload_n 0) (k := 1) (pc' := 150) (lv' := [(4, .int (Int32.ofNat (6 * i))), (3, .ref 3467), (2, .ref 102), (1, .ref 0), (0, .retAddr 9)]) (st' := [.retAddr 9, .int (xs (6 * i + 4)), .int (xs (6 * i + 3)), .int (xs (6 * i + 2)), .int (xs (6 * i + 1)), .ref 0]) (by decide +kernel) rfl rfl ?_
    refine ab_fin.s2 (i := .iload 4) (k := 2) (pc' := 152) (lv' := [(4, .int (Int32.ofNat (6 * i))), (3, .ref 3467), (2, .ref 102), (1, .ref 0), (0, .retAddr 9)]) (st' := [.int (Int32.ofNat (6 * i)), .retAddr 9, .int (xs (6 * i + 4)), .int (xs (6 * i + 3)), .int (xs (6 * i + 2)), .int (xs (6 * i + 1)), .ref 0]) (by decide +kernel) rfl rfl ?_
    refine ab_fin.s1i (i := .iconst 5) (k := 1) (pc' := 153) (n := 5) (by decide +kernel) rfl (by decide +kernel) rfl ?_
    refine ab_fin.s1 (i := .iadd) (k := 1) (pc' := 154) (st' := [.int (Int32.ofNat (6 * i) + 5), .retAddr 9, .int (xs (6 * i + 4)), .int (xs (6 * i + 3)), .int (xs (6 * i + 2)), .int (xs (6 * i + 1)), .ref 0]) (by decide +kernel) rfl rfl ?_
    refine ab_fin.s8 (i := .iaload) (k := 1) (pc' := 155) (st' := [.int (xs (6 * i + 5)), .int (xs (6 * i + 4)), .int (xs (6 * i + 3)), .int (xs (6 * i + 2)), .int (xs (6 * i + 1)), .ref 0]) (by decide +kernel) (ab_x0 rfl (ix_v (i := i) (j := 5) (L := L) (y := 5) (by omega) hL rfl).1 (congrArg (fun k => Value.int (xs k)) (ix_v (i := i) (j := 5) (L := L) (y := 5) (by omega) hL rfl).2)) rfl rfl rfl ?_
    refine ab_fin.s2 (i := .aload_n 3) (k := 1) (pc' := 156) (lv' := [(4, .int (Int32.ofNat (6 * i))), (3, .ref 3467), (2, .ref 102), (1, .ref 0), (0, .retAddr 9)]) (st' := [.ref 3467, .int (xs (6 * i + 5)), .int (xs (6 * i + 4)), .int (xs (6 * i + 3)), .int (xs (6 * i + 2)), .int (xs (6 * i + 1)), .ref 0]) (by decide +kernel) rfl rfl ?_
    refine ab_fin.call (i := .invokestatic 69) (k := 3) (y := 13512) (As := [.ref 0, .int (xs (6 * i + 1)), .int (xs (6 * i + 2)), .int (xs (6 * i + 3)), .int (xs (6 * i + 4)), .int (xs (6 * i + 5)), .ref 3467]) (rest := []) (M' := (mL_feed, [(0, 16, 19, 13)])) (by decide +kernel) (ab_cs rfl rfl ⟨(Nat.le_of_ble_eq_true rfl), (Nat.le_of_ble_eq_true rfl)⟩ rfl) rfl (Nat.le_of_ble_eq_true rfl) ?_
    show ab_fin _ _ _ _ 0 [(0, .ref 0), (1, .int (xs (6 * i + 1))), (2, .int (xs (6 * i + 2))), (3, .int (xs (6 * i + 3))), (4, .int (xs (6 * i + 4))), (5, .int (xs (6 * i + 5))), (6, .ref 3467)] [] _ _
    refine ab_fin.s2 (i := .aload 6) (k := 2) (pc' := 2) (lv' := [(0, .ref 0), (1, .int (xs (6 * i + 1))), (2, .int (xs (6 * i + 2))), (3, .int (xs (6 * i + 3))), (4, .int (xs (6 * i + 4))), (5, .int (xs (6 * i + 5))), (6, .ref 3467)]) (st' := [.ref 3467]) (by decide +kernel) rfl rfl ?_
    refine ab_fin.s1i (i := .iconst 0) (k := 1) (pc' := 3) (n := 0) (by decide +kernel) rfl (by decide +kernel) rfl ?_
    refine ab_fin.s2 (i := .aload_n 0) (k := 1) (pc' := 4) (lv' := [(0, .ref 0), (1, .int (xs (6 * i + 1))), (2, .int (xs (6 * i + 2))), (3, .int (xs (6 * i + 3))), (4, .int (xs (6 * i + 4))), (5, .int (xs (6 * i + 5))), (6, .ref 3467)]) (st' := [.ref 0, .int 0, .ref 3467]) (by decide +kernel) rfl rfl ?_
    refine ab_fin.s2 (i := .iload_n 1) (k := 1) (pc' := 5) (lv' := [(0, .ref 0), (1, .int (xs (6 * i + 1))), (2, .int (xs (6 * i + 2))), (3, .int (xs (6 * i + 3))), (4, .int (xs (6 * i + 4))), (5, .int (xs (6 * i + 5))), (6, .ref 3467)]) (st' := [.int (xs (6 * i + 1)), .ref 0, .int 0, .ref 3467]) (by decide +kernel) rfl rfl ?_
    refine ab_fin.s2 (i := .iload_n 2) (k := 1) (pc' := 6) (lv' := [(0, .ref 0), (1, .int (xs (6 * i + 1))), (2, .int (xs (6 * i + 2))), (3, .int (xs (6 * i + 3))), (4, .int (xs (6 * i + 4))), (5, .int (xs (6 * i + 5))), (6, .ref 3467)]) (st' := [.int (xs (6 * i + 2)), .int (xs (6 * i + 1)), .ref 0, .int 0, .ref 3467]) (by decide +kernel) rfl rfl ?_
    refine ab_fin.s2 (i := .iload_n 3) (k := 1) (pc' := 7) (lv' := [(0, .ref 0), (1, .int (xs (6 * i + 1))), (2, .int (xs (6 * i + 2))), (3, .int (xs (6 * i + 3))), (4, .int (xs (6 * i + 4))), (5, .int (xs (6 * i + 5))), (6, .ref 3467)]) (st' := [.int (xs (6 * i + 3)), .int (xs (6 * i + 2)), .int (xs (6 * i + 1)), .ref 0, .int 0, .ref 3467]) (by decide +kernel) rfl rfl ?_
    refine ab_fin.s2 (i := .iload 4) (k := 2) (pc' := 9) (lv' := [(0, .ref 0), (1, .int (xs (6 * i + 1))), (2, .int (xs (6 * i + 2))), (3, .int (xs (6 * i + 3))), (4, .int (xs (6 * i + 4))), (5, .int (xs (6 * i + 5))), (6, .ref 3467)]) (st' := [.int (xs (6 * i + 4)), .int (xs (6 * i + 3)), .int (xs (6 * i + 2)), .int (xs (6 * i + 1)), .ref 0, .int 0, .ref 3467]) (by decide +kernel) rfl rfl ?_
    refine ab_fin.s2 (i := .iload 5) (k := 2) (pc' := 11) (lv' := [(0, .ref 0), (1, .int (xs (6 * i + 1))), (2, .int (xs (6 * i + 2))), (3, .int (xs (6 * i + 3))), (4, .int (xs (6 * i + 4))), (5, .int (xs (6 * i + 5))), (6, .ref 3467)]) (st' := [.int (xs (6 * i + 5)), .int (xs (6 * i + 4)), .int (xs (6 * i + 3)), .int (xs (6 * i + 2)), .int (xs (6 * i + 1)), .ref 0, .int 0, .ref 3467]) (by decide +kernel) rfl rfl ?_
    refine ab_fin.call (i := .invokevirtual 7) (k := 3) (y := 3073) (As := [.ref 0, .int (xs (6 * i + 1)), .int (xs (6 * i + 2)), .int (xs (6 * i + 3)), .int (xs (6 * i + 4)), .int (xs (6 * i + 5))]) (rest := [.int 0, .ref 3467]) (M' := (mX12_feed, [])) (by decide +kernel) (ab_cv rfl rfl e13 ⟨(Nat.le_of_ble_eq_true rfl), (Nat.le_of_ble_eq_true rfl)⟩ rfl) rfl (Nat.le_of_ble_eq_true rfl) ?_
    show ab_fin _ _ _ _ 0 [(0, .ref 0), (1, .int (xs (6 * i + 1))), (2, .int (xs (6 * i + 2))), (3, .int (xs (6 * i + 3))), (4, .int (xs (6 * i + 4))), (5, .int (xs (6 * i + 5)))] [] _ _
    refine W0.C hG (fun a => [(0, .ref a), (1, .int (xs (6 * i + 1))), (2, .int (xs (6 * i + 2))), (3, .int (xs (6 * i + 3))), (4, .int (xs (6 * i + 4))), (5, .int (xs (6 * i + 5)))]) (fun g => rfl) hC (fun r0 hc1 fC1 h1 q1 W1 => ?_)
    obtain ⟨x9, e9⟩ := q1.2
    subst e9
    show ab_bk _ _ _ _ _ _ _ _ _ (.inr ("java/lang/IndexOutOfBoundsException", fC1 x9)) _
    refine ab_bk.catch (hp := 19) (by decide +kernel) rfl ?_
    refine ab_fin.s2 (i := .astore 7) (k := 2) (pc' := 21) (lv' := [(7, .ref (fC1 x9)), (0, .ref 0), (1, .int (xs (6 * i + 1))), (2, .int (xs (6 * i + 2))), (3, .int (xs (6 * i + 3))), (4, .int (xs (6 * i + 4))), (5, .int (xs (6 * i + 5))), (6, .ref 3467)]) (st' := []) (by decide +kernel) rfl rfl ?_
    refine ab_fin.s1i (i := .iconst 1) (k := 1) (pc' := 22) (n := 1) (by decide +kernel) rfl (by decide +kernel) rfl ?_
    refine ab_fin.ret (i := .ireturn) (k := 1) (some (.int 1)) (by decide +kernel) rfl ?_
    refine ab_bk.back (pc' := 159) (st' := [.int 1]) rfl rfl ?_
    refine ab_fin.s2 (i := .istore 5) (k := 2) (pc' := 161) (lv' := [(5, .int 1), (4, .int (Int32.ofNat (6 * i))), (3, .ref 3467), (2, .ref 102), (1, .ref 0), (0, .retAddr 9)]) (st' := []) (by decide +kernel) rfl rfl ?_
    refine ab_fin.s2 (i := .aload_n 2) (k := 1) (pc' := 162) (lv' := [(5, .int 1), (4, .int (Int32.ofNat (6 * i))), (3, .ref 3467), (2, .ref 102), (1, .ref 0), (0, .retAddr 9)]) (st' := [.ref 102]) (by decide +kernel) rfl rfl ?_
    refine ab_fin.s2 (i := .aload_n 0) (k := 1) (pc' := 163) (lv' := [(5, .int 1), (4, .int (Int32.ofNat (6 * i))), (3, .ref 3467), (2, .ref 102), (1, .ref 0), (0, .retAddr 9)]) (st' := [.retAddr 9, .ref 102]) (by decide +kernel) rfl rfl ?_
    refine ab_fin.s2 (i := .iload 4) (k := 2) (pc' := 165) (lv' := [(5, .int 1), (4, .int (Int32.ofNat (6 * i))), (3, .ref 3467), (2, .ref 102), (1, .ref 0), (0, .retAddr 9)]) (st' := [.int (Int32.ofNat (6 * i)), .retAddr 9, .ref 102]) (by decide +kernel) rfl rfl ?_
    refine ab_fin.s1i (i := .iconst 1) (k := 1) (pc' := 166) (n := 1) (by decide +kernel) rfl (by decide +kernel) rfl ?_
    refine ab_fin.s1 (i := .iadd) (k := 1) (pc' := 167) (st' := [.int (Int32.ofNat (6 * i) + 1), .retAddr 9, .ref 102]) (by decide +kernel) rfl rfl ?_
    refine ab_fin.s8 (i := .iaload) (k := 1) (pc' := 168) (st' := [.int (xs (6 * i + 1)), .ref 102]) (by decide +kernel) (ab_x0 rfl (ix_v (i := i) (j := 1) (L := L) (y := 1) (by omega) hL rfl).1 (congrArg (fun k => Value.int (xs k)) (ix_v (i := i) (j := 1) (L := L) (y := 1) (by omega) hL rfl).2)) rfl rfl rfl ?_
    refine ab_fin.s2 (i := .aload_n 0) (k := 1) (pc' := 169) (lv' := [(5, .int 1), (4, .int (Int32.ofNat (6 * i))), (3, .ref 3467), (2, .ref 102), (1, .ref 0), (0, .retAddr 9)]) (st' := [.retAddr 9, .int (xs (6 * i + 1)), .ref 102]) (by decide +kernel) rfl rfl ?_
    refine ab_fin.s2 (i := .iload 4) (k := 2) (pc' := 171) (lv' := [(5, .int 1), (4, .int (Int32.ofNat (6 * i))), (3, .ref 3467), (2, .ref 102), (1, .ref 0), (0, .retAddr 9)]) (st' := [.int (Int32.ofNat (6 * i)), .retAddr 9, .int (xs (6 * i + 1)), .ref 102]) (by decide +kernel) rfl rfl ?_
    refine ab_fin.s1i (i := .iconst 2) (k := 1) (pc' := 172) (n := 2) (by decide +kernel) rfl (by decide +kernel) rfl ?_
    refine ab_fin.s1 (i := .iadd) (k := 1) (pc' := 173) (st' := [.int (Int32.ofNat (6 * i) + 2), .retAddr 9, .int (xs (6 * i + 1)), .ref 102]) (by decide +kernel) rfl rfl ?_
    refine ab_fin.s8 (i := .iaload) (k := 1) (pc' := 174) (st' := [.int (xs (6 * i + 2)), .int (xs (6 * i + 1)), .ref 102]) (by decide +kernel) (ab_x0 rfl (ix_v (i := i) (j := 2) (L := L) (y := 2) (by omega) hL rfl).1 (congrArg (fun k => Value.int (xs k)) (ix_v (i := i) (j := 2) (L := L) (y := 2) (by omega) hL rfl).2)) rfl rfl rfl ?_
    refine ab_fin.s2 (i := .aload_n 0) (k := 1) (pc' := 175) (lv' := [(5, .int 1), (4, .int (Int32.ofNat (6 * i))), (3, .ref 3467), (2, .ref 102), (1, .ref 0), (0, .retAddr 9)]) (st' := [.retAddr 9, .int (xs (6 * i + 2)), .int (xs (6 * i + 1)), .ref 102]) (by decide +kernel) rfl rfl ?_
    refine ab_fin.s2 (i := .iload 4) (k := 2) (pc' := 177) (lv' := [(5, .int 1), (4, .int (Int32.ofNat (6 * i))), (3, .ref 3467), (2, .ref 102), (1, .ref 0), (0, .retAddr 9)]) (st' := [.int (Int32.ofNat (6 * i)), .retAddr 9, .int (xs (6 * i + 2)), .int (xs (6 * i + 1)), .ref 102]) (by decide +kernel) rfl rfl ?_
    refine ab_fin.s1i (i := .iconst 3) (k := 1) (pc' := 178) (n := 3) (by decide +kernel) rfl (by decide +kernel) rfl ?_
    refine ab_fin.s1 (i := .iadd) (k := 1) (pc' := 179) (st' := [.int (Int32.ofNat (6 * i) + 3), .retAddr 9, .int (xs (6 * i + 2)), .int (xs (6 * i + 1)), .ref 102]) (by decide +kernel) rfl rfl ?_
    refine ab_fin.s8 (i := .iaload) (k := 1) (pc' := 180) (st' := [.int (xs (6 * i + 3)), .int (xs (6 * i + 2)), .int (xs (6 * i + 1)), .ref 102]) (by decide +kernel) (ab_x0 rfl (ix_v (i := i) (j := 3) (L := L) (y := 3) (by omega) hL rfl).1 (congrArg (fun k => Value.int (xs k)) (ix_v (i := i) (j := 3) (L := L) (y := 3) (by omega) hL rfl).2)) rfl rfl rfl ?_
    refine ab_fin.s2 (i := .aload_n 0) (k := 1) (pc' := 181) (lv' := [(5, .int 1), (4, .int (Int32.ofNat (6 * i))), (3, .ref 3467), (2, .ref 102), (1, .ref 0), (0, .retAddr 9)]) (st' := [.retAddr 9, .int (xs (6 * i + 3)), .int (xs (6 * i + 2)), .int (xs (6 * i + 1)), .ref 102]) (by decide +kernel) rfl rfl ?_
    refine ab_fin.s2 (i := .iload 4) (k := 2) (pc' := 183) (lv' := [(5, .int 1), (4, .int (Int32.ofNat (6 * i))), (3, .ref 3467), (2, .ref 102), (1, .ref 0), (0, .retAddr 9)]) (st' := [.int (Int32.ofNat (6 * i)), .retAddr 9, .int (xs (6 * i + 3)), .int (xs (6 * i + 2)), .int (xs (6 * i + 1)), .ref 102]) (by decide +kernel) rfl rfl ?_
    refine ab_fin.s1i (i := .iconst 4) (k := 1) (pc' := 184) (n := 4) (by decide +kernel) rfl (by decide +kernel) rfl ?_
    refine ab_fin.s1 (i := .iadd) (k := 1) (pc' := 185) (st' := [.int (Int32.ofNat (6 * i) + 4), .retAddr 9, .int (xs (6 * i + 3)), .int (xs (6 * i + 2)), .int (xs (6 * i + 1)), .ref 102]) (by decide +kernel) rfl rfl ?_
    refine ab_fin.s8 (i := .iaload) (k := 1) (pc' := 186) (st' := [.int (xs (6 * i + 4)), .int (xs (6 * i + 3)), .int (xs (6 * i + 2)), .int (xs (6 * i + 1)), .ref 102]) (by decide +kernel) (ab_x0 rfl (ix_v (i := i) (j := 4) (L := L) (y := 4) (by omega) hL rfl).1 (congrArg (fun k => Value.int (xs k)) (ix_v (i := i) (j := 4) (L := L) (y := 4) (by omega) hL rfl).2)) rfl rfl rfl ?_
    refine ab_fin.s2 (i := .aload_n 0) (k := 1) (pc' := 187) (lv' := [(5, .int 1), (4, .int (Int32.ofNat (6 * i))), (3, .ref 3467), (2, .ref 102), (1, .ref 0), (0, .retAddr 9)]) (st' := [.retAddr 9, .int (xs (6 * i + 4)), .int (xs (6 * i + 3)), .int (xs (6 * i + 2)), .int (xs (6 * i + 1)), .ref 102]) (by decide +kernel) rfl rfl ?_
    refine ab_fin.s2 (i := .iload 4) (k := 2) (pc' := 189) (lv' := [(5, .int 1), (4, .int (Int32.ofNat (6 * i))), (3, .ref 3467), (2, .ref 102), (1, .ref 0), (0, .retAddr 9)]) (st' := [.int (Int32.ofNat (6 * i)), .retAddr 9, .int (xs (6 * i + 4)), .int (xs (6 * i + 3)), .int (xs (6 * i + 2)), .int (xs (6 * i + 1)), .ref 102]) (by decide +kernel) rfl rfl ?_
    refine ab_fin.s1i (i := .iconst 5) (k := 1) (pc' := 190) (n := 5) (by decide +kernel) rfl (by decide +kernel) rfl ?_
    refine ab_fin.s1 (i := .iadd) (k := 1) (pc' := 191) (st' := [.int (Int32.ofNat (6 * i) + 5), .retAddr 9, .int (xs (6 * i + 4)), .int (xs (6 * i + 3)), .int (xs (6 * i + 2)), .int (xs (6 * i + 1)), .ref 102]) (by decide +kernel) rfl rfl ?_
    refine ab_fin.s8 (i := .iaload) (k := 1) (pc' := 192) (st' := [.int (xs (6 * i + 5)), .int (xs (6 * i + 4)), .int (xs (6 * i + 3)), .int (xs (6 * i + 2)), .int (xs (6 * i + 1)), .ref 102]) (by decide +kernel) (ab_x0 rfl (ix_v (i := i) (j := 5) (L := L) (y := 5) (by omega) hL rfl).1 (congrArg (fun k => Value.int (xs k)) (ix_v (i := i) (j := 5) (L := L) (y := 5) (by omega) hL rfl).2)) rfl rfl rfl ?_
    refine ab_fin.call (i := .invokevirtual 74) (k := 3) (y := 5994) (As := [.ref 102, .int (xs (6 * i + 1)), .int (xs (6 * i + 2)), .int (xs (6 * i + 3)), .int (xs (6 * i + 4)), .int (xs (6 * i + 5))]) (rest := []) (M' := (mX23_feed, [])) (by decide +kernel) (ab_cv rfl rfl (W1.r0 e24) ⟨(Nat.le_of_ble_eq_true rfl), (Nat.le_of_ble_eq_true rfl)⟩ rfl) rfl (Nat.le_of_ble_eq_true rfl) ?_
    show ab_fin _ _ _ _ 0 [(0, .ref 102), (1, .int (xs (6 * i + 1))), (2, .int (xs (6 * i + 2))), (3, .int (xs (6 * i + 3))), (4, .int (xs (6 * i + 4))), (5, .int (xs (6 * i + 5)))] [] _ _
    refine W1.R hG (fun a => [(0, .ref a), (1, .int (xs (6 * i + 1))), (2, .int (xs (6 * i + 2))), (3, .int (xs (6 * i + 3))), (4, .int (xs (6 * i + 4))), (5, .int (xs (6 * i + 5)))]) (fun g => rfl) hR (fun r0 hr1 fR1 h2 q2 W2 => ?_)
    obtain rfl : r0 = .inl (some (.int 0)) := q2.2.1
    show ab_bk _ _ _ _ _ _ _ _ _ (.inl (some (.int 0))) _
    refine ab_bk.back (pc' := 195) (st' := [.int 0]) rfl rfl ?_
    obtain ⟨fs, t1, t2⟩ := thrR.at W2 q2.2.2
    refine ab_fin.s2 (i := .istore 6) (k := 2) (pc' := 197) (lv' := [(6, .int 0), (5, .int 1), (4, .int (Int32.ofNat (6 * i))), (3, .ref 3467), (2, .ref 102), (1, .ref 0), (0, .retAddr 9)]) (st' := []) (by decide +kernel) rfl rfl ?_
    refine ab_fin.s2 (i := .aload_n 2) (k := 1) (pc' := 198) (lv' := [(6, .int 0), (5, .int 1), (4, .int (Int32.ofNat (6 * i))), (3, .ref 3467), (2, .ref 102), (1, .ref 0), (0, .retAddr 9)]) (st' := [.ref 102]) (by decide +kernel) rfl rfl ?_
    refine ab_fin.call (i := .invokevirtual 75) (k := 3) (y := 5992) (As := [.ref 102]) (rest := []) (M' := (mX23_thrown, [])) (by decide +kernel) (ab_cv rfl rfl t1 ⟨(Nat.le_of_ble_eq_true rfl), (Nat.le_of_ble_eq_true rfl)⟩ rfl) rfl (Nat.le_of_ble_eq_true rfl) ?_
    show ab_fin _ _ _ _ 0 [(0, .ref 102)] [] _ _
    refine ab_fin.s2 (i := .aload_n 0) (k := 1) (pc' := 1) (lv' := [(0, .ref 102)]) (st' := [.ref 102]) (by decide +kernel) rfl rfl ?_
    refine ab_fin.getf (ix := 1000) (k := 110) (v := .int 1) (pc' := 4) (by decide +kernel) rfl t1 t2 rfl ?_
    refine ab_fin.ret (i := .ireturn) (k := 1) (some (.int 1)) (by decide +kernel) rfl ?_
    refine ab_bk.back (pc' := 201) (st' := [.int 1]) rfl rfl ?_
    refine ab_fin.s2 (i := .iload 5) (k := 2) (pc' := 203) (lv' := [(6, .int 0), (5, .int 1), (4, .int (Int32.ofNat (6 * i))), (3, .ref 3467), (2, .ref 102), (1, .ref 0), (0, .retAddr 9)]) (st' := [.int 1, .int 1]) (by decide +kernel) rfl rfl ?_
    refine ab_fin.brT (c := (1 : Int32) = (1 : Int32)) (i := .if_icmp .eq 5) (off := 5) (t := 208) (r := []) (by decide +kernel) rfl (by decide +kernel) rfl ?_
    refine ab_fin.s2 (i := .iload 5) (k := 2) (pc' := 210) (lv' := [(6, .int 0), (5, .int 1), (4, .int (Int32.ofNat (6 * i))), (3, .ref 3467), (2, .ref 102), (1, .ref 0), (0, .retAddr 9)]) (st' := [.int 1]) (by decide +kernel) rfl rfl ?_
    refine ab_fin.brT (c := ¬ (1 : Int32) = 0) (i := .ifCond .ne 15) (off := 15) (t := 225) (r := []) (by decide +kernel) rfl (by decide +kernel) (by decide +kernel) ?_
    refine ab_fin.s3 (i := .goto 865) (k := 3) (t := 1090) (st' := []) (by decide +kernel) (ab_goto (by decide +kernel)) ?_
    refine ab_fin.lv (lv' := [(4, .int (Int32.ofNat (6 * i))), (3, .ref 3467), (2, .ref 102), (1, .ref 0), (0, .retAddr 9)]) ⟨fun q hq => ?_, (by show ([6, 5, 4, 3, 2, 1, 0] : List Nat).Nodup; decide)⟩ (go _ _ _ _ _ _ W2 q1.1 q2.1)
    simp only [List.mem_cons, List.not_mem_nil, or_false] at hq ⊢
    rcases hq with rfl | rfl | rfl | rfl | rfl <;> simp
  · refine ab_fin.s2 (i := .aload_n 1) (k := 1) (pc' := 125) (lv' := [(4, .int (Int32.ofNat (6 * i))), (3, .ref 3467), (2, .ref 102), (1, .ref 0), (0, .retAddr 9)]) (st' := [.ref 0]) (by decide +kernel) rfl rfl ?_
    refine ab_fin.s2 (i := .aload_n 0) (k := 1) (pc' := 126) (lv' := [(4, .int (Int32.ofNat (6 * i))), (3, .ref 3467), (2, .ref 102), (1, .ref 0), (0, .retAddr 9)]) (st' := [.retAddr 9, .ref 0]) (by decide +kernel) rfl rfl ?_
    refine ab_fin.s2 (i := .iload 4) (k := 2) (pc' := 128) (lv' := [(4, .int (Int32.ofNat (6 * i))), (3, .ref 3467), (2, .ref 102), (1, .ref 0), (0, .retAddr 9)]) (st' := [.int (Int32.ofNat (6 * i)), .retAddr 9, .ref 0]) (by decide +kernel) rfl rfl ?_
    refine ab_fin.s1i (i := .iconst 1) (k := 1) (pc' := 129) (n := 1) (by decide +kernel) rfl (by decide +kernel) rfl ?_
    refine ab_fin.s1 (i := .iadd) (k := 1) (pc' := 130) (st' := [.int (Int32.ofNat (6 * i) + 1), .retAddr 9, .ref 0]) (by decide +kernel) rfl rfl ?_
    refine ab_fin.s8 (i := .iaload) (k := 1) (pc' := 131) (st' := [.int (xs (6 * i + 1)), .ref 0]) (by decide +kernel) (ab_x0 rfl (ix_v (i := i) (j := 1) (L := L) (y := 1) (by omega) hL rfl).1 (congrArg (fun k => Value.int (xs k)) (ix_v (i := i) (j := 1) (L := L) (y := 1) (by omega) hL rfl).2)) rfl rfl rfl ?_
    refine ab_fin.s2 (i := .aload_n 0) (k := 1) (pc' := 132) (lv' := [(4, .int (Int32.ofNat (6 * i))), (3, .ref 3467), (2, .ref 102), (1, .ref 0), (0, .retAddr 9)]) (st' := [.retAddr 9, .int (xs (6 * i + 1)), .ref 0]) (by decide +kernel) rfl rfl ?_
    refine ab_fin.s2 (i := .iload 4) (k := 2) (pc' := 134) (lv' := [(4, .int (Int32.ofNat (6 * i))), (3, .ref 3467), (2, .ref 102), (1, .ref 0), (0, .retAddr 9)]) (st' := [.int (Int32.ofNat (6 * i)), .retAddr 9, .int (xs (6 * i + 1)), .ref 0]) (by decide +kernel) rfl rfl ?_
    refine ab_fin.s1i (i := .iconst 2) (k := 1) (pc' := 135) (n := 2) (by decide +kernel) rfl (by decide +kernel) rfl ?_
    refine ab_fin.s1 (i := .iadd) (k := 1) (pc' := 136) (st' := [.int (Int32.ofNat (6 * i) + 2), .retAddr 9, .int (xs (6 * i + 1)), .ref 0]) (by decide +kernel) rfl rfl ?_
    refine ab_fin.s8 (i := .iaload) (k := 1) (pc' := 137) (st' := [.int (xs (6 * i + 2)), .int (xs (6 * i + 1)), .ref 0]) (by decide +kernel) (ab_x0 rfl (ix_v (i := i) (j := 2) (L := L) (y := 2) (by omega) hL rfl).1 (congrArg (fun k => Value.int (xs k)) (ix_v (i := i) (j := 2) (L := L) (y := 2) (by omega) hL rfl).2)) rfl rfl rfl ?_
    refine ab_fin.s2 (i := .aload_n 0) (k := 1) (pc' := 138) (lv' := [(4, .int (Int32.ofNat (6 * i))), (3, .ref 3467), (2, .ref 102), (1, .ref 0), (0, .retAddr 9)]) (st' := [.retAddr 9, .int (xs (6 * i + 2)), .int (xs (6 * i + 1)), .ref 0]) (by decide +kernel) rfl rfl ?_
    refine ab_fin.s2 (i := .iload 4) (k := 2) (pc' := 140) (lv' := [(4, .int (Int32.ofNat (6 * i))), (3, .ref 3467), (2, .ref 102), (1, .ref 0), (0, .retAddr 9)]) (st' := [.int (Int32.ofNat (6 * i)), .retAddr 9, .int (xs (6 * i + 2)), .int (xs (6 * i + 1)), .ref 0]) (by decide +kernel) rfl rfl ?_
    refine ab_fin.s1i (i := .iconst 3) (k := 1) (pc' := 141) (n := 3) (by decide +kernel) rfl (by decide +kernel) rfl ?_
    refine ab_fin.s1 (i := .iadd) (k := 1) (pc' := 142) (st' := [.int (Int32.ofNat (6 * i) + 3), .retAddr 9, .int (xs (6 * i + 2)), .int (xs (6 * i + 1)), .ref 0]) (by decide +kernel) rfl rfl ?_
    refine ab_fin.s8 (i := .iaload) (k := 1) (pc' := 143) (st' := [.int (xs (6 * i + 3)), .int (xs (6 * i + 2)), .int (xs (6 * i + 1)), .ref 0]) (by decide +kernel) (ab_x0 rfl (ix_v (i := i) (j := 3) (L := L) (y := 3) (by omega) hL rfl).1 (congrArg (fun k => Value.int (xs k)) (ix_v (i := i) (j := 3) (L := L) (y := 3) (by omega) hL rfl).2)) rfl rfl rfl ?_
    refine ab_fin.s2 (i := .aload_n 0) (k := 1) (pc' := 144) (lv' := [(4, .int (Int32.ofNat (6 * i))), (3, .ref 3467), (2, .ref 102), (1, .ref 0), (0, .retAddr 9)]) (st' := [.retAddr 9, .int (xs (6 * i + 3)), .int (xs (6 * i + 2)), .int (xs (6 * i + 1)), .ref 0]) (by decide +kernel) rfl rfl ?_
    refine ab_fin.s2 (i := .iload 4) (k := 2) (pc' := 146) (lv' := [(4, .int (Int32.ofNat (6 * i))), (3, .ref 3467), (2, .ref 102), (1, .ref 0), (0, .retAddr 9)]) (st' := [.int (Int32.ofNat (6 * i)), .retAddr 9, .int (xs (6 * i + 3)), .int (xs (6 * i + 2)), .int (xs (6 * i + 1)), .ref 0]) (by decide +kernel) rfl rfl ?_
    refine ab_fin.s1i (i := .iconst 4) (k := 1) (pc' := 147) (n := 4) (by decide +kernel) rfl (by decide +kernel) rfl ?_
    refine ab_fin.s1 (i := .iadd) (k := 1) (pc' := 148) (st' := [.int (Int32.ofNat (6 * i) + 4), .retAddr 9, .int (xs (6 * i + 3)), .int (xs (6 * i + 2)), .int (xs (6 * i + 1)), .ref 0]) (by decide +kernel) rfl rfl ?_
    refine ab_fin.s8 (i := .iaload) (k := 1) (pc' := 149) (st' := [.int (xs (6 * i + 4)), .int (xs (6 * i + 3)), .int (xs (6 * i + 2)), .int (xs (6 * i + 1)), .ref 0]) (by decide +kernel) (ab_x0 rfl (ix_v (i := i) (j := 4) (L := L) (y := 4) (by omega) hL rfl).1 (congrArg (fun k => Value.int (xs k)) (ix_v (i := i) (j := 4) (L := L) (y := 4) (by omega) hL rfl).2)) rfl rfl rfl ?_
    refine ab_fin.s2 (i := .aload_n 0) (k := 1) (pc' := 150) (lv' := [(4, .int (Int32.ofNat (6 * i))), (3, .ref 3467), (2, .ref 102), (1, .ref 0), (0, .retAddr 9)]) (st' := [.retAddr 9, .int (xs (6 * i + 4)), .int (xs (6 * i + 3)), .int (xs (6 * i + 2)), .int (xs (6 * i + 1)), .ref 0]) (by decide +kernel) rfl rfl ?_
    refine ab_fin.s2 (i := .iload 4) (k := 2) (pc' := 152) (lv' := [(4, .int (Int32.ofNat (6 * i))), (3, .ref 3467), (2, .ref 102), (1, .ref 0), (0, .retAddr 9)]) (st' := [.int (Int32.ofNat (6 * i)), .retAddr 9, .int (xs (6 * i + 4)), .int (xs (6 * i + 3)), .int (xs (6 * i + 2)), .int (xs (6 * i + 1)), .ref 0]) (by decide +kernel) rfl rfl ?_
    refine ab_fin.s1i (i := .iconst 5) (k := 1) (pc' := 153) (n := 5) (by decide +kernel) rfl (by decide +kernel) rfl ?_
    refine ab_fin.s1 (i := .iadd) (k := 1) (pc' := 154) (st' := [.int (Int32.ofNat (6 * i) + 5), .retAddr 9, .int (xs (6 * i + 4)), .int (xs (6 * i + 3)), .int (xs (6 * i + 2)), .int (xs (6 * i + 1)), .ref 0]) (by decide +kernel) rfl rfl ?_
    refine ab_fin.s8 (i := .iaload) (k := 1) (pc' := 155) (st' := [.int (xs (6 * i + 5)), .int (xs (6 * i + 4)), .int (xs (6 * i + 3)), .int (xs (6 * i + 2)), .int (xs (6 * i + 1)), .ref 0]) (by decide +kernel) (ab_x0 rfl (ix_v (i := i) (j := 5) (L := L) (y := 5) (by omega) hL rfl).1 (congrArg (fun k => Value.int (xs k)) (ix_v (i := i) (j := 5) (L := L) (y := 5) (by omega) hL rfl).2)) rfl rfl rfl ?_
    refine ab_fin.s2 (i := .aload_n 3) (k := 1) (pc' := 156) (lv' := [(4, .int (Int32.ofNat (6 * i))), (3, .ref 3467), (2, .ref 102), (1, .ref 0), (0, .retAddr 9)]) (st' := [.ref 3467, .int (xs (6 * i + 5)), .int (xs (6 * i + 4)), .int (xs (6 * i + 3)), .int (xs (6 * i + 2)), .int (xs (6 * i + 1)), .ref 0]) (by decide +kernel) rfl rfl ?_
    refine ab_fin.call (i := .invokestatic 69) (k := 3) (y := 13512) (As := [.ref 0, .int (xs (6 * i + 1)), .int (xs (6 * i + 2)), .int (xs (6 * i + 3)), .int (xs (6 * i + 4)), .int (xs (6 * i + 5)), .ref 3467]) (rest := []) (M' := (mL_feed, [(0, 16, 19, 13)])) (by decide +kernel) (ab_cs rfl rfl ⟨(Nat.le_of_ble_eq_true rfl), (Nat.le_of_ble_eq_true rfl)⟩ rfl) rfl (Nat.le_of_ble_eq_true rfl) ?_
    show ab_fin _ _ _ _ 0 [(0, .ref 0), (1, .int (xs (6 * i + 1))), (2, .int (xs (6 * i + 2))), (3, .int (xs (6 * i + 3))), (4, .int (xs (6 * i + 4))), (5, .int (xs (6 * i + 5))), (6, .ref 3467)] [] _ _
    refine ab_fin.s2 (i := .aload 6) (k := 2) (pc' := 2) (lv' := [(0, .ref 0), (1, .int (xs (6 * i + 1))), (2, .int (xs (6 * i + 2))), (3, .int (xs (6 * i + 3))), (4, .int (xs (6 * i + 4))), (5, .int (xs (6 * i + 5))), (6, .ref 3467)]) (st' := [.ref 3467]) (by decide +kernel) rfl rfl ?_
    refine ab_fin.s1i (i := .iconst 0) (k := 1) (pc' := 3) (n := 0) (by decide +kernel) rfl (by decide +kernel) rfl ?_
    refine ab_fin.s2 (i := .aload_n 0) (k := 1) (pc' := 4) (lv' := [(0, .ref 0), (1, .int (xs (6 * i + 1))), (2, .int (xs (6 * i + 2))), (3, .int (xs (6 * i + 3))), (4, .int (xs (6 * i + 4))), (5, .int (xs (6 * i + 5))), (6, .ref 3467)]) (st' := [.ref 0, .int 0, .ref 3467]) (by decide +kernel) rfl rfl ?_
    refine ab_fin.s2 (i := .iload_n 1) (k := 1) (pc' := 5) (lv' := [(0, .ref 0), (1, .int (xs (6 * i + 1))), (2, .int (xs (6 * i + 2))), (3, .int (xs (6 * i + 3))), (4, .int (xs (6 * i + 4))), (5, .int (xs (6 * i + 5))), (6, .ref 3467)]) (st' := [.int (xs (6 * i + 1)), .ref 0, .int 0, .ref 3467]) (by decide +kernel) rfl rfl ?_
    refine ab_fin.s2 (i := .iload_n 2) (k := 1) (pc' := 6) (lv' := [(0, .ref 0), (1, .int (xs (6 * i + 1))), (2, .int (xs (6 * i + 2))), (3, .int (xs (6 * i + 3))), (4, .int (xs (6 * i + 4))), (5, .int (xs (6 * i + 5))), (6, .ref 3467)]) (st' := [.int (xs (6 * i + 2)), .int (xs (6 * i + 1)), .ref 0, .int 0, .ref 3467]) (by decide +kernel) rfl rfl ?_
    refine ab_fin.s2 (i := .iload_n 3) (k := 1) (pc' := 7) (lv' := [(0, .ref 0), (1, .int (xs (6 * i + 1))), (2, .int (xs (6 * i + 2))), (3, .int (xs (6 * i + 3))), (4, .int (xs (6 * i + 4))), (5, .int (xs (6 * i + 5))), (6, .ref 3467)]) (st' := [.int (xs (6 * i + 3)), .int (xs (6 * i + 2)), .int (xs (6 * i + 1)), .ref 0, .int 0, .ref 3467]) (by decide +kernel) rfl rfl ?_
    refine ab_fin.s2 (i := .iload 4) (k := 2) (pc' := 9) (lv' := [(0, .ref 0), (1, .int (xs (6 * i + 1))), (2, .int (xs (6 * i + 2))), (3, .int (xs (6 * i + 3))), (4, .int (xs (6 * i + 4))), (5, .int (xs (6 * i + 5))), (6, .ref 3467)]) (st' := [.int (xs (6 * i + 4)), .int (xs (6 * i + 3)), .int (xs (6 * i + 2)), .int (xs (6 * i + 1)), .ref 0, .int 0, .ref 3467]) (by decide +kernel) rfl rfl ?_
    refine ab_fin.s2 (i := .iload 5) (k := 2) (pc' := 11) (lv' := [(0, .ref 0), (1, .int (xs (6 * i + 1))), (2, .int (xs (6 * i + 2))), (3, .int (xs (6 * i + 3))), (4, .int (xs (6 * i + 4))), (5, .int (xs (6 * i + 5))), (6, .ref 3467)]) (st' := [.int (xs (6 * i + 5)), .int (xs (6 * i + 4)), .int (xs (6 * i + 3)), .int (xs (6 * i + 2)), .int (xs (6 * i + 1)), .ref 0, .int 0, .ref 3467]) (by decide +kernel) rfl rfl ?_
    refine ab_fin.call (i := .invokevirtual 7) (k := 3) (y := 3073) (As := [.ref 0, .int (xs (6 * i + 1)), .int (xs (6 * i + 2)), .int (xs (6 * i + 3)), .int (xs (6 * i + 4)), .int (xs (6 * i + 5))]) (rest := [.int 0, .ref 3467]) (M' := (mX12_feed, [])) (by decide +kernel) (ab_cv rfl rfl e13 ⟨(Nat.le_of_ble_eq_true rfl), (Nat.le_of_ble_eq_true rfl)⟩ rfl) rfl (Nat.le_of_ble_eq_true rfl) ?_
    show ab_fin _ _ _ _ 0 [(0, .ref 0), (1, .int (xs (6 * i + 1))), (2, .int (xs (6 * i + 2))), (3, .int (xs (6 * i + 3))), (4, .int (xs (6 * i + 4))), (5, .int (xs (6 * i + 5)))] [] _ _
    refine W0.C hG (fun a => [(0, .ref a), (1, .int (xs (6 * i + 1))), (2, .int (xs (6 * i + 2))), (3, .int (xs (6 * i + 3))), (4, .int (xs (6 * i + 4))), (5, .int (xs (6 * i + 5)))]) (fun g => rfl) hC (fun r0 hc1 fC1 h1 q1 W1 => ?_)
    obtain rfl : r0 = .inl (some (.int v)) := q1.2
    show ab_bk _ _ _ _ _ _ _ _ _ (.inl (some (.int v))) _
    refine ab_bk.back (pc' := 14) (st' := [.int v, .int 0, .ref 3467]) rfl rfl ?_
    refine ab_fin.s1 (i := .i2l) (k := 1) (pc' := 15) (st' := [.long (v.toInt64), .int 0, .ref 3467]) (by decide +kernel) rfl rfl ?_
    refine ab_fin.last (l := [o]) (h1 := h1.set 3467 (.inr (.inl (1, .inr (.inl [v.toInt64]))))) (pc' := 16) (by decide +kernel) W1.2.2.2.2.1 (hi0 _) rfl rfl ?_
    have W1x := W1.out (v.toInt64)
    refine ab_fin.s3 (i := .goto 7) (k := 3) (t := 23) (st' := []) (by decide +kernel) (ab_goto (by decide +kernel)) ?_
    refine ab_fin.s1i (i := .iconst 0) (k := 1) (pc' := 24) (n := 0) (by decide +kernel) rfl (by decide +kernel) rfl ?_
    refine ab_fin.ret (i := .ireturn) (k := 1) (some (.int 0)) (by decide +kernel) rfl ?_
    refine ab_bk.back (pc' := 159) (st' := [.int 0]) rfl rfl ?_
    refine ab_fin.s2 (i := .istore 5) (k := 2) (pc' := 161) (lv' := [(5, .int 0), (4, .int (Int32.ofNat (6 * i))), (3, .ref 3467), (2, .ref 102), (1, .ref 0), (0, .retAddr 9)]) (st' := []) (by decide +kernel) rfl rfl ?_
    refine ab_fin.s2 (i := .aload_n 2) (k := 1) (pc' := 162) (lv' := [(5, .int 0), (4, .int (Int32.ofNat (6 * i))), (3, .ref 3467), (2, .ref 102), (1, .ref 0), (0, .retAddr 9)]) (st' := [.ref 102]) (by decide +kernel) rfl rfl ?_
    refine ab_fin.s2 (i := .aload_n 0) (k := 1) (pc' := 163) (lv' := [(5, .int 0), (4, .int (Int32.ofNat (6 * i))), (3, .ref 3467), (2, .ref 102), (1, .ref 0), (0, .retAddr 9)]) (st' := [.retAddr 9, .ref 102]) (by decide +kernel) rfl rfl ?_
    refine ab_fin.s2 (i := .iload 4) (k := 2) (pc' := 165) (lv' := [(5, .int 0), (4, .int (Int32.ofNat (6 * i))), (3, .ref 3467), (2, .ref 102), (1, .ref 0), (0, .retAddr 9)]) (st' := [.int (Int32.ofNat (6 * i)), .retAddr 9, .ref 102]) (by decide +kernel) rfl rfl ?_
    refine ab_fin.s1i (i := .iconst 1) (k := 1) (pc' := 166) (n := 1) (by decide +kernel) rfl (by decide +kernel) rfl ?_
    refine ab_fin.s1 (i := .iadd) (k := 1) (pc' := 167) (st' := [.int (Int32.ofNat (6 * i) + 1), .retAddr 9, .ref 102]) (by decide +kernel) rfl rfl ?_
    refine ab_fin.s8 (i := .iaload) (k := 1) (pc' := 168) (st' := [.int (xs (6 * i + 1)), .ref 102]) (by decide +kernel) (ab_x0 rfl (ix_v (i := i) (j := 1) (L := L) (y := 1) (by omega) hL rfl).1 (congrArg (fun k => Value.int (xs k)) (ix_v (i := i) (j := 1) (L := L) (y := 1) (by omega) hL rfl).2)) rfl rfl rfl ?_
    refine ab_fin.s2 (i := .aload_n 0) (k := 1) (pc' := 169) (lv' := [(5, .int 0), (4, .int (Int32.ofNat (6 * i))), (3, .ref 3467), (2, .ref 102), (1, .ref 0), (0, .retAddr 9)]) (st' := [.retAddr 9, .int (xs (6 * i + 1)), .ref 102]) (by decide +kernel) rfl rfl ?_
    refine ab_fin.s2 (i := .iload 4) (k := 2) (pc' := 171) (lv' := [(5, .int 0), (4, .int (Int32.ofNat (6 * i))), (3, .ref 3467), (2, .ref 102), (1, .ref 0), (0, .retAddr 9)]) (st' := [.int (Int32.ofNat (6 * i)), .retAddr 9, .int (xs (6 * i + 1)), .ref 102]) (by decide +kernel) rfl rfl ?_
    refine ab_fin.s1i (i := .iconst 2) (k := 1) (pc' := 172) (n := 2) (by decide +kernel) rfl (by decide +kernel) rfl ?_
    refine ab_fin.s1 (i := .iadd) (k := 1) (pc' := 173) (st' := [.int (Int32.ofNat (6 * i) + 2), .retAddr 9, .int (xs (6 * i + 1)), .ref 102]) (by decide +kernel) rfl rfl ?_
    refine ab_fin.s8 (i := .iaload) (k := 1) (pc' := 174) (st' := [.int (xs (6 * i + 2)), .int (xs (6 * i + 1)), .ref 102]) (by decide +kernel) (ab_x0 rfl (ix_v (i := i) (j := 2) (L := L) (y := 2) (by omega) hL rfl).1 (congrArg (fun k => Value.int (xs k)) (ix_v (i := i) (j := 2) (L := L) (y := 2) (by omega) hL rfl).2)) rfl rfl rfl ?_
    refine ab_fin.s2 (i := .aload_n 0) (k := 1) (pc' := 175) (lv' := [(5, .int 0), (4, .int (Int32.ofNat (6 * i))), (3, .ref 3467), (2, .ref 102), (1, .ref 0), (0, .retAddr 9)]) (st' := [.retAddr 9, .int (xs (6 * i + 2)), .int (xs (6 * i + 1)), .ref 102]) (by decide +kernel) rfl rfl ?_
    refine ab_fin.s2 (i := .iload 4) (k := 2) (pc' := 177) (lv' := [(5, .int 0), (4, .int (Int32.ofNat (6 * i))), (3, .ref 3467), (2, .ref 102), (1, .ref 0), (0, .retAddr 9)]) (st' := [.int (Int32.ofNat (6 * i)), .retAddr 9, .int (xs (6 * i + 2)), .int (xs (6 * i + 1)), .ref 102]) (by decide +kernel) rfl rfl ?_
    refine ab_fin.s1i (i := .iconst 3) (k := 1) (pc' := 178) (n := 3) (by decide +kernel) rfl (by decide +kernel) rfl ?_
    refine ab_fin.s1 (i := .iadd) (k := 1) (pc' := 179) (st' := [.int (Int32.ofNat (6 * i) + 3), .retAddr 9, .int (xs (6 * i + 2)), .int (xs (6 * i + 1)), .ref 102]) (by decide +kernel) rfl rfl ?_
    refine ab_fin.s8 (i := .iaload) (k := 1) (pc' := 180) (st' := [.int (xs (6 * i + 3)), .int (xs (6 * i + 2)), .int (xs (6 * i + 1)), .ref 102]) (by decide +kernel) (ab_x0 rfl (ix_v (i := i) (j := 3) (L := L) (y := 3) (by omega) hL rfl).1 (congrArg (fun k => Value.int (xs k)) (ix_v (i := i) (j := 3) (L := L) (y := 3) (by omega) hL rfl).2)) rfl rfl rfl ?_
    refine ab_fin.s2 (i := .aload_n 0) (k := 1) (pc' := 181) (lv' := [(5, .int 0), (4, .int (Int32.ofNat (6 * i))), (3, .ref 3467), (2, .ref 102), (1, .ref 0), (0, .retAddr 9)]) (st' := [.retAddr 9, .int (xs (6 * i + 3)), .int (xs (6 * i + 2)), .int (xs (6 * i + 1)), .ref 102]) (by decide +kernel) rfl rfl ?_
    refine ab_fin.s2 (i := .iload 4) (k := 2) (pc' := 183) (lv' := [(5, .int 0), (4, .int (Int32.ofNat (6 * i))), (3, .ref 3467), (2, .ref 102), (1, .ref 0), (0, .retAddr 9)]) (st' := [.int (Int32.ofNat (6 * i)), .retAddr 9, .int (xs (6 * i + 3)), .int (xs (6 * i + 2)), .int (xs (6 * i + 1)), .ref 102]) (by decide +kernel) rfl rfl ?_
    refine ab_fin.s1i (i := .iconst 4) (k := 1) (pc' := 184) (n := 4) (by decide +kernel) rfl (by decide +kernel) rfl ?_
    refine ab_fin.s1 (i := .iadd) (k := 1) (pc' := 185) (st' := [.int (Int32.ofNat (6 * i) + 4), .retAddr 9, .int (xs (6 * i + 3)), .int (xs (6 * i + 2)), .int (xs (6 * i + 1)), .ref 102]) (by decide +kernel) rfl rfl ?_
    refine ab_fin.s8 (i := .iaload) (k := 1) (pc' := 186) (st' := [.int (xs (6 * i + 4)), .int (xs (6 * i + 3)), .int (xs (6 * i + 2)), .int (xs (6 * i + 1)), .ref 102]) (by decide +kernel) (ab_x0 rfl (ix_v (i := i) (j := 4) (L := L) (y := 4) (by omega) hL rfl).1 (congrArg (fun k => Value.int (xs k)) (ix_v (i := i) (j := 4) (L := L) (y := 4) (by omega) hL rfl).2)) rfl rfl rfl ?_
    refine ab_fin.s2 (i := .aload_n 0) (k := 1) (pc' := 187) (lv' := [(5, .int 0), (4, .int (Int32.ofNat (6 * i))), (3, .ref 3467), (2, .ref 102), (1, .ref 0), (0, .retAddr 9)]) (st' := [.retAddr 9, .int (xs (6 * i + 4)), .int (xs (6 * i + 3)), .int (xs (6 * i + 2)), .int (xs (6 * i + 1)), .ref 102]) (by decide +kernel) rfl rfl ?_
    refine ab_fin.s2 (i := .iload 4) (k := 2) (pc' := 189) (lv' := [(5, .int 0), (4, .int (Int32.ofNat (6 * i))), (3, .ref 3467), (2, .ref 102), (1, .ref 0), (0, .retAddr 9)]) (st' := [.int (Int32.ofNat (6 * i)), .retAddr 9, .int (xs (6 * i + 4)), .int (xs (6 * i + 3)), .int (xs (6 * i + 2)), .int (xs (6 * i + 1)), .ref 102]) (by decide +kernel) rfl rfl ?_
    refine ab_fin.s1i (i := .iconst 5) (k := 1) (pc' := 190) (n := 5) (by decide +kernel) rfl (by decide +kernel) rfl ?_
    refine ab_fin.s1 (i := .iadd) (k := 1) (pc' := 191) (st' := [.int (Int32.ofNat (6 * i) + 5), .retAddr 9, .int (xs (6 * i + 4)), .int (xs (6 * i + 3)), .int (xs (6 * i + 2)), .int (xs (6 * i + 1)), .ref 102]) (by decide +kernel) rfl rfl ?_
    refine ab_fin.s8 (i := .iaload) (k := 1) (pc' := 192) (st' := [.int (xs (6 * i + 5)), .int (xs (6 * i + 4)), .int (xs (6 * i + 3)), .int (xs (6 * i + 2)), .int (xs (6 * i + 1)), .ref 102]) (by decide +kernel) (ab_x0 rfl (ix_v (i := i) (j := 5) (L := L) (y := 5) (by omega) hL rfl).1 (congrArg (fun k => Value.int (xs k)) (ix_v (i := i) (j := 5) (L := L) (y := 5) (by omega) hL rfl).2)) rfl rfl rfl ?_
    refine ab_fin.call (i := .invokevirtual 74) (k := 3) (y := 5994) (As := [.ref 102, .int (xs (6 * i + 1)), .int (xs (6 * i + 2)), .int (xs (6 * i + 3)), .int (xs (6 * i + 4)), .int (xs (6 * i + 5))]) (rest := []) (M' := (mX23_feed, [])) (by decide +kernel) (ab_cv rfl rfl (W1x.r0 e24) ⟨(Nat.le_of_ble_eq_true rfl), (Nat.le_of_ble_eq_true rfl)⟩ rfl) rfl (Nat.le_of_ble_eq_true rfl) ?_
    show ab_fin _ _ _ _ 0 [(0, .ref 102), (1, .int (xs (6 * i + 1))), (2, .int (xs (6 * i + 2))), (3, .int (xs (6 * i + 3))), (4, .int (xs (6 * i + 4))), (5, .int (xs (6 * i + 5)))] [] _ _
    refine W1x.R hG (fun a => [(0, .ref a), (1, .int (xs (6 * i + 1))), (2, .int (xs (6 * i + 2))), (3, .int (xs (6 * i + 3))), (4, .int (xs (6 * i + 4))), (5, .int (xs (6 * i + 5)))]) (fun g => rfl) hR (fun r0 hr1 fR1 h2 q2 W2 => ?_)
    obtain rfl : r0 = .inl (some (.int v)) := q2.2.1
    show ab_bk _ _ _ _ _ _ _ _ _ (.inl (some (.int v))) _
    refine ab_bk.back (pc' := 195) (st' := [.int v]) rfl rfl ?_
    obtain ⟨fs, t1, t2⟩ := thrR.at W2 q2.2.2
    refine ab_fin.s2 (i := .istore 6) (k := 2) (pc' := 197) (lv' := [(6, .int v), (5, .int 0), (4, .int (Int32.ofNat (6 * i))), (3, .ref 3467), (2, .ref 102), (1, .ref 0), (0, .retAddr 9)]) (st' := []) (by decide +kernel) rfl rfl ?_
    refine ab_fin.s2 (i := .aload_n 2) (k := 1) (pc' := 198) (lv' := [(6, .int v), (5, .int 0), (4, .int (Int32.ofNat (6 * i))), (3, .ref 3467), (2, .ref 102), (1, .ref 0), (0, .retAddr 9)]) (st' := [.ref 102]) (by decide +kernel) rfl rfl ?_
    refine ab_fin.call (i := .invokevirtual 75) (k := 3) (y := 5992) (As := [.ref 102]) (rest := []) (M' := (mX23_thrown, [])) (by decide +kernel) (ab_cv rfl rfl t1 ⟨(Nat.le_of_ble_eq_true rfl), (Nat.le_of_ble_eq_true rfl)⟩ rfl) rfl (Nat.le_of_ble_eq_true rfl) ?_
    show ab_fin _ _ _ _ 0 [(0, .ref 102)] [] _ _
    refine ab_fin.s2 (i := .aload_n 0) (k := 1) (pc' := 1) (lv' := [(0, .ref 102)]) (st' := [.ref 102]) (by decide +kernel) rfl rfl ?_
    refine ab_fin.getf (ix := 1000) (k := 110) (v := .int 0) (pc' := 4) (by decide +kernel) rfl t1 t2 rfl ?_
    refine ab_fin.ret (i := .ireturn) (k := 1) (some (.int 0)) (by decide +kernel) rfl ?_
    refine ab_bk.back (pc' := 201) (st' := [.int 0]) rfl rfl ?_
    refine ab_fin.s2 (i := .iload 5) (k := 2) (pc' := 203) (lv' := [(6, .int v), (5, .int 0), (4, .int (Int32.ofNat (6 * i))), (3, .ref 3467), (2, .ref 102), (1, .ref 0), (0, .retAddr 9)]) (st' := [.int 0, .int 0]) (by decide +kernel) rfl rfl ?_
    refine ab_fin.brT (c := (0 : Int32) = (0 : Int32)) (i := .if_icmp .eq 5) (off := 5) (t := 208) (r := []) (by decide +kernel) rfl (by decide +kernel) rfl ?_
    refine ab_fin.s2 (i := .iload 5) (k := 2) (pc' := 210) (lv' := [(6, .int v), (5, .int 0), (4, .int (Int32.ofNat (6 * i))), (3, .ref 3467), (2, .ref 102), (1, .ref 0), (0, .retAddr 9)]) (st' := [.int 0]) (by decide +kernel) rfl rfl ?_
    refine ab_fin.brF (c := ¬ (0 : Int32) = 0) (i := .ifCond .ne 15) (off := 15) (t := 225) (pc' := 213) (r := []) (by decide +kernel) rfl (by decide +kernel) rfl (by decide +kernel) ?_
    refine ab_fin.s2 (i := .aload_n 3) (k := 1) (pc' := 214) (lv' := [(6, .int v), (5, .int 0), (4, .int (Int32.ofNat (6 * i))), (3, .ref 3467), (2, .ref 102), (1, .ref 0), (0, .retAddr 9)]) (st' := [.ref 3467]) (by decide +kernel) rfl rfl ?_
    refine ab_fin.s1i (i := .iconst 0) (k := 1) (pc' := 215) (n := 0) (by decide +kernel) rfl (by decide +kernel) rfl ?_
    refine ab_fin.lald (l := [v.toInt64]) (v := v.toInt64) (pc' := 216) (by decide +kernel) W2.2.2.2.2.1 (hi0 _) rfl rfl ?_
    refine ab_fin.s2 (i := .iload 6) (k := 2) (pc' := 218) (lv' := [(6, .int v), (5, .int 0), (4, .int (Int32.ofNat (6 * i))), (3, .ref 3467), (2, .ref 102), (1, .ref 0), (0, .retAddr 9)]) (st' := [.int v, .long (v.toInt64)]) (by decide +kernel) rfl rfl ?_
    refine ab_fin.s1 (i := .i2l) (k := 1) (pc' := 219) (st' := [.long (v.toInt64), .long (v.toInt64)]) (by decide +kernel) rfl rfl ?_
    refine ab_fin.s1i (i := .lcmp) (k := 1) (pc' := 220) (n := 0) (by decide +kernel) rfl (lg_c0 _) rfl ?_
    refine ab_fin.brT (c := (0 : Int32) = 0) (i := .ifCond .eq 5) (off := 5) (t := 225) (r := []) (by decide +kernel) rfl (by decide +kernel) (by decide +kernel) ?_
    refine ab_fin.s3 (i := .goto 865) (k := 3) (t := 1090) (st' := []) (by decide +kernel) (ab_goto (by decide +kernel)) ?_
    refine ab_fin.lv (lv' := [(4, .int (Int32.ofNat (6 * i))), (3, .ref 3467), (2, .ref 102), (1, .ref 0), (0, .retAddr 9)]) ⟨fun q hq => ?_, (by show ([6, 5, 4, 3, 2, 1, 0] : List Nat).Nodup; decide)⟩ (go _ _ _ _ _ _ W2 q1.1 q2.1)
    simp only [List.mem_cons, List.not_mem_nil, or_false] at hq ⊢
    rcases hq with rfl | rfl | rfl | rfl | rfl <;> simp
set_option maxRecDepth 100000 in
set_option maxHeartbeats 0 in
theorem lw_program {z4 z5 z6 : Value} {xs : Nat → Int32} {L : Nat} {h hc hr : List ab_E} {o : Int64} {fC fR : Nat → Nat} {PC PR : List ab_E → Prop} {Q : ab_RX → List ab_E → Prop} (hL : L ≤ 3072) (hG : ab_pure (hb_Gz (some z4, some z5, some z6) (some (0, L, fun i => .int (xs i))))) {i : Nat} (hi : 6 * i + 6 ≤ L) (W0 : Two h hc hr o fC fR) (k13 : is13 hc) (k24 : is24 hr) {v : Int32} (hC : ab_fin (hb_Gz (some z4, some z5, some z6) (some (0, L, fun i => .int (xs i)))) hb_GT 2045 (mX12_program, []) 0 [(0, .ref 0)] [] hc (fun r0 h => PC h ∧ r0 = .inl (some (.int v)))) (hR : ab_fin (hb_Gz (some z4, some z5, some z6) (some (0, L, fun i => .int (xs i)))) hb_GT 2045 (mX23_program, [(43, 85, 88, 223)]) 0 [(0, .ref 0)] [] hr (fun r0 h => PR h ∧ r0 = .inl (some (.int v)))) (go : ∀ h' hc' hr' o' fC' fR', Two h' hc' hr' o' fC' fR' → PC hc' → PR hr' → ab_fin (hb_Gz (some z4, some z5, some z6) (some (0, L, fun i => .int (xs i)))) hb_GT 2046 (mL_law, []) 1090 [(4, .int (Int32.ofNat (6 * i))), (3, .ref 3467), (2, .ref 102), (1, .ref 0), (0, .retAddr 9)] [] h' Q) : ab_fin (hb_Gz (some z4, some z5, some z6) (some (0, L, fun i => .int (xs i)))) hb_GT 2046 (mL_law, []) 297 [(4, .int (Int32.ofNat (6 * i))), (3, .ref 3467), (2, .ref 102), (1, .ref 0), (0, .retAddr 9)] [] h Q := by
  obtain ⟨fs13, k13⟩ := k13
  obtain ⟨fs24, e24⟩ := k24
  have e13 := W0.c0 k13
  refine ab_fin.s2 (i := .aload_n 1) (k := 1) (pc' := 298) (lv' := [(4, .int (Int32.ofNat (6 * i))), (3, .ref 3467), (2, .ref 102), (1, .ref 0), (0, .retAddr 9)]) (st' := [.ref 0]) (by decide +kernel) rfl rfl ?_
  refine ab_fin.call (i := .invokevirtual 86) (k := 3) (y := 3077) (As := [.ref 0]) (rest := []) (M' := (mX12_program, [])) (by decide +kernel) (ab_cv rfl rfl e13 ⟨(Nat.le_of_ble_eq_true rfl), (Nat.le_of_ble_eq_true rfl)⟩ rfl) rfl (Nat.le_of_ble_eq_true rfl) ?_
  show ab_fin _ _ _ _ 0 [(0, .ref 0)] [] _ _
  refine W0.C hG (fun a => [(0, .ref a)]) (fun g => rfl) hC (fun r0 hc1 fC1 h1 q1 W1 => ?_)
  obtain rfl : r0 = .inl (some (.int v)) := q1.2
  show ab_bk _ _ _ _ _ _ _ _ _ (.inl (some (.int v))) _
  refine ab_bk.back (pc' := 301) (st' := [.int v]) rfl rfl ?_
  refine ab_fin.s2 (i := .aload_n 2) (k := 1) (pc' := 302) (lv' := [(4, .int (Int32.ofNat (6 * i))), (3, .ref 3467), (2, .ref 102), (1, .ref 0), (0, .retAddr 9)]) (st' := [.ref 102, .int v]) (by decide +kernel) rfl rfl ?_
  refine ab_fin.call (i := .invokevirtual 89) (k := 3) (y := 6093) (As := [.ref 102]) (rest := [.int v]) (M' := (mX23_program, [(43, 85, 88, 223)])) (by decide +kernel) (ab_cv rfl rfl (W1.r0 e24) ⟨(Nat.le_of_ble_eq_true rfl), (Nat.le_of_ble_eq_true rfl)⟩ rfl) rfl (Nat.le_of_ble_eq_true rfl) ?_
  show ab_fin _ _ _ _ 0 [(0, .ref 102)] [] _ _
  refine W1.R hG (fun a => [(0, .ref a)]) (fun g => rfl) hR (fun r0 hr1 fR1 h2 q2 W2 => ?_)
  obtain rfl : r0 = .inl (some (.int v)) := q2.2
  show ab_bk _ _ _ _ _ _ _ _ _ (.inl (some (.int v))) _
  refine ab_bk.back (pc' := 305) (st' := [.int v, .int v]) rfl rfl ?_
  refine ab_fin.brT (c := (v : Int32) = (v : Int32)) (i := .if_icmp .eq 785) (off := 785) (t := 1090) (r := []) (by decide +kernel) rfl (by decide +kernel) rfl ?_
  exact go _ _ _ _ _ _ W2 q1.1 q2.1
set_option maxRecDepth 100000 in
set_option maxHeartbeats 0 in
theorem lw_set {z4 z5 z6 : Value} {xs : Nat → Int32} {L : Nat} {h hc hr : List ab_E} {o : Int64} {fC fR : Nat → Nat} {PC PR : List ab_E → Prop} {Q : ab_RX → List ab_E → Prop} (hL : L ≤ 3072) (hG : ab_pure (hb_Gz (some z4, some z5, some z6) (some (0, L, fun i => .int (xs i))))) {i : Nat} (hi : 6 * i + 6 ≤ L) (W0 : Two h hc hr o fC fR) (k13 : is13 hc) (k24 : is24 hr) {r : Nat ⊕ Int32} (ht : ∀ th, r = .inl th → th = 1) (hC : ab_fin (hb_Gz (some z4, some z5, some z6) (some (0, L, fun i => .int (xs i)))) hb_GT 2044 (mX12_set, []) 0 [(0, .ref 0), (1, .int (xs (6 * i + 1))), (2, .int (xs (6 * i + 2)))] [] hc (AnC "java/lang/IllegalArgumentException" "java/lang/IllegalArgumentException" PC r)) (hR : ab_fin (hb_Gz (some z4, some z5, some z6) (some (0, L, fun i => .int (xs i)))) hb_GT 2045 (mX23_set, []) 0 [(0, .ref 0), (1, .int (xs (6 * i + 1))), (2, .int (xs (6 * i + 2)))] [] hr (AnR PR r)) (go : ∀ h' hc' hr' o' fC' fR', Two h' hc' hr' o' fC' fR' → PC hc' → PR hr' → ab_fin (hb_Gz (some z4, some z5, some z6) (some (0, L, fun i => .int (xs i)))) hb_GT 2046 (mL_law, []) 1090 [(4, .int (Int32.ofNat (6 * i))), (3, .ref 3467), (2, .ref 102), (1, .ref 0), (0, .retAddr 9)] [] h' Q) : ab_fin (hb_Gz (some z4, some z5, some z6) (some (0, L, fun i => .int (xs i)))) hb_GT 2046 (mL_law, []) 384 [(4, .int (Int32.ofNat (6 * i))), (3, .ref 3467), (2, .ref 102), (1, .ref 0), (0, .retAddr 9)] [] h Q := by
  obtain ⟨fs13, k13⟩ := k13
  obtain ⟨fs24, e24⟩ := k24
  have e13 := W0.c0 k13
  rcases r with th | v
  · obtain rfl := ht th rfl
    refine ab_fin.s2 (i := .aload_n 1) (k := 1) (pc' := 385) (lv' := [(4, .int (Int32.ofNat (6 * i))), (3, .ref 3467), (2, .ref 102), (1, .ref 0), (0, .retAddr 9)]) (st' := [.ref 0]) (by decide +kernel) rfl rfl ?_
    refine ab_fin.s2 (i := .aload_n 0) (k := 1) (pc' := 386) (lv' := [(4, .int (Int32.ofNat (6 * i))), (3, .ref 3467), (2, .ref 102), (1, .ref 0), (0, .retAddr 9)]) (st' := [.retAddr 9, .ref 0]) (by decide +kernel) rfl rfl ?_
    refine ab_fin.s2 (i := .iload 4) (k := 2) (pc' := 388) (lv' := [(4, .int (Int32.ofNat (6 * i))), (3, .ref 3467), (2, .ref 102), (1, .ref 0), (0, .retAddr 9)]) (st' := [.int (Int32.ofNat (6 * i)), .retAddr 9, .ref 0]) (by decide +kernel) rfl rfl ?_
    refine ab_fin.s1i (i := .iconst 1) (k := 1) (pc' := 389) (n := 1) (by decide +kernel) rfl (by decide +kernel) rfl ?_
    refine ab_fin.s1 (i := .iadd) (k := 1) (pc' := 390) (st' := [.int (Int32.ofNat (6 * i) + 1), .retAddr 9, .ref 0]) (by decide +kernel) rfl rfl ?_
    refine ab_fin.s8 (i := .iaload) (k := 1) (pc' := 391) (st' := [.int (xs (6 * i + 1)), .ref 0]) (by decide +kernel) (ab_x0 rfl (ix_v (i := i) (j := 1) (L := L) (y := 1) (by omega) hL rfl).1 (congrArg (fun k => Value.int (xs k)) (ix_v (i := i) (j := 1) (L := L) (y := 1) (by omega) hL rfl).2)) rfl rfl rfl ?_
    refine ab_fin.s2 (i := .aload_n 0) (k := 1) (pc' := 392) (lv' := [(4, .int (Int32.ofNat (6 * i))), (3, .ref 3467), (2, .ref 102), (1, .ref 0), (0, .retAddr 9)]) (st' := [.retAddr 9, .int (xs (6 * i + 1)), .ref 0]) (by decide +kernel) rfl rfl ?_
    refine ab_fin.s2 (i := .iload 4) (k := 2) (pc' := 394) (lv' := [(4, .int (Int32.ofNat (6 * i))), (3, .ref 3467), (2, .ref 102), (1, .ref 0), (0, .retAddr 9)]) (st' := [.int (Int32.ofNat (6 * i)), .retAddr 9, .int (xs (6 * i + 1)), .ref 0]) (by decide +kernel) rfl rfl ?_
    refine ab_fin.s1i (i := .iconst 2) (k := 1) (pc' := 395) (n := 2) (by decide +kernel) rfl (by decide +kernel) rfl ?_
    refine ab_fin.s1 (i := .iadd) (k := 1) (pc' := 396) (st' := [.int (Int32.ofNat (6 * i) + 2), .retAddr 9, .int (xs (6 * i + 1)), .ref 0]) (by decide +kernel) rfl rfl ?_
    refine ab_fin.s8 (i := .iaload) (k := 1) (pc' := 397) (st' := [.int (xs (6 * i + 2)), .int (xs (6 * i + 1)), .ref 0]) (by decide +kernel) (ab_x0 rfl (ix_v (i := i) (j := 2) (L := L) (y := 2) (by omega) hL rfl).1 (congrArg (fun k => Value.int (xs k)) (ix_v (i := i) (j := 2) (L := L) (y := 2) (by omega) hL rfl).2)) rfl rfl rfl ?_
    refine ab_fin.s2 (i := .aload_n 3) (k := 1) (pc' := 398) (lv' := [(4, .int (Int32.ofNat (6 * i))), (3, .ref 3467), (2, .ref 102), (1, .ref 0), (0, .retAddr 9)]) (st' := [.ref 3467, .int (xs (6 * i + 2)), .int (xs (6 * i + 1)), .ref 0]) (by decide +kernel) rfl rfl ?_
    refine ab_fin.call (i := .invokestatic 97) (k := 3) (y := 13515) (As := [.ref 0, .int (xs (6 * i + 1)), .int (xs (6 * i + 2)), .ref 3467]) (rest := []) (M' := (mL_set, [(0, 10, 13, 19)])) (by decide +kernel) (ab_cs rfl rfl ⟨(Nat.le_of_ble_eq_true rfl), (Nat.le_of_ble_eq_true rfl)⟩ rfl) rfl (Nat.le_of_ble_eq_true rfl) ?_
    show ab_fin _ _ _ _ 0 [(0, .ref 0), (1, .int (xs (6 * i + 1))), (2, .int (xs (6 * i + 2))), (3, .ref 3467)] [] _ _
    refine ab_fin.s2 (i := .aload_n 3) (k := 1) (pc' := 1) (lv' := [(0, .ref 0), (1, .int (xs (6 * i + 1))), (2, .int (xs (6 * i + 2))), (3, .ref 3467)]) (st' := [.ref 3467]) (by decide +kernel) rfl rfl ?_
    refine ab_fin.s1i (i := .iconst 0) (k := 1) (pc' := 2) (n := 0) (by decide +kernel) rfl (by decide +kernel) rfl ?_
    refine ab_fin.s2 (i := .aload_n 0) (k := 1) (pc' := 3) (lv' := [(0, .ref 0), (1, .int (xs (6 * i + 1))), (2, .int (xs (6 * i + 2))), (3, .ref 3467)]) (st' := [.ref 0, .int 0, .ref 3467]) (by decide +kernel) rfl rfl ?_
    refine ab_fin.s2 (i := .iload_n 1) (k := 1) (pc' := 4) (lv' := [(0, .ref 0), (1, .int (xs (6 * i + 1))), (2, .int (xs (6 * i + 2))), (3, .ref 3467)]) (st' := [.int (xs (6 * i + 1)), .ref 0, .int 0, .ref 3467]) (by decide +kernel) rfl rfl ?_
    refine ab_fin.s2 (i := .iload_n 2) (k := 1) (pc' := 5) (lv' := [(0, .ref 0), (1, .int (xs (6 * i + 1))), (2, .int (xs (6 * i + 2))), (3, .ref 3467)]) (st' := [.int (xs (6 * i + 2)), .int (xs (6 * i + 1)), .ref 0, .int 0, .ref 3467]) (by decide +kernel) rfl rfl ?_
    refine ab_fin.call (i := .invokevirtual 25) (k := 3) (y := 3080) (As := [.ref 0, .int (xs (6 * i + 1)), .int (xs (6 * i + 2))]) (rest := [.int 0, .ref 3467]) (M' := (mX12_set, [])) (by decide +kernel) (ab_cv rfl rfl e13 ⟨(Nat.le_of_ble_eq_true rfl), (Nat.le_of_ble_eq_true rfl)⟩ rfl) rfl (Nat.le_of_ble_eq_true rfl) ?_
    show ab_fin _ _ _ _ 0 [(0, .ref 0), (1, .int (xs (6 * i + 1))), (2, .int (xs (6 * i + 2)))] [] _ _
    refine W0.C hG (fun a => [(0, .ref a), (1, .int (xs (6 * i + 1))), (2, .int (xs (6 * i + 2)))]) (fun g => rfl) hC (fun r0 hc1 fC1 h1 q1 W1 => ?_)
    obtain ⟨x9, e9⟩ := q1.2
    subst e9
    show ab_bk _ _ _ _ _ _ _ _ _ (.inr ("java/lang/IllegalArgumentException", fC1 x9)) _
    refine ab_bk.catch (hp := 13) (by decide +kernel) rfl ?_
    refine ab_fin.s2 (i := .astore 4) (k := 2) (pc' := 15) (lv' := [(4, .ref (fC1 x9)), (0, .ref 0), (1, .int (xs (6 * i + 1))), (2, .int (xs (6 * i + 2))), (3, .ref 3467)]) (st' := []) (by decide +kernel) rfl rfl ?_
    refine ab_fin.s1i (i := .iconst 1) (k := 1) (pc' := 16) (n := 1) (by decide +kernel) rfl (by decide +kernel) rfl ?_
    refine ab_fin.ret (i := .ireturn) (k := 1) (some (.int 1)) (by decide +kernel) rfl ?_
    refine ab_bk.back (pc' := 401) (st' := [.int 1]) rfl rfl ?_
    refine ab_fin.s2 (i := .istore 5) (k := 2) (pc' := 403) (lv' := [(5, .int 1), (4, .int (Int32.ofNat (6 * i))), (3, .ref 3467), (2, .ref 102), (1, .ref 0), (0, .retAddr 9)]) (st' := []) (by decide +kernel) rfl rfl ?_
    refine ab_fin.s2 (i := .aload_n 2) (k := 1) (pc' := 404) (lv' := [(5, .int 1), (4, .int (Int32.ofNat (6 * i))), (3, .ref 3467), (2, .ref 102), (1, .ref 0), (0, .retAddr 9)]) (st' := [.ref 102]) (by decide +kernel) rfl rfl ?_
    refine ab_fin.s2 (i := .aload_n 0) (k := 1) (pc' := 405) (lv' := [(5, .int 1), (4, .int (Int32.ofNat (6 * i))), (3, .ref 3467), (2, .ref 102), (1, .ref 0), (0, .retAddr 9)]) (st' := [.retAddr 9, .ref 102]) (by decide +kernel) rfl rfl ?_
    refine ab_fin.s2 (i := .iload 4) (k := 2) (pc' := 407) (lv' := [(5, .int 1), (4, .int (Int32.ofNat (6 * i))), (3, .ref 3467), (2, .ref 102), (1, .ref 0), (0, .retAddr 9)]) (st' := [.int (Int32.ofNat (6 * i)), .retAddr 9, .ref 102]) (by decide +kernel) rfl rfl ?_
    refine ab_fin.s1i (i := .iconst 1) (k := 1) (pc' := 408) (n := 1) (by decide +kernel) rfl (by decide +kernel) rfl ?_
    refine ab_fin.s1 (i := .iadd) (k := 1) (pc' := 409) (st' := [.int (Int32.ofNat (6 * i) + 1), .retAddr 9, .ref 102]) (by decide +kernel) rfl rfl ?_
    refine ab_fin.s8 (i := .iaload) (k := 1) (pc' := 410) (st' := [.int (xs (6 * i + 1)), .ref 102]) (by decide +kernel) (ab_x0 rfl (ix_v (i := i) (j := 1) (L := L) (y := 1) (by omega) hL rfl).1 (congrArg (fun k => Value.int (xs k)) (ix_v (i := i) (j := 1) (L := L) (y := 1) (by omega) hL rfl).2)) rfl rfl rfl ?_
    refine ab_fin.s2 (i := .aload_n 0) (k := 1) (pc' := 411) (lv' := [(5, .int 1), (4, .int (Int32.ofNat (6 * i))), (3, .ref 3467), (2, .ref 102), (1, .ref 0), (0, .retAddr 9)]) (st' := [.retAddr 9, .int (xs (6 * i + 1)), .ref 102]) (by decide +kernel) rfl rfl ?_
    refine ab_fin.s2 (i := .iload 4) (k := 2) (pc' := 413) (lv' := [(5, .int 1), (4, .int (Int32.ofNat (6 * i))), (3, .ref 3467), (2, .ref 102), (1, .ref 0), (0, .retAddr 9)]) (st' := [.int (Int32.ofNat (6 * i)), .retAddr 9, .int (xs (6 * i + 1)), .ref 102]) (by decide +kernel) rfl rfl ?_
    refine ab_fin.s1i (i := .iconst 2) (k := 1) (pc' := 414) (n := 2) (by decide +kernel) rfl (by decide +kernel) rfl ?_
    refine ab_fin.s1 (i := .iadd) (k := 1) (pc' := 415) (st' := [.int (Int32.ofNat (6 * i) + 2), .retAddr 9, .int (xs (6 * i + 1)), .ref 102]) (by decide +kernel) rfl rfl ?_
    refine ab_fin.s8 (i := .iaload) (k := 1) (pc' := 416) (st' := [.int (xs (6 * i + 2)), .int (xs (6 * i + 1)), .ref 102]) (by decide +kernel) (ab_x0 rfl (ix_v (i := i) (j := 2) (L := L) (y := 2) (by omega) hL rfl).1 (congrArg (fun k => Value.int (xs k)) (ix_v (i := i) (j := 2) (L := L) (y := 2) (by omega) hL rfl).2)) rfl rfl rfl ?_
    refine ab_fin.call (i := .invokevirtual 100) (k := 3) (y := 5999) (As := [.ref 102, .int (xs (6 * i + 1)), .int (xs (6 * i + 2))]) (rest := []) (M' := (mX23_set, [])) (by decide +kernel) (ab_cv rfl rfl (W1.r0 e24) ⟨(Nat.le_of_ble_eq_true rfl), (Nat.le_of_ble_eq_true rfl)⟩ rfl) rfl (Nat.le_of_ble_eq_true rfl) ?_
    show ab_fin _ _ _ _ 0 [(0, .ref 102), (1, .int (xs (6 * i + 1))), (2, .int (xs (6 * i + 2)))] [] _ _
    refine W1.R hG (fun a => [(0, .ref a), (1, .int (xs (6 * i + 1))), (2, .int (xs (6 * i + 2)))]) (fun g => rfl) hR (fun r0 hr1 fR1 h2 q2 W2 => ?_)
    obtain rfl : r0 = .inl (some (.int 0)) := q2.2.1
    show ab_bk _ _ _ _ _ _ _ _ _ (.inl (some (.int 0))) _
    refine ab_bk.back (pc' := 419) (st' := [.int 0]) rfl rfl ?_
    obtain ⟨fs, t1, t2⟩ := thrR.at W2 q2.2.2
    refine ab_fin.s2 (i := .istore 6) (k := 2) (pc' := 421) (lv' := [(6, .int 0), (5, .int 1), (4, .int (Int32.ofNat (6 * i))), (3, .ref 3467), (2, .ref 102), (1, .ref 0), (0, .retAddr 9)]) (st' := []) (by decide +kernel) rfl rfl ?_
    refine ab_fin.s2 (i := .aload_n 2) (k := 1) (pc' := 422) (lv' := [(6, .int 0), (5, .int 1), (4, .int (Int32.ofNat (6 * i))), (3, .ref 3467), (2, .ref 102), (1, .ref 0), (0, .retAddr 9)]) (st' := [.ref 102]) (by decide +kernel) rfl rfl ?_
    refine ab_fin.call (i := .invokevirtual 75) (k := 3) (y := 5992) (As := [.ref 102]) (rest := []) (M' := (mX23_thrown, [])) (by decide +kernel) (ab_cv rfl rfl t1 ⟨(Nat.le_of_ble_eq_true rfl), (Nat.le_of_ble_eq_true rfl)⟩ rfl) rfl (Nat.le_of_ble_eq_true rfl) ?_
    show ab_fin _ _ _ _ 0 [(0, .ref 102)] [] _ _
    refine ab_fin.s2 (i := .aload_n 0) (k := 1) (pc' := 1) (lv' := [(0, .ref 102)]) (st' := [.ref 102]) (by decide +kernel) rfl rfl ?_
    refine ab_fin.getf (ix := 1000) (k := 110) (v := .int 1) (pc' := 4) (by decide +kernel) rfl t1 t2 rfl ?_
    refine ab_fin.ret (i := .ireturn) (k := 1) (some (.int 1)) (by decide +kernel) rfl ?_
    refine ab_bk.back (pc' := 425) (st' := [.int 1]) rfl rfl ?_
    refine ab_fin.s2 (i := .iload 5) (k := 2) (pc' := 427) (lv' := [(6, .int 0), (5, .int 1), (4, .int (Int32.ofNat (6 * i))), (3, .ref 3467), (2, .ref 102), (1, .ref 0), (0, .retAddr 9)]) (st' := [.int 1, .int 1]) (by decide +kernel) rfl rfl ?_
    refine ab_fin.brT (c := (1 : Int32) = (1 : Int32)) (i := .if_icmp .eq 5) (off := 5) (t := 432) (r := []) (by decide +kernel) rfl (by decide +kernel) rfl ?_
    refine ab_fin.s2 (i := .iload 5) (k := 2) (pc' := 434) (lv' := [(6, .int 0), (5, .int 1), (4, .int (Int32.ofNat (6 * i))), (3, .ref 3467), (2, .ref 102), (1, .ref 0), (0, .retAddr 9)]) (st' := [.int 1]) (by decide +kernel) rfl rfl ?_
    refine ab_fin.brT (c := ¬ (1 : Int32) = 0) (i := .ifCond .ne 15) (off := 15) (t := 449) (r := []) (by decide +kernel) rfl (by decide +kernel) (by decide +kernel) ?_
    refine ab_fin.s3 (i := .goto 641) (k := 3) (t := 1090) (st' := []) (by decide +kernel) (ab_goto (by decide +kernel)) ?_
    refine ab_fin.lv (lv' := [(4, .int (Int32.ofNat (6 * i))), (3, .ref 3467), (2, .ref 102), (1, .ref 0), (0, .retAddr 9)]) ⟨fun q hq => ?_, (by show ([6, 5, 4, 3, 2, 1, 0] : List Nat).Nodup; decide)⟩ (go _ _ _ _ _ _ W2 q1.1 q2.1)
    simp only [List.mem_cons, List.not_mem_nil, or_false] at hq ⊢
    rcases hq with rfl | rfl | rfl | rfl | rfl <;> simp
  · refine ab_fin.s2 (i := .aload_n 1) (k := 1) (pc' := 385) (lv' := [(4, .int (Int32.ofNat (6 * i))), (3, .ref 3467), (2, .ref 102), (1, .ref 0), (0, .retAddr 9)]) (st' := [.ref 0]) (by decide +kernel) rfl rfl ?_
    refine ab_fin.s2 (i := .aload_n 0) (k := 1) (pc' := 386) (lv' := [(4, .int (Int32.ofNat (6 * i))), (3, .ref 3467), (2, .ref 102), (1, .ref 0), (0, .retAddr 9)]) (st' := [.retAddr 9, .ref 0]) (by decide +kernel) rfl rfl ?_
    refine ab_fin.s2 (i := .iload 4) (k := 2) (pc' := 388) (lv' := [(4, .int (Int32.ofNat (6 * i))), (3, .ref 3467), (2, .ref 102), (1, .ref 0), (0, .retAddr 9)]) (st' := [.int (Int32.ofNat (6 * i)), .retAddr 9, .ref 0]) (by decide +kernel) rfl rfl ?_
    refine ab_fin.s1i (i := .iconst 1) (k := 1) (pc' := 389) (n := 1) (by decide +kernel) rfl (by decide +kernel) rfl ?_
    refine ab_fin.s1 (i := .iadd) (k := 1) (pc' := 390) (st' := [.int (Int32.ofNat (6 * i) + 1), .retAddr 9, .ref 0]) (by decide +kernel) rfl rfl ?_
    refine ab_fin.s8 (i := .iaload) (k := 1) (pc' := 391) (st' := [.int (xs (6 * i + 1)), .ref 0]) (by decide +kernel) (ab_x0 rfl (ix_v (i := i) (j := 1) (L := L) (y := 1) (by omega) hL rfl).1 (congrArg (fun k => Value.int (xs k)) (ix_v (i := i) (j := 1) (L := L) (y := 1) (by omega) hL rfl).2)) rfl rfl rfl ?_
    refine ab_fin.s2 (i := .aload_n 0) (k := 1) (pc' := 392) (lv' := [(4, .int (Int32.ofNat (6 * i))), (3, .ref 3467), (2, .ref 102), (1, .ref 0), (0, .retAddr 9)]) (st' := [.retAddr 9, .int (xs (6 * i + 1)), .ref 0]) (by decide +kernel) rfl rfl ?_
    refine ab_fin.s2 (i := .iload 4) (k := 2) (pc' := 394) (lv' := [(4, .int (Int32.ofNat (6 * i))), (3, .ref 3467), (2, .ref 102), (1, .ref 0), (0, .retAddr 9)]) (st' := [.int (Int32.ofNat (6 * i)), .retAddr 9, .int (xs (6 * i + 1)), .ref 0]) (by decide +kernel) rfl rfl ?_
    refine ab_fin.s1i (i := .iconst 2) (k := 1) (pc' := 395) (n := 2) (by decide +kernel) rfl (by decide +kernel) rfl ?_
    refine ab_fin.s1 (i := .iadd) (k := 1) (pc' := 396) (st' := [.int (Int32.ofNat (6 * i) + 2), .retAddr 9, .int (xs (6 * i + 1)), .ref 0]) (by decide +kernel) rfl rfl ?_
    refine ab_fin.s8 (i := .iaload) (k := 1) (pc' := 397) (st' := [.int (xs (6 * i + 2)), .int (xs (6 * i + 1)), .ref 0]) (by decide +kernel) (ab_x0 rfl (ix_v (i := i) (j := 2) (L := L) (y := 2) (by omega) hL rfl).1 (congrArg (fun k => Value.int (xs k)) (ix_v (i := i) (j := 2) (L := L) (y := 2) (by omega) hL rfl).2)) rfl rfl rfl ?_
    refine ab_fin.s2 (i := .aload_n 3) (k := 1) (pc' := 398) (lv' := [(4, .int (Int32.ofNat (6 * i))), (3, .ref 3467), (2, .ref 102), (1, .ref 0), (0, .retAddr 9)]) (st' := [.ref 3467, .int (xs (6 * i + 2)), .int (xs (6 * i + 1)), .ref 0]) (by decide +kernel) rfl rfl ?_
    refine ab_fin.call (i := .invokestatic 97) (k := 3) (y := 13515) (As := [.ref 0, .int (xs (6 * i + 1)), .int (xs (6 * i + 2)), .ref 3467]) (rest := []) (M' := (mL_set, [(0, 10, 13, 19)])) (by decide +kernel) (ab_cs rfl rfl ⟨(Nat.le_of_ble_eq_true rfl), (Nat.le_of_ble_eq_true rfl)⟩ rfl) rfl (Nat.le_of_ble_eq_true rfl) ?_
    show ab_fin _ _ _ _ 0 [(0, .ref 0), (1, .int (xs (6 * i + 1))), (2, .int (xs (6 * i + 2))), (3, .ref 3467)] [] _ _
    refine ab_fin.s2 (i := .aload_n 3) (k := 1) (pc' := 1) (lv' := [(0, .ref 0), (1, .int (xs (6 * i + 1))), (2, .int (xs (6 * i + 2))), (3, .ref 3467)]) (st' := [.ref 3467]) (by decide +kernel) rfl rfl ?_
    refine ab_fin.s1i (i := .iconst 0) (k := 1) (pc' := 2) (n := 0) (by decide +kernel) rfl (by decide +kernel) rfl ?_
    refine ab_fin.s2 (i := .aload_n 0) (k := 1) (pc' := 3) (lv' := [(0, .ref 0), (1, .int (xs (6 * i + 1))), (2, .int (xs (6 * i + 2))), (3, .ref 3467)]) (st' := [.ref 0, .int 0, .ref 3467]) (by decide +kernel) rfl rfl ?_
    refine ab_fin.s2 (i := .iload_n 1) (k := 1) (pc' := 4) (lv' := [(0, .ref 0), (1, .int (xs (6 * i + 1))), (2, .int (xs (6 * i + 2))), (3, .ref 3467)]) (st' := [.int (xs (6 * i + 1)), .ref 0, .int 0, .ref 3467]) (by decide +kernel) rfl rfl ?_
    refine ab_fin.s2 (i := .iload_n 2) (k := 1) (pc' := 5) (lv' := [(0, .ref 0), (1, .int (xs (6 * i + 1))), (2, .int (xs (6 * i + 2))), (3, .ref 3467)]) (st' := [.int (xs (6 * i + 2)), .int (xs (6 * i + 1)), .ref 0, .int 0, .ref 3467]) (by decide +kernel) rfl rfl ?_
    refine ab_fin.call (i := .invokevirtual 25) (k := 3) (y := 3080) (As := [.ref 0, .int (xs (6 * i + 1)), .int (xs (6 * i + 2))]) (rest := [.int 0, .ref 3467]) (M' := (mX12_set, [])) (by decide +kernel) (ab_cv rfl rfl e13 ⟨(Nat.le_of_ble_eq_true rfl), (Nat.le_of_ble_eq_true rfl)⟩ rfl) rfl (Nat.le_of_ble_eq_true rfl) ?_
    show ab_fin _ _ _ _ 0 [(0, .ref 0), (1, .int (xs (6 * i + 1))), (2, .int (xs (6 * i + 2)))] [] _ _
    refine W0.C hG (fun a => [(0, .ref a), (1, .int (xs (6 * i + 1))), (2, .int (xs (6 * i + 2)))]) (fun g => rfl) hC (fun r0 hc1 fC1 h1 q1 W1 => ?_)
    obtain rfl : r0 = .inl (some (.int v)) := q1.2
    show ab_bk _ _ _ _ _ _ _ _ _ (.inl (some (.int v))) _
    refine ab_bk.back (pc' := 8) (st' := [.int v, .int 0, .ref 3467]) rfl rfl ?_
    refine ab_fin.s1 (i := .i2l) (k := 1) (pc' := 9) (st' := [.long (v.toInt64), .int 0, .ref 3467]) (by decide +kernel) rfl rfl ?_
    refine ab_fin.last (l := [o]) (h1 := h1.set 3467 (.inr (.inl (1, .inr (.inl [v.toInt64]))))) (pc' := 10) (by decide +kernel) W1.2.2.2.2.1 (hi0 _) rfl rfl ?_
    have W1x := W1.out (v.toInt64)
    refine ab_fin.s3 (i := .goto 7) (k := 3) (t := 17) (st' := []) (by decide +kernel) (ab_goto (by decide +kernel)) ?_
    refine ab_fin.s1i (i := .iconst 0) (k := 1) (pc' := 18) (n := 0) (by decide +kernel) rfl (by decide +kernel) rfl ?_
    refine ab_fin.ret (i := .ireturn) (k := 1) (some (.int 0)) (by decide +kernel) rfl ?_
    refine ab_bk.back (pc' := 401) (st' := [.int 0]) rfl rfl ?_
    refine ab_fin.s2 (i := .istore 5) (k := 2) (pc' := 403) (lv' := [(5, .int 0), (4, .int (Int32.ofNat (6 * i))), (3, .ref 3467), (2, .ref 102), (1, .ref 0), (0, .retAddr 9)]) (st' := []) (by decide +kernel) rfl rfl ?_
    refine ab_fin.s2 (i := .aload_n 2) (k := 1) (pc' := 404) (lv' := [(5, .int 0), (4, .int (Int32.ofNat (6 * i))), (3, .ref 3467), (2, .ref 102), (1, .ref 0), (0, .retAddr 9)]) (st' := [.ref 102]) (by decide +kernel) rfl rfl ?_
    refine ab_fin.s2 (i := .aload_n 0) (k := 1) (pc' := 405) (lv' := [(5, .int 0), (4, .int (Int32.ofNat (6 * i))), (3, .ref 3467), (2, .ref 102), (1, .ref 0), (0, .retAddr 9)]) (st' := [.retAddr 9, .ref 102]) (by decide +kernel) rfl rfl ?_
    refine ab_fin.s2 (i := .iload 4) (k := 2) (pc' := 407) (lv' := [(5, .int 0), (4, .int (Int32.ofNat (6 * i))), (3, .ref 3467), (2, .ref 102), (1, .ref 0), (0, .retAddr 9)]) (st' := [.int (Int32.ofNat (6 * i)), .retAddr 9, .ref 102]) (by decide +kernel) rfl rfl ?_
    refine ab_fin.s1i (i := .iconst 1) (k := 1) (pc' := 408) (n := 1) (by decide +kernel) rfl (by decide +kernel) rfl ?_
    refine ab_fin.s1 (i := .iadd) (k := 1) (pc' := 409) (st' := [.int (Int32.ofNat (6 * i) + 1), .retAddr 9, .ref 102]) (by decide +kernel) rfl rfl ?_
    refine ab_fin.s8 (i := .iaload) (k := 1) (pc' := 410) (st' := [.int (xs (6 * i + 1)), .ref 102]) (by decide +kernel) (ab_x0 rfl (ix_v (i := i) (j := 1) (L := L) (y := 1) (by omega) hL rfl).1 (congrArg (fun k => Value.int (xs k)) (ix_v (i := i) (j := 1) (L := L) (y := 1) (by omega) hL rfl).2)) rfl rfl rfl ?_
    refine ab_fin.s2 (i := .aload_n 0) (k := 1) (pc' := 411) (lv' := [(5, .int 0), (4, .int (Int32.ofNat (6 * i))), (3, .ref 3467), (2, .ref 102), (1, .ref 0), (0, .retAddr 9)]) (st' := [.retAddr 9, .int (xs (6 * i + 1)), .ref 102]) (by decide +kernel) rfl rfl ?_
    refine ab_fin.s2 (i := .iload 4) (k := 2) (pc' := 413) (lv' := [(5, .int 0), (4, .int (Int32.ofNat (6 * i))), (3, .ref 3467), (2, .ref 102), (1, .ref 0), (0, .retAddr 9)]) (st' := [.int (Int32.ofNat (6 * i)), .retAddr 9, .int (xs (6 * i + 1)), .ref 102]) (by decide +kernel) rfl rfl ?_
    refine ab_fin.s1i (i := .iconst 2) (k := 1) (pc' := 414) (n := 2) (by decide +kernel) rfl (by decide +kernel) rfl ?_
    refine ab_fin.s1 (i := .iadd) (k := 1) (pc' := 415) (st' := [.int (Int32.ofNat (6 * i) + 2), .retAddr 9, .int (xs (6 * i + 1)), .ref 102]) (by decide +kernel) rfl rfl ?_
    refine ab_fin.s8 (i := .iaload) (k := 1) (pc' := 416) (st' := [.int (xs (6 * i + 2)), .int (xs (6 * i + 1)), .ref 102]) (by decide +kernel) (ab_x0 rfl (ix_v (i := i) (j := 2) (L := L) (y := 2) (by omega) hL rfl).1 (congrArg (fun k => Value.int (xs k)) (ix_v (i := i) (j := 2) (L := L) (y := 2) (by omega) hL rfl).2)) rfl rfl rfl ?_
    refine ab_fin.call (i := .invokevirtual 100) (k := 3) (y := 5999) (As := [.ref 102, .int (xs (6 * i + 1)), .int (xs (6 * i + 2))]) (rest := []) (M' := (mX23_set, [])) (by decide +kernel) (ab_cv rfl rfl (W1x.r0 e24) ⟨(Nat.le_of_ble_eq_true rfl), (Nat.le_of_ble_eq_true rfl)⟩ rfl) rfl (Nat.le_of_ble_eq_true rfl) ?_
    show ab_fin _ _ _ _ 0 [(0, .ref 102), (1, .int (xs (6 * i + 1))), (2, .int (xs (6 * i + 2)))] [] _ _
    refine W1x.R hG (fun a => [(0, .ref a), (1, .int (xs (6 * i + 1))), (2, .int (xs (6 * i + 2)))]) (fun g => rfl) hR (fun r0 hr1 fR1 h2 q2 W2 => ?_)
    obtain rfl : r0 = .inl (some (.int v)) := q2.2.1
    show ab_bk _ _ _ _ _ _ _ _ _ (.inl (some (.int v))) _
    refine ab_bk.back (pc' := 419) (st' := [.int v]) rfl rfl ?_
    obtain ⟨fs, t1, t2⟩ := thrR.at W2 q2.2.2
    refine ab_fin.s2 (i := .istore 6) (k := 2) (pc' := 421) (lv' := [(6, .int v), (5, .int 0), (4, .int (Int32.ofNat (6 * i))), (3, .ref 3467), (2, .ref 102), (1, .ref 0), (0, .retAddr 9)]) (st' := []) (by decide +kernel) rfl rfl ?_
    refine ab_fin.s2 (i := .aload_n 2) (k := 1) (pc' := 422) (lv' := [(6, .int v), (5, .int 0), (4, .int (Int32.ofNat (6 * i))), (3, .ref 3467), (2, .ref 102), (1, .ref 0), (0, .retAddr 9)]) (st' := [.ref 102]) (by decide +kernel) rfl rfl ?_
    refine ab_fin.call (i := .invokevirtual 75) (k := 3) (y := 5992) (As := [.ref 102]) (rest := []) (M' := (mX23_thrown, [])) (by decide +kernel) (ab_cv rfl rfl t1 ⟨(Nat.le_of_ble_eq_true rfl), (Nat.le_of_ble_eq_true rfl)⟩ rfl) rfl (Nat.le_of_ble_eq_true rfl) ?_
    show ab_fin _ _ _ _ 0 [(0, .ref 102)] [] _ _
    refine ab_fin.s2 (i := .aload_n 0) (k := 1) (pc' := 1) (lv' := [(0, .ref 102)]) (st' := [.ref 102]) (by decide +kernel) rfl rfl ?_
    refine ab_fin.getf (ix := 1000) (k := 110) (v := .int 0) (pc' := 4) (by decide +kernel) rfl t1 t2 rfl ?_
    refine ab_fin.ret (i := .ireturn) (k := 1) (some (.int 0)) (by decide +kernel) rfl ?_
    refine ab_bk.back (pc' := 425) (st' := [.int 0]) rfl rfl ?_
    refine ab_fin.s2 (i := .iload 5) (k := 2) (pc' := 427) (lv' := [(6, .int v), (5, .int 0), (4, .int (Int32.ofNat (6 * i))), (3, .ref 3467), (2, .ref 102), (1, .ref 0), (0, .retAddr 9)]) (st' := [.int 0, .int 0]) (by decide +kernel) rfl rfl ?_
    refine ab_fin.brT (c := (0 : Int32) = (0 : Int32)) (i := .if_icmp .eq 5) (off := 5) (t := 432) (r := []) (by decide +kernel) rfl (by decide +kernel) rfl ?_
    refine ab_fin.s2 (i := .iload 5) (k := 2) (pc' := 434) (lv' := [(6, .int v), (5, .int 0), (4, .int (Int32.ofNat (6 * i))), (3, .ref 3467), (2, .ref 102), (1, .ref 0), (0, .retAddr 9)]) (st' := [.int 0]) (by decide +kernel) rfl rfl ?_
    refine ab_fin.brF (c := ¬ (0 : Int32) = 0) (i := .ifCond .ne 15) (off := 15) (t := 449) (pc' := 437) (r := []) (by decide +kernel) rfl (by decide +kernel) rfl (by decide +kernel) ?_
    refine ab_fin.s2 (i := .aload_n 3) (k := 1) (pc' := 438) (lv' := [(6, .int v), (5, .int 0), (4, .int (Int32.ofNat (6 * i))), (3, .ref 3467), (2, .ref 102), (1, .ref 0), (0, .retAddr 9)]) (st' := [.ref 3467]) (by decide +kernel) rfl rfl ?_
    refine ab_fin.s1i (i := .iconst 0) (k := 1) (pc' := 439) (n := 0) (by decide +kernel) rfl (by decide +kernel) rfl ?_
    refine ab_fin.lald (l := [v.toInt64]) (v := v.toInt64) (pc' := 440) (by decide +kernel) W2.2.2.2.2.1 (hi0 _) rfl rfl ?_
    refine ab_fin.s2 (i := .iload 6) (k := 2) (pc' := 442) (lv' := [(6, .int v), (5, .int 0), (4, .int (Int32.ofNat (6 * i))), (3, .ref 3467), (2, .ref 102), (1, .ref 0), (0, .retAddr 9)]) (st' := [.int v, .long (v.toInt64)]) (by decide +kernel) rfl rfl ?_
    refine ab_fin.s1 (i := .i2l) (k := 1) (pc' := 443) (st' := [.long (v.toInt64), .long (v.toInt64)]) (by decide +kernel) rfl rfl ?_
    refine ab_fin.s1i (i := .lcmp) (k := 1) (pc' := 444) (n := 0) (by decide +kernel) rfl (lg_c0 _) rfl ?_
    refine ab_fin.brT (c := (0 : Int32) = 0) (i := .ifCond .eq 5) (off := 5) (t := 449) (r := []) (by decide +kernel) rfl (by decide +kernel) (by decide +kernel) ?_
    refine ab_fin.s3 (i := .goto 641) (k := 3) (t := 1090) (st' := []) (by decide +kernel) (ab_goto (by decide +kernel)) ?_
    refine ab_fin.lv (lv' := [(4, .int (Int32.ofNat (6 * i))), (3, .ref 3467), (2, .ref 102), (1, .ref 0), (0, .retAddr 9)]) ⟨fun q hq => ?_, (by show ([6, 5, 4, 3, 2, 1, 0] : List Nat).Nodup; decide)⟩ (go _ _ _ _ _ _ W2 q1.1 q2.1)
    simp only [List.mem_cons, List.not_mem_nil, or_false] at hq ⊢
    rcases hq with rfl | rfl | rfl | rfl | rfl <;> simp
set_option maxRecDepth 100000 in
set_option maxHeartbeats 0 in
theorem lw_count {z4 z5 z6 : Value} {xs : Nat → Int32} {L : Nat} {h hc hr : List ab_E} {o : Int64} {fC fR : Nat → Nat} {PC PR : List ab_E → Prop} {Q : ab_RX → List ab_E → Prop} (hL : L ≤ 3072) (hG : ab_pure (hb_Gz (some z4, some z5, some z6) (some (0, L, fun i => .int (xs i))))) {i : Nat} (hi : 6 * i + 6 ≤ L) (W0 : Two h hc hr o fC fR) (k13 : is13 hc) (k24 : is24 hr) {r : Nat ⊕ Int32} (ht : ∀ th, r = .inl th → th = 1) (hC : ab_fin (hb_Gz (some z4, some z5, some z6) (some (0, L, fun i => .int (xs i)))) hb_GT 2044 (mX12_count, []) 0 [(0, .ref 0), (1, .int (xs (6 * i + 1)))] [] hc (AnC "java/lang/IllegalArgumentException" "java/lang/IllegalArgumentException" PC r)) (hR : ab_fin (hb_Gz (some z4, some z5, some z6) (some (0, L, fun i => .int (xs i)))) hb_GT 2045 (mX23_count, []) 0 [(0, .ref 0), (1, .int (xs (6 * i + 1)))] [] hr (AnR PR r)) (go : ∀ h' hc' hr' o' fC' fR', Two h' hc' hr' o' fC' fR' → PC hc' → PR hr' → ab_fin (hb_Gz (some z4, some z5, some z6) (some (0, L, fun i => .int (xs i)))) hb_GT 2046 (mL_law, []) 1090 [(4, .int (Int32.ofNat (6 * i))), (3, .ref 3467), (2, .ref 102), (1, .ref 0), (0, .retAddr 9)] [] h' Q) : ab_fin (hb_Gz (some z4, some z5, some z6) (some (0, L, fun i => .int (xs i)))) hb_GT 2046 (mL_law, []) 452 [(4, .int (Int32.ofNat (6 * i))), (3, .ref 3467), (2, .ref 102), (1, .ref 0), (0, .retAddr 9)] [] h Q := by
  obtain ⟨fs13, k13⟩ := k13
  obtain ⟨fs24, e24⟩ := k24
  have e13 := W0.c0 k13
  rcases r with th | v
  · obtain rfl := ht th rfl
    refine ab_fin.s2 (i := .aload_n 1) (k := 1) (pc' := 453) (lv' := [(4, .int (Int32.ofNat (6 * i))), (3, .ref 3467), (2, .ref 102), (1, .ref 0), (0, .retAddr 9)]) (st' := [.ref 0]) (by decide +kernel) rfl rfl ?_
    refine ab_fin.s2 (i := .aload_n 0) (k := 1) (pc' := 454) (lv' := [(4, .int (Int32.ofNat (6 * i))), (3, .ref 3467), (2, .ref 102), (1, .ref 0), (0, .retAddr 9)]) (st' := [.retAddr 9, .ref 0]) (by decide +kernel) rfl rfl ?_
    refine ab_fin.s2 (i := .iload 4) (k := 2) (pc' := 456) (lv' := [(4, .int (Int32.ofNat (6 * i))), (3, .ref 3467), (2, .ref 102), (1, .ref 0), (0, .retAddr 9)]) (st' := [.int (Int32.ofNat (6 * i)), .retAddr 9, .ref 0]) (by decide +kernel) rfl rfl ?_
    refine ab_fin.s1i (i := .iconst 1) (k := 1) (pc' := 457) (n := 1) (by decide +kernel) rfl (by decide +kernel) rfl ?_
    refine ab_fin.s1 (i := .iadd) (k := 1) (pc' := 458) (st' := [.int (Int32.ofNat (6 * i) + 1), .retAddr 9, .ref 0]) (by decide +kernel) rfl rfl ?_
    refine ab_fin.s8 (i := .iaload) (k := 1) (pc' := 459) (st' := [.int (xs (6 * i + 1)), .ref 0]) (by decide +kernel) (ab_x0 rfl (ix_v (i := i) (j := 1) (L := L) (y := 1) (by omega) hL rfl).1 (congrArg (fun k => Value.int (xs k)) (ix_v (i := i) (j := 1) (L := L) (y := 1) (by omega) hL rfl).2)) rfl rfl rfl ?_
    refine ab_fin.s2 (i := .aload_n 3) (k := 1) (pc' := 460) (lv' := [(4, .int (Int32.ofNat (6 * i))), (3, .ref 3467), (2, .ref 102), (1, .ref 0), (0, .retAddr 9)]) (st' := [.ref 3467, .int (xs (6 * i + 1)), .ref 0]) (by decide +kernel) rfl rfl ?_
    refine ab_fin.call (i := .invokestatic 101) (k := 3) (y := 13516) (As := [.ref 0, .int (xs (6 * i + 1)), .ref 3467]) (rest := []) (M' := (mL_count, [(0, 9, 12, 19)])) (by decide +kernel) (ab_cs rfl rfl ⟨(Nat.le_of_ble_eq_true rfl), (Nat.le_of_ble_eq_true rfl)⟩ rfl) rfl (Nat.le_of_ble_eq_true rfl) ?_
    show ab_fin _ _ _ _ 0 [(0, .ref 0), (1, .int (xs (6 * i + 1))), (2, .ref 3467)] [] _ _
    refine ab_fin.s2 (i := .aload_n 2) (k := 1) (pc' := 1) (lv' := [(0, .ref 0), (1, .int (xs (6 * i + 1))), (2, .ref 3467)]) (st' := [.ref 3467]) (by decide +kernel) rfl rfl ?_
    refine ab_fin.s1i (i := .iconst 0) (k := 1) (pc' := 2) (n := 0) (by decide +kernel) rfl (by decide +kernel) rfl ?_
    refine ab_fin.s2 (i := .aload_n 0) (k := 1) (pc' := 3) (lv' := [(0, .ref 0), (1, .int (xs (6 * i + 1))), (2, .ref 3467)]) (st' := [.ref 0, .int 0, .ref 3467]) (by decide +kernel) rfl rfl ?_
    refine ab_fin.s2 (i := .iload_n 1) (k := 1) (pc' := 4) (lv' := [(0, .ref 0), (1, .int (xs (6 * i + 1))), (2, .ref 3467)]) (st' := [.int (xs (6 * i + 1)), .ref 0, .int 0, .ref 3467]) (by decide +kernel) rfl rfl ?_
    refine ab_fin.call (i := .invokevirtual 29) (k := 3) (y := 3081) (As := [.ref 0, .int (xs (6 * i + 1))]) (rest := [.int 0, .ref 3467]) (M' := (mX12_count, [])) (by decide +kernel) (ab_cv rfl rfl e13 ⟨(Nat.le_of_ble_eq_true rfl), (Nat.le_of_ble_eq_true rfl)⟩ rfl) rfl (Nat.le_of_ble_eq_true rfl) ?_
    show ab_fin _ _ _ _ 0 [(0, .ref 0), (1, .int (xs (6 * i + 1)))] [] _ _
    refine W0.C hG (fun a => [(0, .ref a), (1, .int (xs (6 * i + 1)))]) (fun g => rfl) hC (fun r0 hc1 fC1 h1 q1 W1 => ?_)
    obtain ⟨x9, e9⟩ := q1.2
    subst e9
    show ab_bk _ _ _ _ _ _ _ _ _ (.inr ("java/lang/IllegalArgumentException", fC1 x9)) _
    refine ab_bk.catch (hp := 12) (by decide +kernel) rfl ?_
    refine ab_fin.s2 (i := .astore_n 3) (k := 1) (pc' := 13) (lv' := [(3, .ref (fC1 x9)), (0, .ref 0), (1, .int (xs (6 * i + 1))), (2, .ref 3467)]) (st' := []) (by decide +kernel) rfl rfl ?_
    refine ab_fin.s1i (i := .iconst 1) (k := 1) (pc' := 14) (n := 1) (by decide +kernel) rfl (by decide +kernel) rfl ?_
    refine ab_fin.ret (i := .ireturn) (k := 1) (some (.int 1)) (by decide +kernel) rfl ?_
    refine ab_bk.back (pc' := 463) (st' := [.int 1]) rfl rfl ?_
    refine ab_fin.s2 (i := .istore 5) (k := 2) (pc' := 465) (lv' := [(5, .int 1), (4, .int (Int32.ofNat (6 * i))), (3, .ref 3467), (2, .ref 102), (1, .ref 0), (0, .retAddr 9)]) (st' := []) (by decide +kernel) rfl rfl ?_
    refine ab_fin.s2 (i := .aload_n 2) (k := 1) (pc' := 466) (lv' := [(5, .int 1), (4, .int (Int32.ofNat (6 * i))), (3, .ref 3467), (2, .ref 102), (1, .ref 0), (0, .retAddr 9)]) (st' := [.ref 102]) (by decide +kernel) rfl rfl ?_
    refine ab_fin.s2 (i := .aload_n 0) (k := 1) (pc' := 467) (lv' := [(5, .int 1), (4, .int (Int32.ofNat (6 * i))), (3, .ref 3467), (2, .ref 102), (1, .ref 0), (0, .retAddr 9)]) (st' := [.retAddr 9, .ref 102]) (by decide +kernel) rfl rfl ?_
    refine ab_fin.s2 (i := .iload 4) (k := 2) (pc' := 469) (lv' := [(5, .int 1), (4, .int (Int32.ofNat (6 * i))), (3, .ref 3467), (2, .ref 102), (1, .ref 0), (0, .retAddr 9)]) (st' := [.int (Int32.ofNat (6 * i)), .retAddr 9, .ref 102]) (by decide +kernel) rfl rfl ?_
    refine ab_fin.s1i (i := .iconst 1) (k := 1) (pc' := 470) (n := 1) (by decide +kernel) rfl (by decide +kernel) rfl ?_
    refine ab_fin.s1 (i := .iadd) (k := 1) (pc' := 471) (st' := [.int (Int32.ofNat (6 * i) + 1), .retAddr 9, .ref 102]) (by decide +kernel) rfl rfl ?_
    refine ab_fin.s8 (i := .iaload) (k := 1) (pc' := 472) (st' := [.int (xs (6 * i + 1)), .ref 102]) (by decide +kernel) (ab_x0 rfl (ix_v (i := i) (j := 1) (L := L) (y := 1) (by omega) hL rfl).1 (congrArg (fun k => Value.int (xs k)) (ix_v (i := i) (j := 1) (L := L) (y := 1) (by omega) hL rfl).2)) rfl rfl rfl ?_
    refine ab_fin.call (i := .invokevirtual 103) (k := 3) (y := 6000) (As := [.ref 102, .int (xs (6 * i + 1))]) (rest := []) (M' := (mX23_count, [])) (by decide +kernel) (ab_cv rfl rfl (W1.r0 e24) ⟨(Nat.le_of_ble_eq_true rfl), (Nat.le_of_ble_eq_true rfl)⟩ rfl) rfl (Nat.le_of_ble_eq_true rfl) ?_
    show ab_fin _ _ _ _ 0 [(0, .ref 102), (1, .int (xs (6 * i + 1)))] [] _ _
    refine W1.R hG (fun a => [(0, .ref a), (1, .int (xs (6 * i + 1)))]) (fun g => rfl) hR (fun r0 hr1 fR1 h2 q2 W2 => ?_)
    obtain rfl : r0 = .inl (some (.int 0)) := q2.2.1
    show ab_bk _ _ _ _ _ _ _ _ _ (.inl (some (.int 0))) _
    refine ab_bk.back (pc' := 475) (st' := [.int 0]) rfl rfl ?_
    obtain ⟨fs, t1, t2⟩ := thrR.at W2 q2.2.2
    refine ab_fin.s2 (i := .istore 6) (k := 2) (pc' := 477) (lv' := [(6, .int 0), (5, .int 1), (4, .int (Int32.ofNat (6 * i))), (3, .ref 3467), (2, .ref 102), (1, .ref 0), (0, .retAddr 9)]) (st' := []) (by decide +kernel) rfl rfl ?_
    refine ab_fin.s2 (i := .aload_n 2) (k := 1) (pc' := 478) (lv' := [(6, .int 0), (5, .int 1), (4, .int (Int32.ofNat (6 * i))), (3, .ref 3467), (2, .ref 102), (1, .ref 0), (0, .retAddr 9)]) (st' := [.ref 102]) (by decide +kernel) rfl rfl ?_
    refine ab_fin.call (i := .invokevirtual 75) (k := 3) (y := 5992) (As := [.ref 102]) (rest := []) (M' := (mX23_thrown, [])) (by decide +kernel) (ab_cv rfl rfl t1 ⟨(Nat.le_of_ble_eq_true rfl), (Nat.le_of_ble_eq_true rfl)⟩ rfl) rfl (Nat.le_of_ble_eq_true rfl) ?_
    show ab_fin _ _ _ _ 0 [(0, .ref 102)] [] _ _
    refine ab_fin.s2 (i := .aload_n 0) (k := 1) (pc' := 1) (lv' := [(0, .ref 102)]) (st' := [.ref 102]) (by decide +kernel) rfl rfl ?_
    refine ab_fin.getf (ix := 1000) (k := 110) (v := .int 1) (pc' := 4) (by decide +kernel) rfl t1 t2 rfl ?_
    refine ab_fin.ret (i := .ireturn) (k := 1) (some (.int 1)) (by decide +kernel) rfl ?_
    refine ab_bk.back (pc' := 481) (st' := [.int 1]) rfl rfl ?_
    refine ab_fin.s2 (i := .iload 5) (k := 2) (pc' := 483) (lv' := [(6, .int 0), (5, .int 1), (4, .int (Int32.ofNat (6 * i))), (3, .ref 3467), (2, .ref 102), (1, .ref 0), (0, .retAddr 9)]) (st' := [.int 1, .int 1]) (by decide +kernel) rfl rfl ?_
    refine ab_fin.brT (c := (1 : Int32) = (1 : Int32)) (i := .if_icmp .eq 5) (off := 5) (t := 488) (r := []) (by decide +kernel) rfl (by decide +kernel) rfl ?_
    refine ab_fin.s2 (i := .iload 5) (k := 2) (pc' := 490) (lv' := [(6, .int 0), (5, .int 1), (4, .int (Int32.ofNat (6 * i))), (3, .ref 3467), (2, .ref 102), (1, .ref 0), (0, .retAddr 9)]) (st' := [.int 1]) (by decide +kernel) rfl rfl ?_
    refine ab_fin.brT (c := ¬ (1 : Int32) = 0) (i := .ifCond .ne 15) (off := 15) (t := 505) (r := []) (by decide +kernel) rfl (by decide +kernel) (by decide +kernel) ?_
    refine ab_fin.s3 (i := .goto 585) (k := 3) (t := 1090) (st' := []) (by decide +kernel) (ab_goto (by decide +kernel)) ?_
    refine ab_fin.lv (lv' := [(4, .int (Int32.ofNat (6 * i))), (3, .ref 3467), (2, .ref 102), (1, .ref 0), (0, .retAddr 9)]) ⟨fun q hq => ?_, (by show ([6, 5, 4, 3, 2, 1, 0] : List Nat).Nodup; decide)⟩ (go _ _ _ _ _ _ W2 q1.1 q2.1)
    simp only [List.mem_cons, List.not_mem_nil, or_false] at hq ⊢
    rcases hq with rfl | rfl | rfl | rfl | rfl <;> simp
  · refine ab_fin.s2 (i := .aload_n 1) (k := 1) (pc' := 453) (lv' := [(4, .int (Int32.ofNat (6 * i))), (3, .ref 3467), (2, .ref 102), (1, .ref 0), (0, .retAddr 9)]) (st' := [.ref 0]) (by decide +kernel) rfl rfl ?_
    refine ab_fin.s2 (i := .aload_n 0) (k := 1) (pc' := 454) (lv' := [(4, .int (Int32.ofNat (6 * i))), (3, .ref 3467), (2, .ref 102), (1, .ref 0), (0, .retAddr 9)]) (st' := [.retAddr 9, .ref 0]) (by decide +kernel) rfl rfl ?_
    refine ab_fin.s2 (i := .iload 4) (k := 2) (pc' := 456) (lv' := [(4, .int (Int32.ofNat (6 * i))), (3, .ref 3467), (2, .ref 102), (1, .ref 0), (0, .retAddr 9)]) (st' := [.int (Int32.ofNat (6 * i)), .retAddr 9, .ref 0]) (by decide +kernel) rfl rfl ?_
    refine ab_fin.s1i (i := .iconst 1) (k := 1) (pc' := 457) (n := 1) (by decide +kernel) rfl (by decide +kernel) rfl ?_
    refine ab_fin.s1 (i := .iadd) (k := 1) (pc' := 458) (st' := [.int (Int32.ofNat (6 * i) + 1), .retAddr 9, .ref 0]) (by decide +kernel) rfl rfl ?_
    refine ab_fin.s8 (i := .iaload) (k := 1) (pc' := 459) (st' := [.int (xs (6 * i + 1)), .ref 0]) (by decide +kernel) (ab_x0 rfl (ix_v (i := i) (j := 1) (L := L) (y := 1) (by omega) hL rfl).1 (congrArg (fun k => Value.int (xs k)) (ix_v (i := i) (j := 1) (L := L) (y := 1) (by omega) hL rfl).2)) rfl rfl rfl ?_
    refine ab_fin.s2 (i := .aload_n 3) (k := 1) (pc' := 460) (lv' := [(4, .int (Int32.ofNat (6 * i))), (3, .ref 3467), (2, .ref 102), (1, .ref 0), (0, .retAddr 9)]) (st' := [.ref 3467, .int (xs (6 * i + 1)), .ref 0]) (by decide +kernel) rfl rfl ?_
    refine ab_fin.call (i := .invokestatic 101) (k := 3) (y := 13516) (As := [.ref 0, .int (xs (6 * i + 1)), .ref 3467]) (rest := []) (M' := (mL_count, [(0, 9, 12, 19)])) (by decide +kernel) (ab_cs rfl rfl ⟨(Nat.le_of_ble_eq_true rfl), (Nat.le_of_ble_eq_true rfl)⟩ rfl) rfl (Nat.le_of_ble_eq_true rfl) ?_
    show ab_fin _ _ _ _ 0 [(0, .ref 0), (1, .int (xs (6 * i + 1))), (2, .ref 3467)] [] _ _
    refine ab_fin.s2 (i := .aload_n 2) (k := 1) (pc' := 1) (lv' := [(0, .ref 0), (1, .int (xs (6 * i + 1))), (2, .ref 3467)]) (st' := [.ref 3467]) (by decide +kernel) rfl rfl ?_
    refine ab_fin.s1i (i := .iconst 0) (k := 1) (pc' := 2) (n := 0) (by decide +kernel) rfl (by decide +kernel) rfl ?_
    refine ab_fin.s2 (i := .aload_n 0) (k := 1) (pc' := 3) (lv' := [(0, .ref 0), (1, .int (xs (6 * i + 1))), (2, .ref 3467)]) (st' := [.ref 0, .int 0, .ref 3467]) (by decide +kernel) rfl rfl ?_
    refine ab_fin.s2 (i := .iload_n 1) (k := 1) (pc' := 4) (lv' := [(0, .ref 0), (1, .int (xs (6 * i + 1))), (2, .ref 3467)]) (st' := [.int (xs (6 * i + 1)), .ref 0, .int 0, .ref 3467]) (by decide +kernel) rfl rfl ?_
    refine ab_fin.call (i := .invokevirtual 29) (k := 3) (y := 3081) (As := [.ref 0, .int (xs (6 * i + 1))]) (rest := [.int 0, .ref 3467]) (M' := (mX12_count, [])) (by decide +kernel) (ab_cv rfl rfl e13 ⟨(Nat.le_of_ble_eq_true rfl), (Nat.le_of_ble_eq_true rfl)⟩ rfl) rfl (Nat.le_of_ble_eq_true rfl) ?_
    show ab_fin _ _ _ _ 0 [(0, .ref 0), (1, .int (xs (6 * i + 1)))] [] _ _
    refine W0.C hG (fun a => [(0, .ref a), (1, .int (xs (6 * i + 1)))]) (fun g => rfl) hC (fun r0 hc1 fC1 h1 q1 W1 => ?_)
    obtain rfl : r0 = .inl (some (.int v)) := q1.2
    show ab_bk _ _ _ _ _ _ _ _ _ (.inl (some (.int v))) _
    refine ab_bk.back (pc' := 7) (st' := [.int v, .int 0, .ref 3467]) rfl rfl ?_
    refine ab_fin.s1 (i := .i2l) (k := 1) (pc' := 8) (st' := [.long (v.toInt64), .int 0, .ref 3467]) (by decide +kernel) rfl rfl ?_
    refine ab_fin.last (l := [o]) (h1 := h1.set 3467 (.inr (.inl (1, .inr (.inl [v.toInt64]))))) (pc' := 9) (by decide +kernel) W1.2.2.2.2.1 (hi0 _) rfl rfl ?_
    have W1x := W1.out (v.toInt64)
    refine ab_fin.s3 (i := .goto 6) (k := 3) (t := 15) (st' := []) (by decide +kernel) (ab_goto (by decide +kernel)) ?_
    refine ab_fin.s1i (i := .iconst 0) (k := 1) (pc' := 16) (n := 0) (by decide +kernel) rfl (by decide +kernel) rfl ?_
    refine ab_fin.ret (i := .ireturn) (k := 1) (some (.int 0)) (by decide +kernel) rfl ?_
    refine ab_bk.back (pc' := 463) (st' := [.int 0]) rfl rfl ?_
    refine ab_fin.s2 (i := .istore 5) (k := 2) (pc' := 465) (lv' := [(5, .int 0), (4, .int (Int32.ofNat (6 * i))), (3, .ref 3467), (2, .ref 102), (1, .ref 0), (0, .retAddr 9)]) (st' := []) (by decide +kernel) rfl rfl ?_
    refine ab_fin.s2 (i := .aload_n 2) (k := 1) (pc' := 466) (lv' := [(5, .int 0), (4, .int (Int32.ofNat (6 * i))), (3, .ref 3467), (2, .ref 102), (1, .ref 0), (0, .retAddr 9)]) (st' := [.ref 102]) (by decide +kernel) rfl rfl ?_
    refine ab_fin.s2 (i := .aload_n 0) (k := 1) (pc' := 467) (lv' := [(5, .int 0), (4, .int (Int32.ofNat (6 * i))), (3, .ref 3467), (2, .ref 102), (1, .ref 0), (0, .retAddr 9)]) (st' := [.retAddr 9, .ref 102]) (by decide +kernel) rfl rfl ?_
    refine ab_fin.s2 (i := .iload 4) (k := 2) (pc' := 469) (lv' := [(5, .int 0), (4, .int (Int32.ofNat (6 * i))), (3, .ref 3467), (2, .ref 102), (1, .ref 0), (0, .retAddr 9)]) (st' := [.int (Int32.ofNat (6 * i)), .retAddr 9, .ref 102]) (by decide +kernel) rfl rfl ?_
    refine ab_fin.s1i (i := .iconst 1) (k := 1) (pc' := 470) (n := 1) (by decide +kernel) rfl (by decide +kernel) rfl ?_
    refine ab_fin.s1 (i := .iadd) (k := 1) (pc' := 471) (st' := [.int (Int32.ofNat (6 * i) + 1), .retAddr 9, .ref 102]) (by decide +kernel) rfl rfl ?_
    refine ab_fin.s8 (i := .iaload) (k := 1) (pc' := 472) (st' := [.int (xs (6 * i + 1)), .ref 102]) (by decide +kernel) (ab_x0 rfl (ix_v (i := i) (j := 1) (L := L) (y := 1) (by omega) hL rfl).1 (congrArg (fun k => Value.int (xs k)) (ix_v (i := i) (j := 1) (L := L) (y := 1) (by omega) hL rfl).2)) rfl rfl rfl ?_
    refine ab_fin.call (i := .invokevirtual 103) (k := 3) (y := 6000) (As := [.ref 102, .int (xs (6 * i + 1))]) (rest := []) (M' := (mX23_count, [])) (by decide +kernel) (ab_cv rfl rfl (W1x.r0 e24) ⟨(Nat.le_of_ble_eq_true rfl), (Nat.le_of_ble_eq_true rfl)⟩ rfl) rfl (Nat.le_of_ble_eq_true rfl) ?_
    show ab_fin _ _ _ _ 0 [(0, .ref 102), (1, .int (xs (6 * i + 1)))] [] _ _
    refine W1x.R hG (fun a => [(0, .ref a), (1, .int (xs (6 * i + 1)))]) (fun g => rfl) hR (fun r0 hr1 fR1 h2 q2 W2 => ?_)
    obtain rfl : r0 = .inl (some (.int v)) := q2.2.1
    show ab_bk _ _ _ _ _ _ _ _ _ (.inl (some (.int v))) _
    refine ab_bk.back (pc' := 475) (st' := [.int v]) rfl rfl ?_
    obtain ⟨fs, t1, t2⟩ := thrR.at W2 q2.2.2
    refine ab_fin.s2 (i := .istore 6) (k := 2) (pc' := 477) (lv' := [(6, .int v), (5, .int 0), (4, .int (Int32.ofNat (6 * i))), (3, .ref 3467), (2, .ref 102), (1, .ref 0), (0, .retAddr 9)]) (st' := []) (by decide +kernel) rfl rfl ?_
    refine ab_fin.s2 (i := .aload_n 2) (k := 1) (pc' := 478) (lv' := [(6, .int v), (5, .int 0), (4, .int (Int32.ofNat (6 * i))), (3, .ref 3467), (2, .ref 102), (1, .ref 0), (0, .retAddr 9)]) (st' := [.ref 102]) (by decide +kernel) rfl rfl ?_
    refine ab_fin.call (i := .invokevirtual 75) (k := 3) (y := 5992) (As := [.ref 102]) (rest := []) (M' := (mX23_thrown, [])) (by decide +kernel) (ab_cv rfl rfl t1 ⟨(Nat.le_of_ble_eq_true rfl), (Nat.le_of_ble_eq_true rfl)⟩ rfl) rfl (Nat.le_of_ble_eq_true rfl) ?_
    show ab_fin _ _ _ _ 0 [(0, .ref 102)] [] _ _
    refine ab_fin.s2 (i := .aload_n 0) (k := 1) (pc' := 1) (lv' := [(0, .ref 102)]) (st' := [.ref 102]) (by decide +kernel) rfl rfl ?_
    refine ab_fin.getf (ix := 1000) (k := 110) (v := .int 0) (pc' := 4) (by decide +kernel) rfl t1 t2 rfl ?_
    refine ab_fin.ret (i := .ireturn) (k := 1) (some (.int 0)) (by decide +kernel) rfl ?_
    refine ab_bk.back (pc' := 481) (st' := [.int 0]) rfl rfl ?_
    refine ab_fin.s2 (i := .iload 5) (k := 2) (pc' := 483) (lv' := [(6, .int v), (5, .int 0), (4, .int (Int32.ofNat (6 * i))), (3, .ref 3467), (2, .ref 102), (1, .ref 0), (0, .retAddr 9)]) (st' := [.int 0, .int 0]) (by decide +kernel) rfl rfl ?_
    refine ab_fin.brT (c := (0 : Int32) = (0 : Int32)) (i := .if_icmp .eq 5) (off := 5) (t := 488) (r := []) (by decide +kernel) rfl (by decide +kernel) rfl ?_
    refine ab_fin.s2 (i := .iload 5) (k := 2) (pc' := 490) (lv' := [(6, .int v), (5, .int 0), (4, .int (Int32.ofNat (6 * i))), (3, .ref 3467), (2, .ref 102), (1, .ref 0), (0, .retAddr 9)]) (st' := [.int 0]) (by decide +kernel) rfl rfl ?_
    refine ab_fin.brF (c := ¬ (0 : Int32) = 0) (i := .ifCond .ne 15) (off := 15) (t := 505) (pc' := 493) (r := []) (by decide +kernel) rfl (by decide +kernel) rfl (by decide +kernel) ?_
    refine ab_fin.s2 (i := .aload_n 3) (k := 1) (pc' := 494) (lv' := [(6, .int v), (5, .int 0), (4, .int (Int32.ofNat (6 * i))), (3, .ref 3467), (2, .ref 102), (1, .ref 0), (0, .retAddr 9)]) (st' := [.ref 3467]) (by decide +kernel) rfl rfl ?_
    refine ab_fin.s1i (i := .iconst 0) (k := 1) (pc' := 495) (n := 0) (by decide +kernel) rfl (by decide +kernel) rfl ?_
    refine ab_fin.lald (l := [v.toInt64]) (v := v.toInt64) (pc' := 496) (by decide +kernel) W2.2.2.2.2.1 (hi0 _) rfl rfl ?_
    refine ab_fin.s2 (i := .iload 6) (k := 2) (pc' := 498) (lv' := [(6, .int v), (5, .int 0), (4, .int (Int32.ofNat (6 * i))), (3, .ref 3467), (2, .ref 102), (1, .ref 0), (0, .retAddr 9)]) (st' := [.int v, .long (v.toInt64)]) (by decide +kernel) rfl rfl ?_
    refine ab_fin.s1 (i := .i2l) (k := 1) (pc' := 499) (st' := [.long (v.toInt64), .long (v.toInt64)]) (by decide +kernel) rfl rfl ?_
    refine ab_fin.s1i (i := .lcmp) (k := 1) (pc' := 500) (n := 0) (by decide +kernel) rfl (lg_c0 _) rfl ?_
    refine ab_fin.brT (c := (0 : Int32) = 0) (i := .ifCond .eq 5) (off := 5) (t := 505) (r := []) (by decide +kernel) rfl (by decide +kernel) (by decide +kernel) ?_
    refine ab_fin.s3 (i := .goto 585) (k := 3) (t := 1090) (st' := []) (by decide +kernel) (ab_goto (by decide +kernel)) ?_
    refine ab_fin.lv (lv' := [(4, .int (Int32.ofNat (6 * i))), (3, .ref 3467), (2, .ref 102), (1, .ref 0), (0, .retAddr 9)]) ⟨fun q hq => ?_, (by show ([6, 5, 4, 3, 2, 1, 0] : List Nat).Nodup; decide)⟩ (go _ _ _ _ _ _ W2 q1.1 q2.1)
    simp only [List.mem_cons, List.not_mem_nil, or_false] at hq ⊢
    rcases hq with rfl | rfl | rfl | rfl | rfl <;> simp
set_option maxRecDepth 100000 in
set_option maxHeartbeats 0 in
theorem lw_below {z4 z5 z6 : Value} {xs : Nat → Int32} {L : Nat} {h hc hr : List ab_E} {o : Int64} {fC fR : Nat → Nat} {PC PR : List ab_E → Prop} {Q : ab_RX → List ab_E → Prop} (hL : L ≤ 3072) (hG : ab_pure (hb_Gz (some z4, some z5, some z6) (some (0, L, fun i => .int (xs i))))) {i : Nat} (hi : 6 * i + 6 ≤ L) (W0 : Two h hc hr o fC fR) (k13 : is13 hc) (k24 : is24 hr) {r : Nat ⊕ Int32} (ht : ∀ th, r = .inl th → th = 1) (hb : ∀ v, r = .inr v → v = 0 ∨ v = 1) (hC : ab_fin (hb_Gz (some z4, some z5, some z6) (some (0, L, fun i => .int (xs i)))) hb_GT 2044 (mX12_below, []) 0 [(0, .ref 0), (1, .int (xs (6 * i + 1))), (2, .int (xs (6 * i + 2)))] [] hc (AnC "java/lang/IndexOutOfBoundsException" "java/lang/IndexOutOfBoundsException" PC r)) (hR : ab_fin (hb_Gz (some z4, some z5, some z6) (some (0, L, fun i => .int (xs i)))) hb_GT 2045 (mX23_below, []) 0 [(0, .ref 0), (1, .int (xs (6 * i + 1))), (2, .int (xs (6 * i + 2)))] [] hr (AnR PR r)) (go : ∀ h' hc' hr' o' fC' fR', Two h' hc' hr' o' fC' fR' → PC hc' → PR hr' → ab_fin (hb_Gz (some z4, some z5, some z6) (some (0, L, fun i => .int (xs i)))) hb_GT 2046 (mL_law, []) 1090 [(4, .int (Int32.ofNat (6 * i))), (3, .ref 3467), (2, .ref 102), (1, .ref 0), (0, .retAddr 9)] [] h' Q) : ab_fin (hb_Gz (some z4, some z5, some z6) (some (0, L, fun i => .int (xs i)))) hb_GT 2046 (mL_law, []) 508 [(4, .int (Int32.ofNat (6 * i))), (3, .ref 3467), (2, .ref 102), (1, .ref 0), (0, .retAddr 9)] [] h Q := by
  obtain ⟨fs13, k13⟩ := k13
  obtain ⟨fs24, e24⟩ := k24
  have e13 := W0.c0 k13
  rcases r with th | v
  · obtain rfl := ht th rfl
    refine ab_fin.s2 (i := .aload_n 1) (k := 1) (pc' := 509) (lv' := [(4, .int (Int32.ofNat (6 * i))), (3, .ref 3467), (2, .ref 102), (1, .ref 0), (0, .retAddr 9)]) (st' := [.ref 0]) (by decide +kernel) rfl rfl ?_
    refine ab_fin.s2 (i := .aload_n 0) (k := 1) (pc' := 510) (lv' := [(4, .int (Int32.ofNat (6 * i))), (3, .ref 3467), (2, .ref 102), (1, .ref 0), (0, .retAddr 9)]) (st' := [.retAddr 9, .ref 0]) (by decide +kernel) rfl rfl ?_
    refine ab_fin.s2 (i := .iload 4) (k := 2) (pc' := 512) (lv' := [(4, .int (Int32.ofNat (6 * i))), (3, .ref 3467), (2, .ref 102), (1, .ref 0), (0, .retAddr 9)]) (st' := [.int (Int32.ofNat (6 * i)), .retAddr 9, .ref 0]) (by decide +kernel) rfl rfl ?_
    refine ab_fin.s1i (i := .iconst 1) (k := 1) (pc' := 513) (n := 1) (by decide +kernel) rfl (by decide +kernel) rfl ?_
    refine ab_fin.s1 (i := .iadd) (k := 1) (pc' := 514) (st' := [.int (Int32.ofNat (6 * i) + 1), .retAddr 9, .ref 0]) (by decide +kernel) rfl rfl ?_
    refine ab_fin.s8 (i := .iaload) (k := 1) (pc' := 515) (st' := [.int (xs (6 * i + 1)), .ref 0]) (by decide +kernel) (ab_x0 rfl (ix_v (i := i) (j := 1) (L := L) (y := 1) (by omega) hL rfl).1 (congrArg (fun k => Value.int (xs k)) (ix_v (i := i) (j := 1) (L := L) (y := 1) (by omega) hL rfl).2)) rfl rfl rfl ?_
    refine ab_fin.s2 (i := .aload_n 0) (k := 1) (pc' := 516) (lv' := [(4, .int (Int32.ofNat (6 * i))), (3, .ref 3467), (2, .ref 102), (1, .ref 0), (0, .retAddr 9)]) (st' := [.retAddr 9, .int (xs (6 * i + 1)), .ref 0]) (by decide +kernel) rfl rfl ?_
    refine ab_fin.s2 (i := .iload 4) (k := 2) (pc' := 518) (lv' := [(4, .int (Int32.ofNat (6 * i))), (3, .ref 3467), (2, .ref 102), (1, .ref 0), (0, .retAddr 9)]) (st' := [.int (Int32.ofNat (6 * i)), .retAddr 9, .int (xs (6 * i + 1)), .ref 0]) (by decide +kernel) rfl rfl ?_
    refine ab_fin.s1i (i := .iconst 2) (k := 1) (pc' := 519) (n := 2) (by decide +kernel) rfl (by decide +kernel) rfl ?_
    refine ab_fin.s1 (i := .iadd) (k := 1) (pc' := 520) (st' := [.int (Int32.ofNat (6 * i) + 2), .retAddr 9, .int (xs (6 * i + 1)), .ref 0]) (by decide +kernel) rfl rfl ?_
    refine ab_fin.s8 (i := .iaload) (k := 1) (pc' := 521) (st' := [.int (xs (6 * i + 2)), .int (xs (6 * i + 1)), .ref 0]) (by decide +kernel) (ab_x0 rfl (ix_v (i := i) (j := 2) (L := L) (y := 2) (by omega) hL rfl).1 (congrArg (fun k => Value.int (xs k)) (ix_v (i := i) (j := 2) (L := L) (y := 2) (by omega) hL rfl).2)) rfl rfl rfl ?_
    refine ab_fin.s2 (i := .aload_n 3) (k := 1) (pc' := 522) (lv' := [(4, .int (Int32.ofNat (6 * i))), (3, .ref 3467), (2, .ref 102), (1, .ref 0), (0, .retAddr 9)]) (st' := [.ref 3467, .int (xs (6 * i + 2)), .int (xs (6 * i + 1)), .ref 0]) (by decide +kernel) rfl rfl ?_
    refine ab_fin.call (i := .invokestatic 104) (k := 3) (y := 13517) (As := [.ref 0, .int (xs (6 * i + 1)), .int (xs (6 * i + 2)), .ref 3467]) (rest := []) (M' := (mL_below, [(0, 17, 20, 13)])) (by decide +kernel) (ab_cs rfl rfl ⟨(Nat.le_of_ble_eq_true rfl), (Nat.le_of_ble_eq_true rfl)⟩ rfl) rfl (Nat.le_of_ble_eq_true rfl) ?_
    show ab_fin _ _ _ _ 0 [(0, .ref 0), (1, .int (xs (6 * i + 1))), (2, .int (xs (6 * i + 2))), (3, .ref 3467)] [] _ _
    refine ab_fin.s2 (i := .aload_n 3) (k := 1) (pc' := 1) (lv' := [(0, .ref 0), (1, .int (xs (6 * i + 1))), (2, .int (xs (6 * i + 2))), (3, .ref 3467)]) (st' := [.ref 3467]) (by decide +kernel) rfl rfl ?_
    refine ab_fin.s1i (i := .iconst 0) (k := 1) (pc' := 2) (n := 0) (by decide +kernel) rfl (by decide +kernel) rfl ?_
    refine ab_fin.s2 (i := .aload_n 0) (k := 1) (pc' := 3) (lv' := [(0, .ref 0), (1, .int (xs (6 * i + 1))), (2, .int (xs (6 * i + 2))), (3, .ref 3467)]) (st' := [.ref 0, .int 0, .ref 3467]) (by decide +kernel) rfl rfl ?_
    refine ab_fin.s2 (i := .iload_n 1) (k := 1) (pc' := 4) (lv' := [(0, .ref 0), (1, .int (xs (6 * i + 1))), (2, .int (xs (6 * i + 2))), (3, .ref 3467)]) (st' := [.int (xs (6 * i + 1)), .ref 0, .int 0, .ref 3467]) (by decide +kernel) rfl rfl ?_
    refine ab_fin.s2 (i := .iload_n 2) (k := 1) (pc' := 5) (lv' := [(0, .ref 0), (1, .int (xs (6 * i + 1))), (2, .int (xs (6 * i + 2))), (3, .ref 3467)]) (st' := [.int (xs (6 * i + 2)), .int (xs (6 * i + 1)), .ref 0, .int 0, .ref 3467]) (by decide +kernel) rfl rfl ?_
    refine ab_fin.call (i := .invokevirtual 32) (k := 3) (y := 3082) (As := [.ref 0, .int (xs (6 * i + 1)), .int (xs (6 * i + 2))]) (rest := [.int 0, .ref 3467]) (M' := (mX12_below, [])) (by decide +kernel) (ab_cv rfl rfl e13 ⟨(Nat.le_of_ble_eq_true rfl), (Nat.le_of_ble_eq_true rfl)⟩ rfl) rfl (Nat.le_of_ble_eq_true rfl) ?_
    show ab_fin _ _ _ _ 0 [(0, .ref 0), (1, .int (xs (6 * i + 1))), (2, .int (xs (6 * i + 2)))] [] _ _
    refine W0.C hG (fun a => [(0, .ref a), (1, .int (xs (6 * i + 1))), (2, .int (xs (6 * i + 2)))]) (fun g => rfl) hC (fun r0 hc1 fC1 h1 q1 W1 => ?_)
    obtain ⟨x9, e9⟩ := q1.2
    subst e9
    show ab_bk _ _ _ _ _ _ _ _ _ (.inr ("java/lang/IndexOutOfBoundsException", fC1 x9)) _
    refine ab_bk.catch (hp := 20) (by decide +kernel) rfl ?_
    refine ab_fin.s2 (i := .astore 4) (k := 2) (pc' := 22) (lv' := [(4, .ref (fC1 x9)), (0, .ref 0), (1, .int (xs (6 * i + 1))), (2, .int (xs (6 * i + 2))), (3, .ref 3467)]) (st' := []) (by decide +kernel) rfl rfl ?_
    refine ab_fin.s1i (i := .iconst 1) (k := 1) (pc' := 23) (n := 1) (by decide +kernel) rfl (by decide +kernel) rfl ?_
    refine ab_fin.ret (i := .ireturn) (k := 1) (some (.int 1)) (by decide +kernel) rfl ?_
    refine ab_bk.back (pc' := 525) (st' := [.int 1]) rfl rfl ?_
    refine ab_fin.s2 (i := .istore 5) (k := 2) (pc' := 527) (lv' := [(5, .int 1), (4, .int (Int32.ofNat (6 * i))), (3, .ref 3467), (2, .ref 102), (1, .ref 0), (0, .retAddr 9)]) (st' := []) (by decide +kernel) rfl rfl ?_
    refine ab_fin.s2 (i := .aload_n 2) (k := 1) (pc' := 528) (lv' := [(5, .int 1), (4, .int (Int32.ofNat (6 * i))), (3, .ref 3467), (2, .ref 102), (1, .ref 0), (0, .retAddr 9)]) (st' := [.ref 102]) (by decide +kernel) rfl rfl ?_
    refine ab_fin.s2 (i := .aload_n 0) (k := 1) (pc' := 529) (lv' := [(5, .int 1), (4, .int (Int32.ofNat (6 * i))), (3, .ref 3467), (2, .ref 102), (1, .ref 0), (0, .retAddr 9)]) (st' := [.retAddr 9, .ref 102]) (by decide +kernel) rfl rfl ?_
    refine ab_fin.s2 (i := .iload 4) (k := 2) (pc' := 531) (lv' := [(5, .int 1), (4, .int (Int32.ofNat (6 * i))), (3, .ref 3467), (2, .ref 102), (1, .ref 0), (0, .retAddr 9)]) (st' := [.int (Int32.ofNat (6 * i)), .retAddr 9, .ref 102]) (by decide +kernel) rfl rfl ?_
    refine ab_fin.s1i (i := .iconst 1) (k := 1) (pc' := 532) (n := 1) (by decide +kernel) rfl (by decide +kernel) rfl ?_
    refine ab_fin.s1 (i := .iadd) (k := 1) (pc' := 533) (st' := [.int (Int32.ofNat (6 * i) + 1), .retAddr 9, .ref 102]) (by decide +kernel) rfl rfl ?_
    refine ab_fin.s8 (i := .iaload) (k := 1) (pc' := 534) (st' := [.int (xs (6 * i + 1)), .ref 102]) (by decide +kernel) (ab_x0 rfl (ix_v (i := i) (j := 1) (L := L) (y := 1) (by omega) hL rfl).1 (congrArg (fun k => Value.int (xs k)) (ix_v (i := i) (j := 1) (L := L) (y := 1) (by omega) hL rfl).2)) rfl rfl rfl ?_
    refine ab_fin.s2 (i := .aload_n 0) (k := 1) (pc' := 535) (lv' := [(5, .int 1), (4, .int (Int32.ofNat (6 * i))), (3, .ref 3467), (2, .ref 102), (1, .ref 0), (0, .retAddr 9)]) (st' := [.retAddr 9, .int (xs (6 * i + 1)), .ref 102]) (by decide +kernel) rfl rfl ?_
    refine ab_fin.s2 (i := .iload 4) (k := 2) (pc' := 537) (lv' := [(5, .int 1), (4, .int (Int32.ofNat (6 * i))), (3, .ref 3467), (2, .ref 102), (1, .ref 0), (0, .retAddr 9)]) (st' := [.int (Int32.ofNat (6 * i)), .retAddr 9, .int (xs (6 * i + 1)), .ref 102]) (by decide +kernel) rfl rfl ?_
    refine ab_fin.s1i (i := .iconst 2) (k := 1) (pc' := 538) (n := 2) (by decide +kernel) rfl (by decide +kernel) rfl ?_
    refine ab_fin.s1 (i := .iadd) (k := 1) (pc' := 539) (st' := [.int (Int32.ofNat (6 * i) + 2), .retAddr 9, .int (xs (6 * i + 1)), .ref 102]) (by decide +kernel) rfl rfl ?_
    refine ab_fin.s8 (i := .iaload) (k := 1) (pc' := 540) (st' := [.int (xs (6 * i + 2)), .int (xs (6 * i + 1)), .ref 102]) (by decide +kernel) (ab_x0 rfl (ix_v (i := i) (j := 2) (L := L) (y := 2) (by omega) hL rfl).1 (congrArg (fun k => Value.int (xs k)) (ix_v (i := i) (j := 2) (L := L) (y := 2) (by omega) hL rfl).2)) rfl rfl rfl ?_
    refine ab_fin.call (i := .invokevirtual 106) (k := 3) (y := 6002) (As := [.ref 102, .int (xs (6 * i + 1)), .int (xs (6 * i + 2))]) (rest := []) (M' := (mX23_below, [])) (by decide +kernel) (ab_cv rfl rfl (W1.r0 e24) ⟨(Nat.le_of_ble_eq_true rfl), (Nat.le_of_ble_eq_true rfl)⟩ rfl) rfl (Nat.le_of_ble_eq_true rfl) ?_
    show ab_fin _ _ _ _ 0 [(0, .ref 102), (1, .int (xs (6 * i + 1))), (2, .int (xs (6 * i + 2)))] [] _ _
    refine W1.R hG (fun a => [(0, .ref a), (1, .int (xs (6 * i + 1))), (2, .int (xs (6 * i + 2)))]) (fun g => rfl) hR (fun r0 hr1 fR1 h2 q2 W2 => ?_)
    obtain rfl : r0 = .inl (some (.int 0)) := q2.2.1
    show ab_bk _ _ _ _ _ _ _ _ _ (.inl (some (.int 0))) _
    refine ab_bk.back (pc' := 543) (st' := [.int 0]) rfl rfl ?_
    obtain ⟨fs, t1, t2⟩ := thrR.at W2 q2.2.2
    refine ab_fin.s2 (i := .istore 6) (k := 2) (pc' := 545) (lv' := [(6, .int 0), (5, .int 1), (4, .int (Int32.ofNat (6 * i))), (3, .ref 3467), (2, .ref 102), (1, .ref 0), (0, .retAddr 9)]) (st' := []) (by decide +kernel) rfl rfl ?_
    refine ab_fin.s2 (i := .aload_n 2) (k := 1) (pc' := 546) (lv' := [(6, .int 0), (5, .int 1), (4, .int (Int32.ofNat (6 * i))), (3, .ref 3467), (2, .ref 102), (1, .ref 0), (0, .retAddr 9)]) (st' := [.ref 102]) (by decide +kernel) rfl rfl ?_
    refine ab_fin.call (i := .invokevirtual 75) (k := 3) (y := 5992) (As := [.ref 102]) (rest := []) (M' := (mX23_thrown, [])) (by decide +kernel) (ab_cv rfl rfl t1 ⟨(Nat.le_of_ble_eq_true rfl), (Nat.le_of_ble_eq_true rfl)⟩ rfl) rfl (Nat.le_of_ble_eq_true rfl) ?_
    show ab_fin _ _ _ _ 0 [(0, .ref 102)] [] _ _
    refine ab_fin.s2 (i := .aload_n 0) (k := 1) (pc' := 1) (lv' := [(0, .ref 102)]) (st' := [.ref 102]) (by decide +kernel) rfl rfl ?_
    refine ab_fin.getf (ix := 1000) (k := 110) (v := .int 1) (pc' := 4) (by decide +kernel) rfl t1 t2 rfl ?_
    refine ab_fin.ret (i := .ireturn) (k := 1) (some (.int 1)) (by decide +kernel) rfl ?_
    refine ab_bk.back (pc' := 549) (st' := [.int 1]) rfl rfl ?_
    refine ab_fin.s2 (i := .iload 5) (k := 2) (pc' := 551) (lv' := [(6, .int 0), (5, .int 1), (4, .int (Int32.ofNat (6 * i))), (3, .ref 3467), (2, .ref 102), (1, .ref 0), (0, .retAddr 9)]) (st' := [.int 1, .int 1]) (by decide +kernel) rfl rfl ?_
    refine ab_fin.brT (c := (1 : Int32) = (1 : Int32)) (i := .if_icmp .eq 5) (off := 5) (t := 556) (r := []) (by decide +kernel) rfl (by decide +kernel) rfl ?_
    refine ab_fin.s2 (i := .iload 5) (k := 2) (pc' := 558) (lv' := [(6, .int 0), (5, .int 1), (4, .int (Int32.ofNat (6 * i))), (3, .ref 3467), (2, .ref 102), (1, .ref 0), (0, .retAddr 9)]) (st' := [.int 1]) (by decide +kernel) rfl rfl ?_
    refine ab_fin.brT (c := ¬ (1 : Int32) = 0) (i := .ifCond .ne 22) (off := 22) (t := 580) (r := []) (by decide +kernel) rfl (by decide +kernel) (by decide +kernel) ?_
    refine ab_fin.s3 (i := .goto 510) (k := 3) (t := 1090) (st' := []) (by decide +kernel) (ab_goto (by decide +kernel)) ?_
    refine ab_fin.lv (lv' := [(4, .int (Int32.ofNat (6 * i))), (3, .ref 3467), (2, .ref 102), (1, .ref 0), (0, .retAddr 9)]) ⟨fun q hq => ?_, (by show ([6, 5, 4, 3, 2, 1, 0] : List Nat).Nodup; decide)⟩ (go _ _ _ _ _ _ W2 q1.1 q2.1)
    simp only [List.mem_cons, List.not_mem_nil, or_false] at hq ⊢
    rcases hq with rfl | rfl | rfl | rfl | rfl <;> simp
  · rcases hb v rfl with rfl | rfl
    · refine ab_fin.s2 (i := .aload_n 1) (k := 1) (pc' := 509) (lv' := [(4, .int (Int32.ofNat (6 * i))), (3, .ref 3467), (2, .ref 102), (1, .ref 0), (0, .retAddr 9)]) (st' := [.ref 0]) (by decide +kernel) rfl rfl ?_
      refine ab_fin.s2 (i := .aload_n 0) (k := 1) (pc' := 510) (lv' := [(4, .int (Int32.ofNat (6 * i))), (3, .ref 3467), (2, .ref 102), (1, .ref 0), (0, .retAddr 9)]) (st' := [.retAddr 9, .ref 0]) (by decide +kernel) rfl rfl ?_
      refine ab_fin.s2 (i := .iload 4) (k := 2) (pc' := 512) (lv' := [(4, .int (Int32.ofNat (6 * i))), (3, .ref 3467), (2, .ref 102), (1, .ref 0), (0, .retAddr 9)]) (st' := [.int (Int32.ofNat (6 * i)), .retAddr 9, .ref 0]) (by decide +kernel) rfl rfl ?_
      refine ab_fin.s1i (i := .iconst 1) (k := 1) (pc' := 513) (n := 1) (by decide +kernel) rfl (by decide +kernel) rfl ?_
      refine ab_fin.s1 (i := .iadd) (k := 1) (pc' := 514) (st' := [.int (Int32.ofNat (6 * i) + 1), .retAddr 9, .ref 0]) (by decide +kernel) rfl rfl ?_
      refine ab_fin.s8 (i := .iaload) (k := 1) (pc' := 515) (st' := [.int (xs (6 * i + 1)), .ref 0]) (by decide +kernel) (ab_x0 rfl (ix_v (i := i) (j := 1) (L := L) (y := 1) (by omega) hL rfl).1 (congrArg (fun k => Value.int (xs k)) (ix_v (i := i) (j := 1) (L := L) (y := 1) (by omega) hL rfl).2)) rfl rfl rfl ?_
      refine ab_fin.s2 (i := .aload_n 0) (k := 1) (pc' := 516) (lv' := [(4, .int (Int32.ofNat (6 * i))), (3, .ref 3467), (2, .ref 102), (1, .ref 0), (0, .retAddr 9)]) (st' := [.retAddr 9, .int (xs (6 * i + 1)), .ref 0]) (by decide +kernel) rfl rfl ?_
      refine ab_fin.s2 (i := .iload 4) (k := 2) (pc' := 518) (lv' := [(4, .int (Int32.ofNat (6 * i))), (3, .ref 3467), (2, .ref 102), (1, .ref 0), (0, .retAddr 9)]) (st' := [.int (Int32.ofNat (6 * i)), .retAddr 9, .int (xs (6 * i + 1)), .ref 0]) (by decide +kernel) rfl rfl ?_
      refine ab_fin.s1i (i := .iconst 2) (k := 1) (pc' := 519) (n := 2) (by decide +kernel) rfl (by decide +kernel) rfl ?_
      refine ab_fin.s1 (i := .iadd) (k := 1) (pc' := 520) (st' := [.int (Int32.ofNat (6 * i) + 2), .retAddr 9, .int (xs (6 * i + 1)), .ref 0]) (by decide +kernel) rfl rfl ?_
      refine ab_fin.s8 (i := .iaload) (k := 1) (pc' := 521) (st' := [.int (xs (6 * i + 2)), .int (xs (6 * i + 1)), .ref 0]) (by decide +kernel) (ab_x0 rfl (ix_v (i := i) (j := 2) (L := L) (y := 2) (by omega) hL rfl).1 (congrArg (fun k => Value.int (xs k)) (ix_v (i := i) (j := 2) (L := L) (y := 2) (by omega) hL rfl).2)) rfl rfl rfl ?_
      refine ab_fin.s2 (i := .aload_n 3) (k := 1) (pc' := 522) (lv' := [(4, .int (Int32.ofNat (6 * i))), (3, .ref 3467), (2, .ref 102), (1, .ref 0), (0, .retAddr 9)]) (st' := [.ref 3467, .int (xs (6 * i + 2)), .int (xs (6 * i + 1)), .ref 0]) (by decide +kernel) rfl rfl ?_
      refine ab_fin.call (i := .invokestatic 104) (k := 3) (y := 13517) (As := [.ref 0, .int (xs (6 * i + 1)), .int (xs (6 * i + 2)), .ref 3467]) (rest := []) (M' := (mL_below, [(0, 17, 20, 13)])) (by decide +kernel) (ab_cs rfl rfl ⟨(Nat.le_of_ble_eq_true rfl), (Nat.le_of_ble_eq_true rfl)⟩ rfl) rfl (Nat.le_of_ble_eq_true rfl) ?_
      show ab_fin _ _ _ _ 0 [(0, .ref 0), (1, .int (xs (6 * i + 1))), (2, .int (xs (6 * i + 2))), (3, .ref 3467)] [] _ _
      refine ab_fin.s2 (i := .aload_n 3) (k := 1) (pc' := 1) (lv' := [(0, .ref 0), (1, .int (xs (6 * i + 1))), (2, .int (xs (6 * i + 2))), (3, .ref 3467)]) (st' := [.ref 3467]) (by decide +kernel) rfl rfl ?_
      refine ab_fin.s1i (i := .iconst 0) (k := 1) (pc' := 2) (n := 0) (by decide +kernel) rfl (by decide +kernel) rfl ?_
      refine ab_fin.s2 (i := .aload_n 0) (k := 1) (pc' := 3) (lv' := [(0, .ref 0), (1, .int (xs (6 * i + 1))), (2, .int (xs (6 * i + 2))), (3, .ref 3467)]) (st' := [.ref 0, .int 0, .ref 3467]) (by decide +kernel) rfl rfl ?_
      refine ab_fin.s2 (i := .iload_n 1) (k := 1) (pc' := 4) (lv' := [(0, .ref 0), (1, .int (xs (6 * i + 1))), (2, .int (xs (6 * i + 2))), (3, .ref 3467)]) (st' := [.int (xs (6 * i + 1)), .ref 0, .int 0, .ref 3467]) (by decide +kernel) rfl rfl ?_
      refine ab_fin.s2 (i := .iload_n 2) (k := 1) (pc' := 5) (lv' := [(0, .ref 0), (1, .int (xs (6 * i + 1))), (2, .int (xs (6 * i + 2))), (3, .ref 3467)]) (st' := [.int (xs (6 * i + 2)), .int (xs (6 * i + 1)), .ref 0, .int 0, .ref 3467]) (by decide +kernel) rfl rfl ?_
      refine ab_fin.call (i := .invokevirtual 32) (k := 3) (y := 3082) (As := [.ref 0, .int (xs (6 * i + 1)), .int (xs (6 * i + 2))]) (rest := [.int 0, .ref 3467]) (M' := (mX12_below, [])) (by decide +kernel) (ab_cv rfl rfl e13 ⟨(Nat.le_of_ble_eq_true rfl), (Nat.le_of_ble_eq_true rfl)⟩ rfl) rfl (Nat.le_of_ble_eq_true rfl) ?_
      show ab_fin _ _ _ _ 0 [(0, .ref 0), (1, .int (xs (6 * i + 1))), (2, .int (xs (6 * i + 2)))] [] _ _
      refine W0.C hG (fun a => [(0, .ref a), (1, .int (xs (6 * i + 1))), (2, .int (xs (6 * i + 2)))]) (fun g => rfl) hC (fun r0 hc1 fC1 h1 q1 W1 => ?_)
      obtain rfl : r0 = .inl (some (.int 0)) := q1.2
      show ab_bk _ _ _ _ _ _ _ _ _ (.inl (some (.int 0))) _
      refine ab_bk.back (pc' := 8) (st' := [.int 0, .int 0, .ref 3467]) rfl rfl ?_
      refine ab_fin.brT (c := (0 : Int32) = 0) (i := .ifCond .eq 7) (off := 7) (t := 15) (r := [.int 0, .ref 3467]) (by decide +kernel) rfl (by decide +kernel) (by decide +kernel) ?_
      refine ab_fin.s1l (i := .lconst 0) (k := 1) (pc' := 16) (n := 0) (by decide +kernel) rfl (by decide +kernel) rfl ?_
      refine ab_fin.last (l := [o]) (h1 := h1.set 3467 (.inr (.inl (1, .inr (.inl [0]))))) (pc' := 17) (by decide +kernel) W1.2.2.2.2.1 (hi0 _) rfl rfl ?_
      have W1x := W1.out (0)
      refine ab_fin.s3 (i := .goto 7) (k := 3) (t := 24) (st' := []) (by decide +kernel) (ab_goto (by decide +kernel)) ?_
      refine ab_fin.s1i (i := .iconst 0) (k := 1) (pc' := 25) (n := 0) (by decide +kernel) rfl (by decide +kernel) rfl ?_
      refine ab_fin.ret (i := .ireturn) (k := 1) (some (.int 0)) (by decide +kernel) rfl ?_
      refine ab_bk.back (pc' := 525) (st' := [.int 0]) rfl rfl ?_
      refine ab_fin.s2 (i := .istore 5) (k := 2) (pc' := 527) (lv' := [(5, .int 0), (4, .int (Int32.ofNat (6 * i))), (3, .ref 3467), (2, .ref 102), (1, .ref 0), (0, .retAddr 9)]) (st' := []) (by decide +kernel) rfl rfl ?_
      refine ab_fin.s2 (i := .aload_n 2) (k := 1) (pc' := 528) (lv' := [(5, .int 0), (4, .int (Int32.ofNat (6 * i))), (3, .ref 3467), (2, .ref 102), (1, .ref 0), (0, .retAddr 9)]) (st' := [.ref 102]) (by decide +kernel) rfl rfl ?_
      refine ab_fin.s2 (i := .aload_n 0) (k := 1) (pc' := 529) (lv' := [(5, .int 0), (4, .int (Int32.ofNat (6 * i))), (3, .ref 3467), (2, .ref 102), (1, .ref 0), (0, .retAddr 9)]) (st' := [.retAddr 9, .ref 102]) (by decide +kernel) rfl rfl ?_
      refine ab_fin.s2 (i := .iload 4) (k := 2) (pc' := 531) (lv' := [(5, .int 0), (4, .int (Int32.ofNat (6 * i))), (3, .ref 3467), (2, .ref 102), (1, .ref 0), (0, .retAddr 9)]) (st' := [.int (Int32.ofNat (6 * i)), .retAddr 9, .ref 102]) (by decide +kernel) rfl rfl ?_
      refine ab_fin.s1i (i := .iconst 1) (k := 1) (pc' := 532) (n := 1) (by decide +kernel) rfl (by decide +kernel) rfl ?_
      refine ab_fin.s1 (i := .iadd) (k := 1) (pc' := 533) (st' := [.int (Int32.ofNat (6 * i) + 1), .retAddr 9, .ref 102]) (by decide +kernel) rfl rfl ?_
      refine ab_fin.s8 (i := .iaload) (k := 1) (pc' := 534) (st' := [.int (xs (6 * i + 1)), .ref 102]) (by decide +kernel) (ab_x0 rfl (ix_v (i := i) (j := 1) (L := L) (y := 1) (by omega) hL rfl).1 (congrArg (fun k => Value.int (xs k)) (ix_v (i := i) (j := 1) (L := L) (y := 1) (by omega) hL rfl).2)) rfl rfl rfl ?_
      refine ab_fin.s2 (i := .aload_n 0) (k := 1) (pc' := 535) (lv' := [(5, .int 0), (4, .int (Int32.ofNat (6 * i))), (3, .ref 3467), (2, .ref 102), (1, .ref 0), (0, .retAddr 9)]) (st' := [.retAddr 9, .int (xs (6 * i + 1)), .ref 102]) (by decide +kernel) rfl rfl ?_
      refine ab_fin.s2 (i := .iload 4) (k := 2) (pc' := 537) (lv' := [(5, .int 0), (4, .int (Int32.ofNat (6 * i))), (3, .ref 3467), (2, .ref 102), (1, .ref 0), (0, .retAddr 9)]) (st' := [.int (Int32.ofNat (6 * i)), .retAddr 9, .int (xs (6 * i + 1)), .ref 102]) (by decide +kernel) rfl rfl ?_
      refine ab_fin.s1i (i := .iconst 2) (k := 1) (pc' := 538) (n := 2) (by decide +kernel) rfl (by decide +kernel) rfl ?_
      refine ab_fin.s1 (i := .iadd) (k := 1) (pc' := 539) (st' := [.int (Int32.ofNat (6 * i) + 2), .retAddr 9, .int (xs (6 * i + 1)), .ref 102]) (by decide +kernel) rfl rfl ?_
      refine ab_fin.s8 (i := .iaload) (k := 1) (pc' := 540) (st' := [.int (xs (6 * i + 2)), .int (xs (6 * i + 1)), .ref 102]) (by decide +kernel) (ab_x0 rfl (ix_v (i := i) (j := 2) (L := L) (y := 2) (by omega) hL rfl).1 (congrArg (fun k => Value.int (xs k)) (ix_v (i := i) (j := 2) (L := L) (y := 2) (by omega) hL rfl).2)) rfl rfl rfl ?_
      refine ab_fin.call (i := .invokevirtual 106) (k := 3) (y := 6002) (As := [.ref 102, .int (xs (6 * i + 1)), .int (xs (6 * i + 2))]) (rest := []) (M' := (mX23_below, [])) (by decide +kernel) (ab_cv rfl rfl (W1x.r0 e24) ⟨(Nat.le_of_ble_eq_true rfl), (Nat.le_of_ble_eq_true rfl)⟩ rfl) rfl (Nat.le_of_ble_eq_true rfl) ?_
      show ab_fin _ _ _ _ 0 [(0, .ref 102), (1, .int (xs (6 * i + 1))), (2, .int (xs (6 * i + 2)))] [] _ _
      refine W1x.R hG (fun a => [(0, .ref a), (1, .int (xs (6 * i + 1))), (2, .int (xs (6 * i + 2)))]) (fun g => rfl) hR (fun r0 hr1 fR1 h2 q2 W2 => ?_)
      obtain rfl : r0 = .inl (some (.int 0)) := q2.2.1
      show ab_bk _ _ _ _ _ _ _ _ _ (.inl (some (.int 0))) _
      refine ab_bk.back (pc' := 543) (st' := [.int 0]) rfl rfl ?_
      obtain ⟨fs, t1, t2⟩ := thrR.at W2 q2.2.2
      refine ab_fin.s2 (i := .istore 6) (k := 2) (pc' := 545) (lv' := [(6, .int 0), (5, .int 0), (4, .int (Int32.ofNat (6 * i))), (3, .ref 3467), (2, .ref 102), (1, .ref 0), (0, .retAddr 9)]) (st' := []) (by decide +kernel) rfl rfl ?_
      refine ab_fin.s2 (i := .aload_n 2) (k := 1) (pc' := 546) (lv' := [(6, .int 0), (5, .int 0), (4, .int (Int32.ofNat (6 * i))), (3, .ref 3467), (2, .ref 102), (1, .ref 0), (0, .retAddr 9)]) (st' := [.ref 102]) (by decide +kernel) rfl rfl ?_
      refine ab_fin.call (i := .invokevirtual 75) (k := 3) (y := 5992) (As := [.ref 102]) (rest := []) (M' := (mX23_thrown, [])) (by decide +kernel) (ab_cv rfl rfl t1 ⟨(Nat.le_of_ble_eq_true rfl), (Nat.le_of_ble_eq_true rfl)⟩ rfl) rfl (Nat.le_of_ble_eq_true rfl) ?_
      show ab_fin _ _ _ _ 0 [(0, .ref 102)] [] _ _
      refine ab_fin.s2 (i := .aload_n 0) (k := 1) (pc' := 1) (lv' := [(0, .ref 102)]) (st' := [.ref 102]) (by decide +kernel) rfl rfl ?_
      refine ab_fin.getf (ix := 1000) (k := 110) (v := .int 0) (pc' := 4) (by decide +kernel) rfl t1 t2 rfl ?_
      refine ab_fin.ret (i := .ireturn) (k := 1) (some (.int 0)) (by decide +kernel) rfl ?_
      refine ab_bk.back (pc' := 549) (st' := [.int 0]) rfl rfl ?_
      refine ab_fin.s2 (i := .iload 5) (k := 2) (pc' := 551) (lv' := [(6, .int 0), (5, .int 0), (4, .int (Int32.ofNat (6 * i))), (3, .ref 3467), (2, .ref 102), (1, .ref 0), (0, .retAddr 9)]) (st' := [.int 0, .int 0]) (by decide +kernel) rfl rfl ?_
      refine ab_fin.brT (c := (0 : Int32) = (0 : Int32)) (i := .if_icmp .eq 5) (off := 5) (t := 556) (r := []) (by decide +kernel) rfl (by decide +kernel) rfl ?_
      refine ab_fin.s2 (i := .iload 5) (k := 2) (pc' := 558) (lv' := [(6, .int 0), (5, .int 0), (4, .int (Int32.ofNat (6 * i))), (3, .ref 3467), (2, .ref 102), (1, .ref 0), (0, .retAddr 9)]) (st' := [.int 0]) (by decide +kernel) rfl rfl ?_
      refine ab_fin.brF (c := ¬ (0 : Int32) = 0) (i := .ifCond .ne 22) (off := 22) (t := 580) (pc' := 561) (r := []) (by decide +kernel) rfl (by decide +kernel) rfl (by decide +kernel) ?_
      refine ab_fin.s2 (i := .aload_n 3) (k := 1) (pc' := 562) (lv' := [(6, .int 0), (5, .int 0), (4, .int (Int32.ofNat (6 * i))), (3, .ref 3467), (2, .ref 102), (1, .ref 0), (0, .retAddr 9)]) (st' := [.ref 3467]) (by decide +kernel) rfl rfl ?_
      refine ab_fin.s1i (i := .iconst 0) (k := 1) (pc' := 563) (n := 0) (by decide +kernel) rfl (by decide +kernel) rfl ?_
      refine ab_fin.lald (l := [0]) (v := 0) (pc' := 564) (by decide +kernel) W2.2.2.2.2.1 (hi0 _) rfl rfl ?_
      refine ab_fin.s2 (i := .iload 6) (k := 2) (pc' := 566) (lv' := [(6, .int 0), (5, .int 0), (4, .int (Int32.ofNat (6 * i))), (3, .ref 3467), (2, .ref 102), (1, .ref 0), (0, .retAddr 9)]) (st' := [.int 0, .long 0]) (by decide +kernel) rfl rfl ?_
      refine ab_fin.brT (c := (0 : Int32) = 0) (i := .ifCond .eq 7) (off := 7) (t := 573) (r := [.long 0]) (by decide +kernel) rfl (by decide +kernel) (by decide +kernel) ?_
      refine ab_fin.s1l (i := .lconst 0) (k := 1) (pc' := 574) (n := 0) (by decide +kernel) rfl (by decide +kernel) rfl ?_
      refine ab_fin.s1i (i := .lcmp) (k := 1) (pc' := 575) (n := 0) (by decide +kernel) rfl (lg_c0 _) rfl ?_
      refine ab_fin.brT (c := (0 : Int32) = 0) (i := .ifCond .eq 5) (off := 5) (t := 580) (r := []) (by decide +kernel) rfl (by decide +kernel) (by decide +kernel) ?_
      refine ab_fin.s3 (i := .goto 510) (k := 3) (t := 1090) (st' := []) (by decide +kernel) (ab_goto (by decide +kernel)) ?_
      refine ab_fin.lv (lv' := [(4, .int (Int32.ofNat (6 * i))), (3, .ref 3467), (2, .ref 102), (1, .ref 0), (0, .retAddr 9)]) ⟨fun q hq => ?_, (by show ([6, 5, 4, 3, 2, 1, 0] : List Nat).Nodup; decide)⟩ (go _ _ _ _ _ _ W2 q1.1 q2.1)
      simp only [List.mem_cons, List.not_mem_nil, or_false] at hq ⊢
      rcases hq with rfl | rfl | rfl | rfl | rfl <;> simp
    · refine ab_fin.s2 (i := .aload_n 1) (k := 1) (pc' := 509) (lv' := [(4, .int (Int32.ofNat (6 * i))), (3, .ref 3467), (2, .ref 102), (1, .ref 0), (0, .retAddr 9)]) (st' := [.ref 0]) (by decide +kernel) rfl rfl ?_
      refine ab_fin.s2 (i := .aload_n 0) (k := 1) (pc' := 510) (lv' := [(4, .int (Int32.ofNat (6 * i))), (3, .ref 3467), (2, .ref 102), (1, .ref 0), (0, .retAddr 9)]) (st' := [.retAddr 9, .ref 0]) (by decide +kernel) rfl rfl ?_
      refine ab_fin.s2 (i := .iload 4) (k := 2) (pc' := 512) (lv' := [(4, .int (Int32.ofNat (6 * i))), (3, .ref 3467), (2, .ref 102), (1, .ref 0), (0, .retAddr 9)]) (st' := [.int (Int32.ofNat (6 * i)), .retAddr 9, .ref 0]) (by decide +kernel) rfl rfl ?_
      refine ab_fin.s1i (i := .iconst 1) (k := 1) (pc' := 513) (n := 1) (by decide +kernel) rfl (by decide +kernel) rfl ?_
      refine ab_fin.s1 (i := .iadd) (k := 1) (pc' := 514) (st' := [.int (Int32.ofNat (6 * i) + 1), .retAddr 9, .ref 0]) (by decide +kernel) rfl rfl ?_
      refine ab_fin.s8 (i := .iaload) (k := 1) (pc' := 515) (st' := [.int (xs (6 * i + 1)), .ref 0]) (by decide +kernel) (ab_x0 rfl (ix_v (i := i) (j := 1) (L := L) (y := 1) (by omega) hL rfl).1 (congrArg (fun k => Value.int (xs k)) (ix_v (i := i) (j := 1) (L := L) (y := 1) (by omega) hL rfl).2)) rfl rfl rfl ?_
      refine ab_fin.s2 (i := .aload_n 0) (k := 1) (pc' := 516) (lv' := [(4, .int (Int32.ofNat (6 * i))), (3, .ref 3467), (2, .ref 102), (1, .ref 0), (0, .retAddr 9)]) (st' := [.retAddr 9, .int (xs (6 * i + 1)), .ref 0]) (by decide +kernel) rfl rfl ?_
      refine ab_fin.s2 (i := .iload 4) (k := 2) (pc' := 518) (lv' := [(4, .int (Int32.ofNat (6 * i))), (3, .ref 3467), (2, .ref 102), (1, .ref 0), (0, .retAddr 9)]) (st' := [.int (Int32.ofNat (6 * i)), .retAddr 9, .int (xs (6 * i + 1)), .ref 0]) (by decide +kernel) rfl rfl ?_
      refine ab_fin.s1i (i := .iconst 2) (k := 1) (pc' := 519) (n := 2) (by decide +kernel) rfl (by decide +kernel) rfl ?_
      refine ab_fin.s1 (i := .iadd) (k := 1) (pc' := 520) (st' := [.int (Int32.ofNat (6 * i) + 2), .retAddr 9, .int (xs (6 * i + 1)), .ref 0]) (by decide +kernel) rfl rfl ?_
      refine ab_fin.s8 (i := .iaload) (k := 1) (pc' := 521) (st' := [.int (xs (6 * i + 2)), .int (xs (6 * i + 1)), .ref 0]) (by decide +kernel) (ab_x0 rfl (ix_v (i := i) (j := 2) (L := L) (y := 2) (by omega) hL rfl).1 (congrArg (fun k => Value.int (xs k)) (ix_v (i := i) (j := 2) (L := L) (y := 2) (by omega) hL rfl).2)) rfl rfl rfl ?_
      refine ab_fin.s2 (i := .aload_n 3) (k := 1) (pc' := 522) (lv' := [(4, .int (Int32.ofNat (6 * i))), (3, .ref 3467), (2, .ref 102), (1, .ref 0), (0, .retAddr 9)]) (st' := [.ref 3467, .int (xs (6 * i + 2)), .int (xs (6 * i + 1)), .ref 0]) (by decide +kernel) rfl rfl ?_
      refine ab_fin.call (i := .invokestatic 104) (k := 3) (y := 13517) (As := [.ref 0, .int (xs (6 * i + 1)), .int (xs (6 * i + 2)), .ref 3467]) (rest := []) (M' := (mL_below, [(0, 17, 20, 13)])) (by decide +kernel) (ab_cs rfl rfl ⟨(Nat.le_of_ble_eq_true rfl), (Nat.le_of_ble_eq_true rfl)⟩ rfl) rfl (Nat.le_of_ble_eq_true rfl) ?_
      show ab_fin _ _ _ _ 0 [(0, .ref 0), (1, .int (xs (6 * i + 1))), (2, .int (xs (6 * i + 2))), (3, .ref 3467)] [] _ _
      refine ab_fin.s2 (i := .aload_n 3) (k := 1) (pc' := 1) (lv' := [(0, .ref 0), (1, .int (xs (6 * i + 1))), (2, .int (xs (6 * i + 2))), (3, .ref 3467)]) (st' := [.ref 3467]) (by decide +kernel) rfl rfl ?_
      refine ab_fin.s1i (i := .iconst 0) (k := 1) (pc' := 2) (n := 0) (by decide +kernel) rfl (by decide +kernel) rfl ?_
      refine ab_fin.s2 (i := .aload_n 0) (k := 1) (pc' := 3) (lv' := [(0, .ref 0), (1, .int (xs (6 * i + 1))), (2, .int (xs (6 * i + 2))), (3, .ref 3467)]) (st' := [.ref 0, .int 0, .ref 3467]) (by decide +kernel) rfl rfl ?_
      refine ab_fin.s2 (i := .iload_n 1) (k := 1) (pc' := 4) (lv' := [(0, .ref 0), (1, .int (xs (6 * i + 1))), (2, .int (xs (6 * i + 2))), (3, .ref 3467)]) (st' := [.int (xs (6 * i + 1)), .ref 0, .int 0, .ref 3467]) (by decide +kernel) rfl rfl ?_
      refine ab_fin.s2 (i := .iload_n 2) (k := 1) (pc' := 5) (lv' := [(0, .ref 0), (1, .int (xs (6 * i + 1))), (2, .int (xs (6 * i + 2))), (3, .ref 3467)]) (st' := [.int (xs (6 * i + 2)), .int (xs (6 * i + 1)), .ref 0, .int 0, .ref 3467]) (by decide +kernel) rfl rfl ?_
      refine ab_fin.call (i := .invokevirtual 32) (k := 3) (y := 3082) (As := [.ref 0, .int (xs (6 * i + 1)), .int (xs (6 * i + 2))]) (rest := [.int 0, .ref 3467]) (M' := (mX12_below, [])) (by decide +kernel) (ab_cv rfl rfl e13 ⟨(Nat.le_of_ble_eq_true rfl), (Nat.le_of_ble_eq_true rfl)⟩ rfl) rfl (Nat.le_of_ble_eq_true rfl) ?_
      show ab_fin _ _ _ _ 0 [(0, .ref 0), (1, .int (xs (6 * i + 1))), (2, .int (xs (6 * i + 2)))] [] _ _
      refine W0.C hG (fun a => [(0, .ref a), (1, .int (xs (6 * i + 1))), (2, .int (xs (6 * i + 2)))]) (fun g => rfl) hC (fun r0 hc1 fC1 h1 q1 W1 => ?_)
      obtain rfl : r0 = .inl (some (.int 1)) := q1.2
      show ab_bk _ _ _ _ _ _ _ _ _ (.inl (some (.int 1))) _
      refine ab_bk.back (pc' := 8) (st' := [.int 1, .int 0, .ref 3467]) rfl rfl ?_
      refine ab_fin.brF (c := (1 : Int32) = 0) (i := .ifCond .eq 7) (off := 7) (t := 15) (pc' := 11) (r := [.int 0, .ref 3467]) (by decide +kernel) rfl (by decide +kernel) rfl (by decide +kernel) ?_
      refine ab_fin.s1l (i := .lconst 1) (k := 1) (pc' := 12) (n := 1) (by decide +kernel) rfl (by decide +kernel) rfl ?_
      refine ab_fin.s3 (i := .goto 4) (k := 3) (t := 16) (st' := [.long 1, .int 0, .ref 3467]) (by decide +kernel) (ab_goto (by decide +kernel)) ?_
      refine ab_fin.last (l := [o]) (h1 := h1.set 3467 (.inr (.inl (1, .inr (.inl [1]))))) (pc' := 17) (by decide +kernel) W1.2.2.2.2.1 (hi0 _) rfl rfl ?_
      have W1x := W1.out (1)
      refine ab_fin.s3 (i := .goto 7) (k := 3) (t := 24) (st' := []) (by decide +kernel) (ab_goto (by decide +kernel)) ?_
      refine ab_fin.s1i (i := .iconst 0) (k := 1) (pc' := 25) (n := 0) (by decide +kernel) rfl (by decide +kernel) rfl ?_
      refine ab_fin.ret (i := .ireturn) (k := 1) (some (.int 0)) (by decide +kernel) rfl ?_
      refine ab_bk.back (pc' := 525) (st' := [.int 0]) rfl rfl ?_
      refine ab_fin.s2 (i := .istore 5) (k := 2) (pc' := 527) (lv' := [(5, .int 0), (4, .int (Int32.ofNat (6 * i))), (3, .ref 3467), (2, .ref 102), (1, .ref 0), (0, .retAddr 9)]) (st' := []) (by decide +kernel) rfl rfl ?_
      refine ab_fin.s2 (i := .aload_n 2) (k := 1) (pc' := 528) (lv' := [(5, .int 0), (4, .int (Int32.ofNat (6 * i))), (3, .ref 3467), (2, .ref 102), (1, .ref 0), (0, .retAddr 9)]) (st' := [.ref 102]) (by decide +kernel) rfl rfl ?_
      refine ab_fin.s2 (i := .aload_n 0) (k := 1) (pc' := 529) (lv' := [(5, .int 0), (4, .int (Int32.ofNat (6 * i))), (3, .ref 3467), (2, .ref 102), (1, .ref 0), (0, .retAddr 9)]) (st' := [.retAddr 9, .ref 102]) (by decide +kernel) rfl rfl ?_
      refine ab_fin.s2 (i := .iload 4) (k := 2) (pc' := 531) (lv' := [(5, .int 0), (4, .int (Int32.ofNat (6 * i))), (3, .ref 3467), (2, .ref 102), (1, .ref 0), (0, .retAddr 9)]) (st' := [.int (Int32.ofNat (6 * i)), .retAddr 9, .ref 102]) (by decide +kernel) rfl rfl ?_
      refine ab_fin.s1i (i := .iconst 1) (k := 1) (pc' := 532) (n := 1) (by decide +kernel) rfl (by decide +kernel) rfl ?_
      refine ab_fin.s1 (i := .iadd) (k := 1) (pc' := 533) (st' := [.int (Int32.ofNat (6 * i) + 1), .retAddr 9, .ref 102]) (by decide +kernel) rfl rfl ?_
      refine ab_fin.s8 (i := .iaload) (k := 1) (pc' := 534) (st' := [.int (xs (6 * i + 1)), .ref 102]) (by decide +kernel) (ab_x0 rfl (ix_v (i := i) (j := 1) (L := L) (y := 1) (by omega) hL rfl).1 (congrArg (fun k => Value.int (xs k)) (ix_v (i := i) (j := 1) (L := L) (y := 1) (by omega) hL rfl).2)) rfl rfl rfl ?_
      refine ab_fin.s2 (i := .aload_n 0) (k := 1) (pc' := 535) (lv' := [(5, .int 0), (4, .int (Int32.ofNat (6 * i))), (3, .ref 3467), (2, .ref 102), (1, .ref 0), (0, .retAddr 9)]) (st' := [.retAddr 9, .int (xs (6 * i + 1)), .ref 102]) (by decide +kernel) rfl rfl ?_
      refine ab_fin.s2 (i := .iload 4) (k := 2) (pc' := 537) (lv' := [(5, .int 0), (4, .int (Int32.ofNat (6 * i))), (3, .ref 3467), (2, .ref 102), (1, .ref 0), (0, .retAddr 9)]) (st' := [.int (Int32.ofNat (6 * i)), .retAddr 9, .int (xs (6 * i + 1)), .ref 102]) (by decide +kernel) rfl rfl ?_
      refine ab_fin.s1i (i := .iconst 2) (k := 1) (pc' := 538) (n := 2) (by decide +kernel) rfl (by decide +kernel) rfl ?_
      refine ab_fin.s1 (i := .iadd) (k := 1) (pc' := 539) (st' := [.int (Int32.ofNat (6 * i) + 2), .retAddr 9, .int (xs (6 * i + 1)), .ref 102]) (by decide +kernel) rfl rfl ?_
      refine ab_fin.s8 (i := .iaload) (k := 1) (pc' := 540) (st' := [.int (xs (6 * i + 2)), .int (xs (6 * i + 1)), .ref 102]) (by decide +kernel) (ab_x0 rfl (ix_v (i := i) (j := 2) (L := L) (y := 2) (by omega) hL rfl).1 (congrArg (fun k => Value.int (xs k)) (ix_v (i := i) (j := 2) (L := L) (y := 2) (by omega) hL rfl).2)) rfl rfl rfl ?_
      refine ab_fin.call (i := .invokevirtual 106) (k := 3) (y := 6002) (As := [.ref 102, .int (xs (6 * i + 1)), .int (xs (6 * i + 2))]) (rest := []) (M' := (mX23_below, [])) (by decide +kernel) (ab_cv rfl rfl (W1x.r0 e24) ⟨(Nat.le_of_ble_eq_true rfl), (Nat.le_of_ble_eq_true rfl)⟩ rfl) rfl (Nat.le_of_ble_eq_true rfl) ?_
      show ab_fin _ _ _ _ 0 [(0, .ref 102), (1, .int (xs (6 * i + 1))), (2, .int (xs (6 * i + 2)))] [] _ _
      refine W1x.R hG (fun a => [(0, .ref a), (1, .int (xs (6 * i + 1))), (2, .int (xs (6 * i + 2)))]) (fun g => rfl) hR (fun r0 hr1 fR1 h2 q2 W2 => ?_)
      obtain rfl : r0 = .inl (some (.int 1)) := q2.2.1
      show ab_bk _ _ _ _ _ _ _ _ _ (.inl (some (.int 1))) _
      refine ab_bk.back (pc' := 543) (st' := [.int 1]) rfl rfl ?_
      obtain ⟨fs, t1, t2⟩ := thrR.at W2 q2.2.2
      refine ab_fin.s2 (i := .istore 6) (k := 2) (pc' := 545) (lv' := [(6, .int 1), (5, .int 0), (4, .int (Int32.ofNat (6 * i))), (3, .ref 3467), (2, .ref 102), (1, .ref 0), (0, .retAddr 9)]) (st' := []) (by decide +kernel) rfl rfl ?_
      refine ab_fin.s2 (i := .aload_n 2) (k := 1) (pc' := 546) (lv' := [(6, .int 1), (5, .int 0), (4, .int (Int32.ofNat (6 * i))), (3, .ref 3467), (2, .ref 102), (1, .ref 0), (0, .retAddr 9)]) (st' := [.ref 102]) (by decide +kernel) rfl rfl ?_
      refine ab_fin.call (i := .invokevirtual 75) (k := 3) (y := 5992) (As := [.ref 102]) (rest := []) (M' := (mX23_thrown, [])) (by decide +kernel) (ab_cv rfl rfl t1 ⟨(Nat.le_of_ble_eq_true rfl), (Nat.le_of_ble_eq_true rfl)⟩ rfl) rfl (Nat.le_of_ble_eq_true rfl) ?_
      show ab_fin _ _ _ _ 0 [(0, .ref 102)] [] _ _
      refine ab_fin.s2 (i := .aload_n 0) (k := 1) (pc' := 1) (lv' := [(0, .ref 102)]) (st' := [.ref 102]) (by decide +kernel) rfl rfl ?_
      refine ab_fin.getf (ix := 1000) (k := 110) (v := .int 0) (pc' := 4) (by decide +kernel) rfl t1 t2 rfl ?_
      refine ab_fin.ret (i := .ireturn) (k := 1) (some (.int 0)) (by decide +kernel) rfl ?_
      refine ab_bk.back (pc' := 549) (st' := [.int 0]) rfl rfl ?_
      refine ab_fin.s2 (i := .iload 5) (k := 2) (pc' := 551) (lv' := [(6, .int 1), (5, .int 0), (4, .int (Int32.ofNat (6 * i))), (3, .ref 3467), (2, .ref 102), (1, .ref 0), (0, .retAddr 9)]) (st' := [.int 0, .int 0]) (by decide +kernel) rfl rfl ?_
      refine ab_fin.brT (c := (0 : Int32) = (0 : Int32)) (i := .if_icmp .eq 5) (off := 5) (t := 556) (r := []) (by decide +kernel) rfl (by decide +kernel) rfl ?_
      refine ab_fin.s2 (i := .iload 5) (k := 2) (pc' := 558) (lv' := [(6, .int 1), (5, .int 0), (4, .int (Int32.ofNat (6 * i))), (3, .ref 3467), (2, .ref 102), (1, .ref 0), (0, .retAddr 9)]) (st' := [.int 0]) (by decide +kernel) rfl rfl ?_
      refine ab_fin.brF (c := ¬ (0 : Int32) = 0) (i := .ifCond .ne 22) (off := 22) (t := 580) (pc' := 561) (r := []) (by decide +kernel) rfl (by decide +kernel) rfl (by decide +kernel) ?_
      refine ab_fin.s2 (i := .aload_n 3) (k := 1) (pc' := 562) (lv' := [(6, .int 1), (5, .int 0), (4, .int (Int32.ofNat (6 * i))), (3, .ref 3467), (2, .ref 102), (1, .ref 0), (0, .retAddr 9)]) (st' := [.ref 3467]) (by decide +kernel) rfl rfl ?_
      refine ab_fin.s1i (i := .iconst 0) (k := 1) (pc' := 563) (n := 0) (by decide +kernel) rfl (by decide +kernel) rfl ?_
      refine ab_fin.lald (l := [1]) (v := 1) (pc' := 564) (by decide +kernel) W2.2.2.2.2.1 (hi0 _) rfl rfl ?_
      refine ab_fin.s2 (i := .iload 6) (k := 2) (pc' := 566) (lv' := [(6, .int 1), (5, .int 0), (4, .int (Int32.ofNat (6 * i))), (3, .ref 3467), (2, .ref 102), (1, .ref 0), (0, .retAddr 9)]) (st' := [.int 1, .long 1]) (by decide +kernel) rfl rfl ?_
      refine ab_fin.brF (c := (1 : Int32) = 0) (i := .ifCond .eq 7) (off := 7) (t := 573) (pc' := 569) (r := [.long 1]) (by decide +kernel) rfl (by decide +kernel) rfl (by decide +kernel) ?_
      refine ab_fin.s1l (i := .lconst 1) (k := 1) (pc' := 570) (n := 1) (by decide +kernel) rfl (by decide +kernel) rfl ?_
      refine ab_fin.s3 (i := .goto 4) (k := 3) (t := 574) (st' := [.long 1, .long 1]) (by decide +kernel) (ab_goto (by decide +kernel)) ?_
      refine ab_fin.s1i (i := .lcmp) (k := 1) (pc' := 575) (n := 0) (by decide +kernel) rfl (lg_c0 _) rfl ?_
      refine ab_fin.brT (c := (0 : Int32) = 0) (i := .ifCond .eq 5) (off := 5) (t := 580) (r := []) (by decide +kernel) rfl (by decide +kernel) (by decide +kernel) ?_
      refine ab_fin.s3 (i := .goto 510) (k := 3) (t := 1090) (st' := []) (by decide +kernel) (ab_goto (by decide +kernel)) ?_
      refine ab_fin.lv (lv' := [(4, .int (Int32.ofNat (6 * i))), (3, .ref 3467), (2, .ref 102), (1, .ref 0), (0, .retAddr 9)]) ⟨fun q hq => ?_, (by show ([6, 5, 4, 3, 2, 1, 0] : List Nat).Nodup; decide)⟩ (go _ _ _ _ _ _ W2 q1.1 q2.1)
      simp only [List.mem_cons, List.not_mem_nil, or_false] at hq ⊢
      rcases hq with rfl | rfl | rfl | rfl | rfl <;> simp
set_option maxRecDepth 100000 in
set_option maxHeartbeats 0 in
theorem lw_row {z4 z5 z6 : Value} {xs : Nat → Int32} {L : Nat} {h hc hr : List ab_E} {o : Int64} {fC fR : Nat → Nat} {PC PR : List ab_E → Prop} {Q : ab_RX → List ab_E → Prop} (hL : L ≤ 3072) (hG : ab_pure (hb_Gz (some z4, some z5, some z6) (some (0, L, fun i => .int (xs i))))) {i : Nat} (hi : 6 * i + 6 ≤ L) (W0 : Two h hc hr o fC fR) (k13 : is13 hc) (k24 : is24 hr) {r : Nat ⊕ Int32} (ht : ∀ th, r = .inl th → th = 1 ∨ th = 2) (hC : ab_fin (hb_Gz (some z4, some z5, some z6) (some (0, L, fun i => .int (xs i)))) hb_GT 2044 (mX12_row, []) 0 [(0, .ref 0), (1, .int (xs (6 * i + 1))), (2, .int (xs (6 * i + 2))), (3, .int (xs (6 * i + 3)))] [] hc (AnC "java/lang/IndexOutOfBoundsException" "java/lang/IllegalArgumentException" PC r)) (hR : ab_fin (hb_Gz (some z4, some z5, some z6) (some (0, L, fun i => .int (xs i)))) hb_GT 2045 (mX23_row, []) 0 [(0, .ref 0), (1, .int (xs (6 * i + 1))), (2, .int (xs (6 * i + 2))), (3, .int (xs (6 * i + 3)))] [] hr (AnR PR r)) (go : ∀ h' hc' hr' o' fC' fR', Two h' hc' hr' o' fC' fR' → PC hc' → PR hr' → ab_fin (hb_Gz (some z4, some z5, some z6) (some (0, L, fun i => .int (xs i)))) hb_GT 2046 (mL_law, []) 1090 [(4, .int (Int32.ofNat (6 * i))), (3, .ref 3467), (2, .ref 102), (1, .ref 0), (0, .retAddr 9)] [] h' Q) : ab_fin (hb_Gz (some z4, some z5, some z6) (some (0, L, fun i => .int (xs i)))) hb_GT 2046 (mL_law, []) 583 [(4, .int (Int32.ofNat (6 * i))), (3, .ref 3467), (2, .ref 102), (1, .ref 0), (0, .retAddr 9)] [] h Q := by
  obtain ⟨fs13, k13⟩ := k13
  obtain ⟨fs24, e24⟩ := k24
  have e13 := W0.c0 k13
  rcases r with th | v
  · rcases ht th rfl with rfl | rfl
    · refine ab_fin.s2 (i := .aload_n 1) (k := 1) (pc' := 584) (lv' := [(4, .int (Int32.ofNat (6 * i))), (3, .ref 3467), (2, .ref 102), (1, .ref 0), (0, .retAddr 9)]) (st' := [.ref 0]) (by decide +kernel) rfl rfl ?_
      refine ab_fin.s2 (i := .aload_n 0) (k := 1) (pc' := 585) (lv' := [(4, .int (Int32.ofNat (6 * i))), (3, .ref 3467), (2, .ref 102), (1, .ref 0), (0, .retAddr 9)]) (st' := [.retAddr 9, .ref 0]) (by decide +kernel) rfl rfl ?_
      refine ab_fin.s2 (i := .iload 4) (k := 2) (pc' := 587) (lv' := [(4, .int (Int32.ofNat (6 * i))), (3, .ref 3467), (2, .ref 102), (1, .ref 0), (0, .retAddr 9)]) (st' := [.int (Int32.ofNat (6 * i)), .retAddr 9, .ref 0]) (by decide +kernel) rfl rfl ?_
      refine ab_fin.s1i (i := .iconst 1) (k := 1) (pc' := 588) (n := 1) (by decide +kernel) rfl (by decide +kernel) rfl ?_
      refine ab_fin.s1 (i := .iadd) (k := 1) (pc' := 589) (st' := [.int (Int32.ofNat (6 * i) + 1), .retAddr 9, .ref 0]) (by decide +kernel) rfl rfl ?_
      refine ab_fin.s8 (i := .iaload) (k := 1) (pc' := 590) (st' := [.int (xs (6 * i + 1)), .ref 0]) (by decide +kernel) (ab_x0 rfl (ix_v (i := i) (j := 1) (L := L) (y := 1) (by omega) hL rfl).1 (congrArg (fun k => Value.int (xs k)) (ix_v (i := i) (j := 1) (L := L) (y := 1) (by omega) hL rfl).2)) rfl rfl rfl ?_
      refine ab_fin.s2 (i := .aload_n 0) (k := 1) (pc' := 591) (lv' := [(4, .int (Int32.ofNat (6 * i))), (3, .ref 3467), (2, .ref 102), (1, .ref 0), (0, .retAddr 9)]) (st' := [.retAddr 9, .int (xs (6 * i + 1)), .ref 0]) (by decide +kernel) rfl rfl ?_
      refine ab_fin.s2 (i := .iload 4) (k := 2) (pc' := 593) (lv' := [(4, .int (Int32.ofNat (6 * i))), (3, .ref 3467), (2, .ref 102), (1, .ref 0), (0, .retAddr 9)]) (st' := [.int (Int32.ofNat (6 * i)), .retAddr 9, .int (xs (6 * i + 1)), .ref 0]) (by decide +kernel) rfl rfl ?_
      refine ab_fin.s1i (i := .iconst 2) (k := 1) (pc' := 594) (n := 2) (by decide +kernel) rfl (by decide +kernel) rfl ?_
      refine ab_fin.s1 (i := .iadd) (k := 1) (pc' := 595) (st' := [.int (Int32.ofNat (6 * i) + 2), .retAddr 9, .int (xs (6 * i + 1)), .ref 0]) (by decide +kernel) rfl rfl ?_
      refine ab_fin.s8 (i := .iaload) (k := 1) (pc' := 596) (st' := [.int (xs (6 * i + 2)), .int (xs (6 * i + 1)), .ref 0]) (by decide +kernel) (ab_x0 rfl (ix_v (i := i) (j := 2) (L := L) (y := 2) (by omega) hL rfl).1 (congrArg (fun k => Value.int (xs k)) (ix_v (i := i) (j := 2) (L := L) (y := 2) (by omega) hL rfl).2)) rfl rfl rfl ?_
      refine ab_fin.s2 (i := .aload_n 0) (k := 1) (pc' := 597) (lv' := [(4, .int (Int32.ofNat (6 * i))), (3, .ref 3467), (2, .ref 102), (1, .ref 0), (0, .retAddr 9)]) (st' := [.retAddr 9, .int (xs (6 * i + 2)), .int (xs (6 * i + 1)), .ref 0]) (by decide +kernel) rfl rfl ?_
      refine ab_fin.s2 (i := .iload 4) (k := 2) (pc' := 599) (lv' := [(4, .int (Int32.ofNat (6 * i))), (3, .ref 3467), (2, .ref 102), (1, .ref 0), (0, .retAddr 9)]) (st' := [.int (Int32.ofNat (6 * i)), .retAddr 9, .int (xs (6 * i + 2)), .int (xs (6 * i + 1)), .ref 0]) (by decide +kernel) rfl rfl ?_
      refine ab_fin.s1i (i := .iconst 3) (k := 1) (pc' := 600) (n := 3) (by decide +kernel) rfl (by decide +kernel) rfl ?_
      refine ab_fin.s1 (i := .iadd) (k := 1) (pc' := 601) (st' := [.int (Int32.ofNat (6 * i) + 3), .retAddr 9, .int (xs (6 * i + 2)), .int (xs (6 * i + 1)), .ref 0]) (by decide +kernel) rfl rfl ?_
      refine ab_fin.s8 (i := .iaload) (k := 1) (pc' := 602) (st' := [.int (xs (6 * i + 3)), .int (xs (6 * i + 2)), .int (xs (6 * i + 1)), .ref 0]) (by decide +kernel) (ab_x0 rfl (ix_v (i := i) (j := 3) (L := L) (y := 3) (by omega) hL rfl).1 (congrArg (fun k => Value.int (xs k)) (ix_v (i := i) (j := 3) (L := L) (y := 3) (by omega) hL rfl).2)) rfl rfl rfl ?_
      refine ab_fin.s2 (i := .aload_n 3) (k := 1) (pc' := 603) (lv' := [(4, .int (Int32.ofNat (6 * i))), (3, .ref 3467), (2, .ref 102), (1, .ref 0), (0, .retAddr 9)]) (st' := [.ref 3467, .int (xs (6 * i + 3)), .int (xs (6 * i + 2)), .int (xs (6 * i + 1)), .ref 0]) (by decide +kernel) rfl rfl ?_
      refine ab_fin.call (i := .invokestatic 107) (k := 3) (y := 13518) (As := [.ref 0, .int (xs (6 * i + 1)), .int (xs (6 * i + 2)), .int (xs (6 * i + 3)), .ref 3467]) (rest := []) (M' := (mL_row, [(0, 12, 15, 13), (0, 12, 19, 19)])) (by decide +kernel) (ab_cs rfl rfl ⟨(Nat.le_of_ble_eq_true rfl), (Nat.le_of_ble_eq_true rfl)⟩ rfl) rfl (Nat.le_of_ble_eq_true rfl) ?_
      show ab_fin _ _ _ _ 0 [(0, .ref 0), (1, .int (xs (6 * i + 1))), (2, .int (xs (6 * i + 2))), (3, .int (xs (6 * i + 3))), (4, .ref 3467)] [] _ _
      refine ab_fin.s2 (i := .aload 4) (k := 2) (pc' := 2) (lv' := [(0, .ref 0), (1, .int (xs (6 * i + 1))), (2, .int (xs (6 * i + 2))), (3, .int (xs (6 * i + 3))), (4, .ref 3467)]) (st' := [.ref 3467]) (by decide +kernel) rfl rfl ?_
      refine ab_fin.s1i (i := .iconst 0) (k := 1) (pc' := 3) (n := 0) (by decide +kernel) rfl (by decide +kernel) rfl ?_
      refine ab_fin.s2 (i := .aload_n 0) (k := 1) (pc' := 4) (lv' := [(0, .ref 0), (1, .int (xs (6 * i + 1))), (2, .int (xs (6 * i + 2))), (3, .int (xs (6 * i + 3))), (4, .ref 3467)]) (st' := [.ref 0, .int 0, .ref 3467]) (by decide +kernel) rfl rfl ?_
      refine ab_fin.s2 (i := .iload_n 1) (k := 1) (pc' := 5) (lv' := [(0, .ref 0), (1, .int (xs (6 * i + 1))), (2, .int (xs (6 * i + 2))), (3, .int (xs (6 * i + 3))), (4, .ref 3467)]) (st' := [.int (xs (6 * i + 1)), .ref 0, .int 0, .ref 3467]) (by decide +kernel) rfl rfl ?_
      refine ab_fin.s2 (i := .iload_n 2) (k := 1) (pc' := 6) (lv' := [(0, .ref 0), (1, .int (xs (6 * i + 1))), (2, .int (xs (6 * i + 2))), (3, .int (xs (6 * i + 3))), (4, .ref 3467)]) (st' := [.int (xs (6 * i + 2)), .int (xs (6 * i + 1)), .ref 0, .int 0, .ref 3467]) (by decide +kernel) rfl rfl ?_
      refine ab_fin.s2 (i := .iload_n 3) (k := 1) (pc' := 7) (lv' := [(0, .ref 0), (1, .int (xs (6 * i + 1))), (2, .int (xs (6 * i + 2))), (3, .int (xs (6 * i + 3))), (4, .ref 3467)]) (st' := [.int (xs (6 * i + 3)), .int (xs (6 * i + 2)), .int (xs (6 * i + 1)), .ref 0, .int 0, .ref 3467]) (by decide +kernel) rfl rfl ?_
      refine ab_fin.call (i := .invokevirtual 36) (k := 3) (y := 3083) (As := [.ref 0, .int (xs (6 * i + 1)), .int (xs (6 * i + 2)), .int (xs (6 * i + 3))]) (rest := [.int 0, .ref 3467]) (M' := (mX12_row, [])) (by decide +kernel) (ab_cv rfl rfl e13 ⟨(Nat.le_of_ble_eq_true rfl), (Nat.le_of_ble_eq_true rfl)⟩ rfl) rfl (Nat.le_of_ble_eq_true rfl) ?_
      show ab_fin _ _ _ _ 0 [(0, .ref 0), (1, .int (xs (6 * i + 1))), (2, .int (xs (6 * i + 2))), (3, .int (xs (6 * i + 3)))] [] _ _
      refine W0.C hG (fun a => [(0, .ref a), (1, .int (xs (6 * i + 1))), (2, .int (xs (6 * i + 2))), (3, .int (xs (6 * i + 3)))]) (fun g => rfl) hC (fun r0 hc1 fC1 h1 q1 W1 => ?_)
      obtain ⟨x9, e9⟩ := q1.2
      subst e9
      show ab_bk _ _ _ _ _ _ _ _ _ (.inr ("java/lang/IndexOutOfBoundsException", fC1 x9)) _
      refine ab_bk.catch (hp := 15) (by decide +kernel) rfl ?_
      refine ab_fin.s2 (i := .astore 5) (k := 2) (pc' := 17) (lv' := [(5, .ref (fC1 x9)), (0, .ref 0), (1, .int (xs (6 * i + 1))), (2, .int (xs (6 * i + 2))), (3, .int (xs (6 * i + 3))), (4, .ref 3467)]) (st' := []) (by decide +kernel) rfl rfl ?_
      refine ab_fin.s1i (i := .iconst 1) (k := 1) (pc' := 18) (n := 1) (by decide +kernel) rfl (by decide +kernel) rfl ?_
      refine ab_fin.ret (i := .ireturn) (k := 1) (some (.int 1)) (by decide +kernel) rfl ?_
      refine ab_bk.back (pc' := 606) (st' := [.int 1]) rfl rfl ?_
      refine ab_fin.s2 (i := .istore 5) (k := 2) (pc' := 608) (lv' := [(5, .int 1), (4, .int (Int32.ofNat (6 * i))), (3, .ref 3467), (2, .ref 102), (1, .ref 0), (0, .retAddr 9)]) (st' := []) (by decide +kernel) rfl rfl ?_
      refine ab_fin.s2 (i := .aload_n 2) (k := 1) (pc' := 609) (lv' := [(5, .int 1), (4, .int (Int32.ofNat (6 * i))), (3, .ref 3467), (2, .ref 102), (1, .ref 0), (0, .retAddr 9)]) (st' := [.ref 102]) (by decide +kernel) rfl rfl ?_
      refine ab_fin.s2 (i := .aload_n 0) (k := 1) (pc' := 610) (lv' := [(5, .int 1), (4, .int (Int32.ofNat (6 * i))), (3, .ref 3467), (2, .ref 102), (1, .ref 0), (0, .retAddr 9)]) (st' := [.retAddr 9, .ref 102]) (by decide +kernel) rfl rfl ?_
      refine ab_fin.s2 (i := .iload 4) (k := 2) (pc' := 612) (lv' := [(5, .int 1), (4, .int (Int32.ofNat (6 * i))), (3, .ref 3467), (2, .ref 102), (1, .ref 0), (0, .retAddr 9)]) (st' := [.int (Int32.ofNat (6 * i)), .retAddr 9, .ref 102]) (by decide +kernel) rfl rfl ?_
      refine ab_fin.s1i (i := .iconst 1) (k := 1) (pc' := 613) (n := 1) (by decide +kernel) rfl (by decide +kernel) rfl ?_
      refine ab_fin.s1 (i := .iadd) (k := 1) (pc' := 614) (st' := [.int (Int32.ofNat (6 * i) + 1), .retAddr 9, .ref 102]) (by decide +kernel) rfl rfl ?_
      refine ab_fin.s8 (i := .iaload) (k := 1) (pc' := 615) (st' := [.int (xs (6 * i + 1)), .ref 102]) (by decide +kernel) (ab_x0 rfl (ix_v (i := i) (j := 1) (L := L) (y := 1) (by omega) hL rfl).1 (congrArg (fun k => Value.int (xs k)) (ix_v (i := i) (j := 1) (L := L) (y := 1) (by omega) hL rfl).2)) rfl rfl rfl ?_
      refine ab_fin.s2 (i := .aload_n 0) (k := 1) (pc' := 616) (lv' := [(5, .int 1), (4, .int (Int32.ofNat (6 * i))), (3, .ref 3467), (2, .ref 102), (1, .ref 0), (0, .retAddr 9)]) (st' := [.retAddr 9, .int (xs (6 * i + 1)), .ref 102]) (by decide +kernel) rfl rfl ?_
      refine ab_fin.s2 (i := .iload 4) (k := 2) (pc' := 618) (lv' := [(5, .int 1), (4, .int (Int32.ofNat (6 * i))), (3, .ref 3467), (2, .ref 102), (1, .ref 0), (0, .retAddr 9)]) (st' := [.int (Int32.ofNat (6 * i)), .retAddr 9, .int (xs (6 * i + 1)), .ref 102]) (by decide +kernel) rfl rfl ?_
      refine ab_fin.s1i (i := .iconst 2) (k := 1) (pc' := 619) (n := 2) (by decide +kernel) rfl (by decide +kernel) rfl ?_
      refine ab_fin.s1 (i := .iadd) (k := 1) (pc' := 620) (st' := [.int (Int32.ofNat (6 * i) + 2), .retAddr 9, .int (xs (6 * i + 1)), .ref 102]) (by decide +kernel) rfl rfl ?_
      refine ab_fin.s8 (i := .iaload) (k := 1) (pc' := 621) (st' := [.int (xs (6 * i + 2)), .int (xs (6 * i + 1)), .ref 102]) (by decide +kernel) (ab_x0 rfl (ix_v (i := i) (j := 2) (L := L) (y := 2) (by omega) hL rfl).1 (congrArg (fun k => Value.int (xs k)) (ix_v (i := i) (j := 2) (L := L) (y := 2) (by omega) hL rfl).2)) rfl rfl rfl ?_
      refine ab_fin.s2 (i := .aload_n 0) (k := 1) (pc' := 622) (lv' := [(5, .int 1), (4, .int (Int32.ofNat (6 * i))), (3, .ref 3467), (2, .ref 102), (1, .ref 0), (0, .retAddr 9)]) (st' := [.retAddr 9, .int (xs (6 * i + 2)), .int (xs (6 * i + 1)), .ref 102]) (by decide +kernel) rfl rfl ?_
      refine ab_fin.s2 (i := .iload 4) (k := 2) (pc' := 624) (lv' := [(5, .int 1), (4, .int (Int32.ofNat (6 * i))), (3, .ref 3467), (2, .ref 102), (1, .ref 0), (0, .retAddr 9)]) (st' := [.int (Int32.ofNat (6 * i)), .retAddr 9, .int (xs (6 * i + 2)), .int (xs (6 * i + 1)), .ref 102]) (by decide +kernel) rfl rfl ?_
      refine ab_fin.s1i (i := .iconst 3) (k := 1) (pc' := 625) (n := 3) (by decide +kernel) rfl (by decide +kernel) rfl ?_
      refine ab_fin.s1 (i := .iadd) (k := 1) (pc' := 626) (st' := [.int (Int32.ofNat (6 * i) + 3), .retAddr 9, .int (xs (6 * i + 2)), .int (xs (6 * i + 1)), .ref 102]) (by decide +kernel) rfl rfl ?_
      refine ab_fin.s8 (i := .iaload) (k := 1) (pc' := 627) (st' := [.int (xs (6 * i + 3)), .int (xs (6 * i + 2)), .int (xs (6 * i + 1)), .ref 102]) (by decide +kernel) (ab_x0 rfl (ix_v (i := i) (j := 3) (L := L) (y := 3) (by omega) hL rfl).1 (congrArg (fun k => Value.int (xs k)) (ix_v (i := i) (j := 3) (L := L) (y := 3) (by omega) hL rfl).2)) rfl rfl rfl ?_
      refine ab_fin.call (i := .invokevirtual 110) (k := 3) (y := 6003) (As := [.ref 102, .int (xs (6 * i + 1)), .int (xs (6 * i + 2)), .int (xs (6 * i + 3))]) (rest := []) (M' := (mX23_row, [])) (by decide +kernel) (ab_cv rfl rfl (W1.r0 e24) ⟨(Nat.le_of_ble_eq_true rfl), (Nat.le_of_ble_eq_true rfl)⟩ rfl) rfl (Nat.le_of_ble_eq_true rfl) ?_
      show ab_fin _ _ _ _ 0 [(0, .ref 102), (1, .int (xs (6 * i + 1))), (2, .int (xs (6 * i + 2))), (3, .int (xs (6 * i + 3)))] [] _ _
      refine W1.R hG (fun a => [(0, .ref a), (1, .int (xs (6 * i + 1))), (2, .int (xs (6 * i + 2))), (3, .int (xs (6 * i + 3)))]) (fun g => rfl) hR (fun r0 hr1 fR1 h2 q2 W2 => ?_)
      obtain rfl : r0 = .inl (some (.int 0)) := q2.2.1
      show ab_bk _ _ _ _ _ _ _ _ _ (.inl (some (.int 0))) _
      refine ab_bk.back (pc' := 630) (st' := [.int 0]) rfl rfl ?_
      obtain ⟨fs, t1, t2⟩ := thrR.at W2 q2.2.2
      refine ab_fin.s2 (i := .istore 6) (k := 2) (pc' := 632) (lv' := [(6, .int 0), (5, .int 1), (4, .int (Int32.ofNat (6 * i))), (3, .ref 3467), (2, .ref 102), (1, .ref 0), (0, .retAddr 9)]) (st' := []) (by decide +kernel) rfl rfl ?_
      refine ab_fin.s2 (i := .aload_n 2) (k := 1) (pc' := 633) (lv' := [(6, .int 0), (5, .int 1), (4, .int (Int32.ofNat (6 * i))), (3, .ref 3467), (2, .ref 102), (1, .ref 0), (0, .retAddr 9)]) (st' := [.ref 102]) (by decide +kernel) rfl rfl ?_
      refine ab_fin.call (i := .invokevirtual 75) (k := 3) (y := 5992) (As := [.ref 102]) (rest := []) (M' := (mX23_thrown, [])) (by decide +kernel) (ab_cv rfl rfl t1 ⟨(Nat.le_of_ble_eq_true rfl), (Nat.le_of_ble_eq_true rfl)⟩ rfl) rfl (Nat.le_of_ble_eq_true rfl) ?_
      show ab_fin _ _ _ _ 0 [(0, .ref 102)] [] _ _
      refine ab_fin.s2 (i := .aload_n 0) (k := 1) (pc' := 1) (lv' := [(0, .ref 102)]) (st' := [.ref 102]) (by decide +kernel) rfl rfl ?_
      refine ab_fin.getf (ix := 1000) (k := 110) (v := .int 1) (pc' := 4) (by decide +kernel) rfl t1 t2 rfl ?_
      refine ab_fin.ret (i := .ireturn) (k := 1) (some (.int 1)) (by decide +kernel) rfl ?_
      refine ab_bk.back (pc' := 636) (st' := [.int 1]) rfl rfl ?_
      refine ab_fin.s2 (i := .iload 5) (k := 2) (pc' := 638) (lv' := [(6, .int 0), (5, .int 1), (4, .int (Int32.ofNat (6 * i))), (3, .ref 3467), (2, .ref 102), (1, .ref 0), (0, .retAddr 9)]) (st' := [.int 1, .int 1]) (by decide +kernel) rfl rfl ?_
      refine ab_fin.brT (c := (1 : Int32) = (1 : Int32)) (i := .if_icmp .eq 5) (off := 5) (t := 643) (r := []) (by decide +kernel) rfl (by decide +kernel) rfl ?_
      refine ab_fin.s2 (i := .iload 5) (k := 2) (pc' := 645) (lv' := [(6, .int 0), (5, .int 1), (4, .int (Int32.ofNat (6 * i))), (3, .ref 3467), (2, .ref 102), (1, .ref 0), (0, .retAddr 9)]) (st' := [.int 1]) (by decide +kernel) rfl rfl ?_
      refine ab_fin.brT (c := ¬ (1 : Int32) = 0) (i := .ifCond .ne 15) (off := 15) (t := 660) (r := []) (by decide +kernel) rfl (by decide +kernel) (by decide +kernel) ?_
      refine ab_fin.s3 (i := .goto 430) (k := 3) (t := 1090) (st' := []) (by decide +kernel) (ab_goto (by decide +kernel)) ?_
      refine ab_fin.lv (lv' := [(4, .int (Int32.ofNat (6 * i))), (3, .ref 3467), (2, .ref 102), (1, .ref 0), (0, .retAddr 9)]) ⟨fun q hq => ?_, (by show ([6, 5, 4, 3, 2, 1, 0] : List Nat).Nodup; decide)⟩ (go _ _ _ _ _ _ W2 q1.1 q2.1)
      simp only [List.mem_cons, List.not_mem_nil, or_false] at hq ⊢
      rcases hq with rfl | rfl | rfl | rfl | rfl <;> simp
    · refine ab_fin.s2 (i := .aload_n 1) (k := 1) (pc' := 584) (lv' := [(4, .int (Int32.ofNat (6 * i))), (3, .ref 3467), (2, .ref 102), (1, .ref 0), (0, .retAddr 9)]) (st' := [.ref 0]) (by decide +kernel) rfl rfl ?_
      refine ab_fin.s2 (i := .aload_n 0) (k := 1) (pc' := 585) (lv' := [(4, .int (Int32.ofNat (6 * i))), (3, .ref 3467), (2, .ref 102), (1, .ref 0), (0, .retAddr 9)]) (st' := [.retAddr 9, .ref 0]) (by decide +kernel) rfl rfl ?_
      refine ab_fin.s2 (i := .iload 4) (k := 2) (pc' := 587) (lv' := [(4, .int (Int32.ofNat (6 * i))), (3, .ref 3467), (2, .ref 102), (1, .ref 0), (0, .retAddr 9)]) (st' := [.int (Int32.ofNat (6 * i)), .retAddr 9, .ref 0]) (by decide +kernel) rfl rfl ?_
      refine ab_fin.s1i (i := .iconst 1) (k := 1) (pc' := 588) (n := 1) (by decide +kernel) rfl (by decide +kernel) rfl ?_
      refine ab_fin.s1 (i := .iadd) (k := 1) (pc' := 589) (st' := [.int (Int32.ofNat (6 * i) + 1), .retAddr 9, .ref 0]) (by decide +kernel) rfl rfl ?_
      refine ab_fin.s8 (i := .iaload) (k := 1) (pc' := 590) (st' := [.int (xs (6 * i + 1)), .ref 0]) (by decide +kernel) (ab_x0 rfl (ix_v (i := i) (j := 1) (L := L) (y := 1) (by omega) hL rfl).1 (congrArg (fun k => Value.int (xs k)) (ix_v (i := i) (j := 1) (L := L) (y := 1) (by omega) hL rfl).2)) rfl rfl rfl ?_
      refine ab_fin.s2 (i := .aload_n 0) (k := 1) (pc' := 591) (lv' := [(4, .int (Int32.ofNat (6 * i))), (3, .ref 3467), (2, .ref 102), (1, .ref 0), (0, .retAddr 9)]) (st' := [.retAddr 9, .int (xs (6 * i + 1)), .ref 0]) (by decide +kernel) rfl rfl ?_
      refine ab_fin.s2 (i := .iload 4) (k := 2) (pc' := 593) (lv' := [(4, .int (Int32.ofNat (6 * i))), (3, .ref 3467), (2, .ref 102), (1, .ref 0), (0, .retAddr 9)]) (st' := [.int (Int32.ofNat (6 * i)), .retAddr 9, .int (xs (6 * i + 1)), .ref 0]) (by decide +kernel) rfl rfl ?_
      refine ab_fin.s1i (i := .iconst 2) (k := 1) (pc' := 594) (n := 2) (by decide +kernel) rfl (by decide +kernel) rfl ?_
      refine ab_fin.s1 (i := .iadd) (k := 1) (pc' := 595) (st' := [.int (Int32.ofNat (6 * i) + 2), .retAddr 9, .int (xs (6 * i + 1)), .ref 0]) (by decide +kernel) rfl rfl ?_
      refine ab_fin.s8 (i := .iaload) (k := 1) (pc' := 596) (st' := [.int (xs (6 * i + 2)), .int (xs (6 * i + 1)), .ref 0]) (by decide +kernel) (ab_x0 rfl (ix_v (i := i) (j := 2) (L := L) (y := 2) (by omega) hL rfl).1 (congrArg (fun k => Value.int (xs k)) (ix_v (i := i) (j := 2) (L := L) (y := 2) (by omega) hL rfl).2)) rfl rfl rfl ?_
      refine ab_fin.s2 (i := .aload_n 0) (k := 1) (pc' := 597) (lv' := [(4, .int (Int32.ofNat (6 * i))), (3, .ref 3467), (2, .ref 102), (1, .ref 0), (0, .retAddr 9)]) (st' := [.retAddr 9, .int (xs (6 * i + 2)), .int (xs (6 * i + 1)), .ref 0]) (by decide +kernel) rfl rfl ?_
      refine ab_fin.s2 (i := .iload 4) (k := 2) (pc' := 599) (lv' := [(4, .int (Int32.ofNat (6 * i))), (3, .ref 3467), (2, .ref 102), (1, .ref 0), (0, .retAddr 9)]) (st' := [.int (Int32.ofNat (6 * i)), .retAddr 9, .int (xs (6 * i + 2)), .int (xs (6 * i + 1)), .ref 0]) (by decide +kernel) rfl rfl ?_
      refine ab_fin.s1i (i := .iconst 3) (k := 1) (pc' := 600) (n := 3) (by decide +kernel) rfl (by decide +kernel) rfl ?_
      refine ab_fin.s1 (i := .iadd) (k := 1) (pc' := 601) (st' := [.int (Int32.ofNat (6 * i) + 3), .retAddr 9, .int (xs (6 * i + 2)), .int (xs (6 * i + 1)), .ref 0]) (by decide +kernel) rfl rfl ?_
      refine ab_fin.s8 (i := .iaload) (k := 1) (pc' := 602) (st' := [.int (xs (6 * i + 3)), .int (xs (6 * i + 2)), .int (xs (6 * i + 1)), .ref 0]) (by decide +kernel) (ab_x0 rfl (ix_v (i := i) (j := 3) (L := L) (y := 3) (by omega) hL rfl).1 (congrArg (fun k => Value.int (xs k)) (ix_v (i := i) (j := 3) (L := L) (y := 3) (by omega) hL rfl).2)) rfl rfl rfl ?_
      refine ab_fin.s2 (i := .aload_n 3) (k := 1) (pc' := 603) (lv' := [(4, .int (Int32.ofNat (6 * i))), (3, .ref 3467), (2, .ref 102), (1, .ref 0), (0, .retAddr 9)]) (st' := [.ref 3467, .int (xs (6 * i + 3)), .int (xs (6 * i + 2)), .int (xs (6 * i + 1)), .ref 0]) (by decide +kernel) rfl rfl ?_
      refine ab_fin.call (i := .invokestatic 107) (k := 3) (y := 13518) (As := [.ref 0, .int (xs (6 * i + 1)), .int (xs (6 * i + 2)), .int (xs (6 * i + 3)), .ref 3467]) (rest := []) (M' := (mL_row, [(0, 12, 15, 13), (0, 12, 19, 19)])) (by decide +kernel) (ab_cs rfl rfl ⟨(Nat.le_of_ble_eq_true rfl), (Nat.le_of_ble_eq_true rfl)⟩ rfl) rfl (Nat.le_of_ble_eq_true rfl) ?_
      show ab_fin _ _ _ _ 0 [(0, .ref 0), (1, .int (xs (6 * i + 1))), (2, .int (xs (6 * i + 2))), (3, .int (xs (6 * i + 3))), (4, .ref 3467)] [] _ _
      refine ab_fin.s2 (i := .aload 4) (k := 2) (pc' := 2) (lv' := [(0, .ref 0), (1, .int (xs (6 * i + 1))), (2, .int (xs (6 * i + 2))), (3, .int (xs (6 * i + 3))), (4, .ref 3467)]) (st' := [.ref 3467]) (by decide +kernel) rfl rfl ?_
      refine ab_fin.s1i (i := .iconst 0) (k := 1) (pc' := 3) (n := 0) (by decide +kernel) rfl (by decide +kernel) rfl ?_
      refine ab_fin.s2 (i := .aload_n 0) (k := 1) (pc' := 4) (lv' := [(0, .ref 0), (1, .int (xs (6 * i + 1))), (2, .int (xs (6 * i + 2))), (3, .int (xs (6 * i + 3))), (4, .ref 3467)]) (st' := [.ref 0, .int 0, .ref 3467]) (by decide +kernel) rfl rfl ?_
      refine ab_fin.s2 (i := .iload_n 1) (k := 1) (pc' := 5) (lv' := [(0, .ref 0), (1, .int (xs (6 * i + 1))), (2, .int (xs (6 * i + 2))), (3, .int (xs (6 * i + 3))), (4, .ref 3467)]) (st' := [.int (xs (6 * i + 1)), .ref 0, .int 0, .ref 3467]) (by decide +kernel) rfl rfl ?_
      refine ab_fin.s2 (i := .iload_n 2) (k := 1) (pc' := 6) (lv' := [(0, .ref 0), (1, .int (xs (6 * i + 1))), (2, .int (xs (6 * i + 2))), (3, .int (xs (6 * i + 3))), (4, .ref 3467)]) (st' := [.int (xs (6 * i + 2)), .int (xs (6 * i + 1)), .ref 0, .int 0, .ref 3467]) (by decide +kernel) rfl rfl ?_
      refine ab_fin.s2 (i := .iload_n 3) (k := 1) (pc' := 7) (lv' := [(0, .ref 0), (1, .int (xs (6 * i + 1))), (2, .int (xs (6 * i + 2))), (3, .int (xs (6 * i + 3))), (4, .ref 3467)]) (st' := [.int (xs (6 * i + 3)), .int (xs (6 * i + 2)), .int (xs (6 * i + 1)), .ref 0, .int 0, .ref 3467]) (by decide +kernel) rfl rfl ?_
      refine ab_fin.call (i := .invokevirtual 36) (k := 3) (y := 3083) (As := [.ref 0, .int (xs (6 * i + 1)), .int (xs (6 * i + 2)), .int (xs (6 * i + 3))]) (rest := [.int 0, .ref 3467]) (M' := (mX12_row, [])) (by decide +kernel) (ab_cv rfl rfl e13 ⟨(Nat.le_of_ble_eq_true rfl), (Nat.le_of_ble_eq_true rfl)⟩ rfl) rfl (Nat.le_of_ble_eq_true rfl) ?_
      show ab_fin _ _ _ _ 0 [(0, .ref 0), (1, .int (xs (6 * i + 1))), (2, .int (xs (6 * i + 2))), (3, .int (xs (6 * i + 3)))] [] _ _
      refine W0.C hG (fun a => [(0, .ref a), (1, .int (xs (6 * i + 1))), (2, .int (xs (6 * i + 2))), (3, .int (xs (6 * i + 3)))]) (fun g => rfl) hC (fun r0 hc1 fC1 h1 q1 W1 => ?_)
      obtain ⟨x9, e9⟩ := q1.2
      subst e9
      show ab_bk _ _ _ _ _ _ _ _ _ (.inr ("java/lang/IllegalArgumentException", fC1 x9)) _
      refine ab_bk.catch (hp := 19) (by decide +kernel) rfl ?_
      refine ab_fin.s2 (i := .astore 5) (k := 2) (pc' := 21) (lv' := [(5, .ref (fC1 x9)), (0, .ref 0), (1, .int (xs (6 * i + 1))), (2, .int (xs (6 * i + 2))), (3, .int (xs (6 * i + 3))), (4, .ref 3467)]) (st' := []) (by decide +kernel) rfl rfl ?_
      refine ab_fin.s1i (i := .iconst 2) (k := 1) (pc' := 22) (n := 2) (by decide +kernel) rfl (by decide +kernel) rfl ?_
      refine ab_fin.ret (i := .ireturn) (k := 1) (some (.int 2)) (by decide +kernel) rfl ?_
      refine ab_bk.back (pc' := 606) (st' := [.int 2]) rfl rfl ?_
      refine ab_fin.s2 (i := .istore 5) (k := 2) (pc' := 608) (lv' := [(5, .int 2), (4, .int (Int32.ofNat (6 * i))), (3, .ref 3467), (2, .ref 102), (1, .ref 0), (0, .retAddr 9)]) (st' := []) (by decide +kernel) rfl rfl ?_
      refine ab_fin.s2 (i := .aload_n 2) (k := 1) (pc' := 609) (lv' := [(5, .int 2), (4, .int (Int32.ofNat (6 * i))), (3, .ref 3467), (2, .ref 102), (1, .ref 0), (0, .retAddr 9)]) (st' := [.ref 102]) (by decide +kernel) rfl rfl ?_
      refine ab_fin.s2 (i := .aload_n 0) (k := 1) (pc' := 610) (lv' := [(5, .int 2), (4, .int (Int32.ofNat (6 * i))), (3, .ref 3467), (2, .ref 102), (1, .ref 0), (0, .retAddr 9)]) (st' := [.retAddr 9, .ref 102]) (by decide +kernel) rfl rfl ?_
      refine ab_fin.s2 (i := .iload 4) (k := 2) (pc' := 612) (lv' := [(5, .int 2), (4, .int (Int32.ofNat (6 * i))), (3, .ref 3467), (2, .ref 102), (1, .ref 0), (0, .retAddr 9)]) (st' := [.int (Int32.ofNat (6 * i)), .retAddr 9, .ref 102]) (by decide +kernel) rfl rfl ?_
      refine ab_fin.s1i (i := .iconst 1) (k := 1) (pc' := 613) (n := 1) (by decide +kernel) rfl (by decide +kernel) rfl ?_
      refine ab_fin.s1 (i := .iadd) (k := 1) (pc' := 614) (st' := [.int (Int32.ofNat (6 * i) + 1), .retAddr 9, .ref 102]) (by decide +kernel) rfl rfl ?_
      refine ab_fin.s8 (i := .iaload) (k := 1) (pc' := 615) (st' := [.int (xs (6 * i + 1)), .ref 102]) (by decide +kernel) (ab_x0 rfl (ix_v (i := i) (j := 1) (L := L) (y := 1) (by omega) hL rfl).1 (congrArg (fun k => Value.int (xs k)) (ix_v (i := i) (j := 1) (L := L) (y := 1) (by omega) hL rfl).2)) rfl rfl rfl ?_
      refine ab_fin.s2 (i := .aload_n 0) (k := 1) (pc' := 616) (lv' := [(5, .int 2), (4, .int (Int32.ofNat (6 * i))), (3, .ref 3467), (2, .ref 102), (1, .ref 0), (0, .retAddr 9)]) (st' := [.retAddr 9, .int (xs (6 * i + 1)), .ref 102]) (by decide +kernel) rfl rfl ?_
      refine ab_fin.s2 (i := .iload 4) (k := 2) (pc' := 618) (lv' := [(5, .int 2), (4, .int (Int32.ofNat (6 * i))), (3, .ref 3467), (2, .ref 102), (1, .ref 0), (0, .retAddr 9)]) (st' := [.int (Int32.ofNat (6 * i)), .retAddr 9, .int (xs (6 * i + 1)), .ref 102]) (by decide +kernel) rfl rfl ?_
      refine ab_fin.s1i (i := .iconst 2) (k := 1) (pc' := 619) (n := 2) (by decide +kernel) rfl (by decide +kernel) rfl ?_
      refine ab_fin.s1 (i := .iadd) (k := 1) (pc' := 620) (st' := [.int (Int32.ofNat (6 * i) + 2), .retAddr 9, .int (xs (6 * i + 1)), .ref 102]) (by decide +kernel) rfl rfl ?_
      refine ab_fin.s8 (i := .iaload) (k := 1) (pc' := 621) (st' := [.int (xs (6 * i + 2)), .int (xs (6 * i + 1)), .ref 102]) (by decide +kernel) (ab_x0 rfl (ix_v (i := i) (j := 2) (L := L) (y := 2) (by omega) hL rfl).1 (congrArg (fun k => Value.int (xs k)) (ix_v (i := i) (j := 2) (L := L) (y := 2) (by omega) hL rfl).2)) rfl rfl rfl ?_
      refine ab_fin.s2 (i := .aload_n 0) (k := 1) (pc' := 622) (lv' := [(5, .int 2), (4, .int (Int32.ofNat (6 * i))), (3, .ref 3467), (2, .ref 102), (1, .ref 0), (0, .retAddr 9)]) (st' := [.retAddr 9, .int (xs (6 * i + 2)), .int (xs (6 * i + 1)), .ref 102]) (by decide +kernel) rfl rfl ?_
      refine ab_fin.s2 (i := .iload 4) (k := 2) (pc' := 624) (lv' := [(5, .int 2), (4, .int (Int32.ofNat (6 * i))), (3, .ref 3467), (2, .ref 102), (1, .ref 0), (0, .retAddr 9)]) (st' := [.int (Int32.ofNat (6 * i)), .retAddr 9, .int (xs (6 * i + 2)), .int (xs (6 * i + 1)), .ref 102]) (by decide +kernel) rfl rfl ?_
      refine ab_fin.s1i (i := .iconst 3) (k := 1) (pc' := 625) (n := 3) (by decide +kernel) rfl (by decide +kernel) rfl ?_
      refine ab_fin.s1 (i := .iadd) (k := 1) (pc' := 626) (st' := [.int (Int32.ofNat (6 * i) + 3), .retAddr 9, .int (xs (6 * i + 2)), .int (xs (6 * i + 1)), .ref 102]) (by decide +kernel) rfl rfl ?_
      refine ab_fin.s8 (i := .iaload) (k := 1) (pc' := 627) (st' := [.int (xs (6 * i + 3)), .int (xs (6 * i + 2)), .int (xs (6 * i + 1)), .ref 102]) (by decide +kernel) (ab_x0 rfl (ix_v (i := i) (j := 3) (L := L) (y := 3) (by omega) hL rfl).1 (congrArg (fun k => Value.int (xs k)) (ix_v (i := i) (j := 3) (L := L) (y := 3) (by omega) hL rfl).2)) rfl rfl rfl ?_
      refine ab_fin.call (i := .invokevirtual 110) (k := 3) (y := 6003) (As := [.ref 102, .int (xs (6 * i + 1)), .int (xs (6 * i + 2)), .int (xs (6 * i + 3))]) (rest := []) (M' := (mX23_row, [])) (by decide +kernel) (ab_cv rfl rfl (W1.r0 e24) ⟨(Nat.le_of_ble_eq_true rfl), (Nat.le_of_ble_eq_true rfl)⟩ rfl) rfl (Nat.le_of_ble_eq_true rfl) ?_
      show ab_fin _ _ _ _ 0 [(0, .ref 102), (1, .int (xs (6 * i + 1))), (2, .int (xs (6 * i + 2))), (3, .int (xs (6 * i + 3)))] [] _ _
      refine W1.R hG (fun a => [(0, .ref a), (1, .int (xs (6 * i + 1))), (2, .int (xs (6 * i + 2))), (3, .int (xs (6 * i + 3)))]) (fun g => rfl) hR (fun r0 hr1 fR1 h2 q2 W2 => ?_)
      obtain rfl : r0 = .inl (some (.int 0)) := q2.2.1
      show ab_bk _ _ _ _ _ _ _ _ _ (.inl (some (.int 0))) _
      refine ab_bk.back (pc' := 630) (st' := [.int 0]) rfl rfl ?_
      obtain ⟨fs, t1, t2⟩ := thrR.at W2 q2.2.2
      refine ab_fin.s2 (i := .istore 6) (k := 2) (pc' := 632) (lv' := [(6, .int 0), (5, .int 2), (4, .int (Int32.ofNat (6 * i))), (3, .ref 3467), (2, .ref 102), (1, .ref 0), (0, .retAddr 9)]) (st' := []) (by decide +kernel) rfl rfl ?_
      refine ab_fin.s2 (i := .aload_n 2) (k := 1) (pc' := 633) (lv' := [(6, .int 0), (5, .int 2), (4, .int (Int32.ofNat (6 * i))), (3, .ref 3467), (2, .ref 102), (1, .ref 0), (0, .retAddr 9)]) (st' := [.ref 102]) (by decide +kernel) rfl rfl ?_
      refine ab_fin.call (i := .invokevirtual 75) (k := 3) (y := 5992) (As := [.ref 102]) (rest := []) (M' := (mX23_thrown, [])) (by decide +kernel) (ab_cv rfl rfl t1 ⟨(Nat.le_of_ble_eq_true rfl), (Nat.le_of_ble_eq_true rfl)⟩ rfl) rfl (Nat.le_of_ble_eq_true rfl) ?_
      show ab_fin _ _ _ _ 0 [(0, .ref 102)] [] _ _
      refine ab_fin.s2 (i := .aload_n 0) (k := 1) (pc' := 1) (lv' := [(0, .ref 102)]) (st' := [.ref 102]) (by decide +kernel) rfl rfl ?_
      refine ab_fin.getf (ix := 1000) (k := 110) (v := .int 2) (pc' := 4) (by decide +kernel) rfl t1 t2 rfl ?_
      refine ab_fin.ret (i := .ireturn) (k := 1) (some (.int 2)) (by decide +kernel) rfl ?_
      refine ab_bk.back (pc' := 636) (st' := [.int 2]) rfl rfl ?_
      refine ab_fin.s2 (i := .iload 5) (k := 2) (pc' := 638) (lv' := [(6, .int 0), (5, .int 2), (4, .int (Int32.ofNat (6 * i))), (3, .ref 3467), (2, .ref 102), (1, .ref 0), (0, .retAddr 9)]) (st' := [.int 2, .int 2]) (by decide +kernel) rfl rfl ?_
      refine ab_fin.brT (c := (2 : Int32) = (2 : Int32)) (i := .if_icmp .eq 5) (off := 5) (t := 643) (r := []) (by decide +kernel) rfl (by decide +kernel) rfl ?_
      refine ab_fin.s2 (i := .iload 5) (k := 2) (pc' := 645) (lv' := [(6, .int 0), (5, .int 2), (4, .int (Int32.ofNat (6 * i))), (3, .ref 3467), (2, .ref 102), (1, .ref 0), (0, .retAddr 9)]) (st' := [.int 2]) (by decide +kernel) rfl rfl ?_
      refine ab_fin.brT (c := ¬ (2 : Int32) = 0) (i := .ifCond .ne 15) (off := 15) (t := 660) (r := []) (by decide +kernel) rfl (by decide +kernel) (by decide +kernel) ?_
      refine ab_fin.s3 (i := .goto 430) (k := 3) (t := 1090) (st' := []) (by decide +kernel) (ab_goto (by decide +kernel)) ?_
      refine ab_fin.lv (lv' := [(4, .int (Int32.ofNat (6 * i))), (3, .ref 3467), (2, .ref 102), (1, .ref 0), (0, .retAddr 9)]) ⟨fun q hq => ?_, (by show ([6, 5, 4, 3, 2, 1, 0] : List Nat).Nodup; decide)⟩ (go _ _ _ _ _ _ W2 q1.1 q2.1)
      simp only [List.mem_cons, List.not_mem_nil, or_false] at hq ⊢
      rcases hq with rfl | rfl | rfl | rfl | rfl <;> simp
  · refine ab_fin.s2 (i := .aload_n 1) (k := 1) (pc' := 584) (lv' := [(4, .int (Int32.ofNat (6 * i))), (3, .ref 3467), (2, .ref 102), (1, .ref 0), (0, .retAddr 9)]) (st' := [.ref 0]) (by decide +kernel) rfl rfl ?_
    refine ab_fin.s2 (i := .aload_n 0) (k := 1) (pc' := 585) (lv' := [(4, .int (Int32.ofNat (6 * i))), (3, .ref 3467), (2, .ref 102), (1, .ref 0), (0, .retAddr 9)]) (st' := [.retAddr 9, .ref 0]) (by decide +kernel) rfl rfl ?_
    refine ab_fin.s2 (i := .iload 4) (k := 2) (pc' := 587) (lv' := [(4, .int (Int32.ofNat (6 * i))), (3, .ref 3467), (2, .ref 102), (1, .ref 0), (0, .retAddr 9)]) (st' := [.int (Int32.ofNat (6 * i)), .retAddr 9, .ref 0]) (by decide +kernel) rfl rfl ?_
    refine ab_fin.s1i (i := .iconst 1) (k := 1) (pc' := 588) (n := 1) (by decide +kernel) rfl (by decide +kernel) rfl ?_
    refine ab_fin.s1 (i := .iadd) (k := 1) (pc' := 589) (st' := [.int (Int32.ofNat (6 * i) + 1), .retAddr 9, .ref 0]) (by decide +kernel) rfl rfl ?_
    refine ab_fin.s8 (i := .iaload) (k := 1) (pc' := 590) (st' := [.int (xs (6 * i + 1)), .ref 0]) (by decide +kernel) (ab_x0 rfl (ix_v (i := i) (j := 1) (L := L) (y := 1) (by omega) hL rfl).1 (congrArg (fun k => Value.int (xs k)) (ix_v (i := i) (j := 1) (L := L) (y := 1) (by omega) hL rfl).2)) rfl rfl rfl ?_
    refine ab_fin.s2 (i := .aload_n 0) (k := 1) (pc' := 591) (lv' := [(4, .int (Int32.ofNat (6 * i))), (3, .ref 3467), (2, .ref 102), (1, .ref 0), (0, .retAddr 9)]) (st' := [.retAddr 9, .int (xs (6 * i + 1)), .ref 0]) (by decide +kernel) rfl rfl ?_
    refine ab_fin.s2 (i := .iload 4) (k := 2) (pc' := 593) (lv' := [(4, .int (Int32.ofNat (6 * i))), (3, .ref 3467), (2, .ref 102), (1, .ref 0), (0, .retAddr 9)]) (st' := [.int (Int32.ofNat (6 * i)), .retAddr 9, .int (xs (6 * i + 1)), .ref 0]) (by decide +kernel) rfl rfl ?_
    refine ab_fin.s1i (i := .iconst 2) (k := 1) (pc' := 594) (n := 2) (by decide +kernel) rfl (by decide +kernel) rfl ?_
    refine ab_fin.s1 (i := .iadd) (k := 1) (pc' := 595) (st' := [.int (Int32.ofNat (6 * i) + 2), .retAddr 9, .int (xs (6 * i + 1)), .ref 0]) (by decide +kernel) rfl rfl ?_
    refine ab_fin.s8 (i := .iaload) (k := 1) (pc' := 596) (st' := [.int (xs (6 * i + 2)), .int (xs (6 * i + 1)), .ref 0]) (by decide +kernel) (ab_x0 rfl (ix_v (i := i) (j := 2) (L := L) (y := 2) (by omega) hL rfl).1 (congrArg (fun k => Value.int (xs k)) (ix_v (i := i) (j := 2) (L := L) (y := 2) (by omega) hL rfl).2)) rfl rfl rfl ?_
    refine ab_fin.s2 (i := .aload_n 0) (k := 1) (pc' := 597) (lv' := [(4, .int (Int32.ofNat (6 * i))), (3, .ref 3467), (2, .ref 102), (1, .ref 0), (0, .retAddr 9)]) (st' := [.retAddr 9, .int (xs (6 * i + 2)), .int (xs (6 * i + 1)), .ref 0]) (by decide +kernel) rfl rfl ?_
    refine ab_fin.s2 (i := .iload 4) (k := 2) (pc' := 599) (lv' := [(4, .int (Int32.ofNat (6 * i))), (3, .ref 3467), (2, .ref 102), (1, .ref 0), (0, .retAddr 9)]) (st' := [.int (Int32.ofNat (6 * i)), .retAddr 9, .int (xs (6 * i + 2)), .int (xs (6 * i + 1)), .ref 0]) (by decide +kernel) rfl rfl ?_
    refine ab_fin.s1i (i := .iconst 3) (k := 1) (pc' := 600) (n := 3) (by decide +kernel) rfl (by decide +kernel) rfl ?_
    refine ab_fin.s1 (i := .iadd) (k := 1) (pc' := 601) (st' := [.int (Int32.ofNat (6 * i) + 3), .retAddr 9, .int (xs (6 * i + 2)), .int (xs (6 * i + 1)), .ref 0]) (by decide +kernel) rfl rfl ?_
    refine ab_fin.s8 (i := .iaload) (k := 1) (pc' := 602) (st' := [.int (xs (6 * i + 3)), .int (xs (6 * i + 2)), .int (xs (6 * i + 1)), .ref 0]) (by decide +kernel) (ab_x0 rfl (ix_v (i := i) (j := 3) (L := L) (y := 3) (by omega) hL rfl).1 (congrArg (fun k => Value.int (xs k)) (ix_v (i := i) (j := 3) (L := L) (y := 3) (by omega) hL rfl).2)) rfl rfl rfl ?_
    refine ab_fin.s2 (i := .aload_n 3) (k := 1) (pc' := 603) (lv' := [(4, .int (Int32.ofNat (6 * i))), (3, .ref 3467), (2, .ref 102), (1, .ref 0), (0, .retAddr 9)]) (st' := [.ref 3467, .int (xs (6 * i + 3)), .int (xs (6 * i + 2)), .int (xs (6 * i + 1)), .ref 0]) (by decide +kernel) rfl rfl ?_
    refine ab_fin.call (i := .invokestatic 107) (k := 3) (y := 13518) (As := [.ref 0, .int (xs (6 * i + 1)), .int (xs (6 * i + 2)), .int (xs (6 * i + 3)), .ref 3467]) (rest := []) (M' := (mL_row, [(0, 12, 15, 13), (0, 12, 19, 19)])) (by decide +kernel) (ab_cs rfl rfl ⟨(Nat.le_of_ble_eq_true rfl), (Nat.le_of_ble_eq_true rfl)⟩ rfl) rfl (Nat.le_of_ble_eq_true rfl) ?_
    show ab_fin _ _ _ _ 0 [(0, .ref 0), (1, .int (xs (6 * i + 1))), (2, .int (xs (6 * i + 2))), (3, .int (xs (6 * i + 3))), (4, .ref 3467)] [] _ _
    refine ab_fin.s2 (i := .aload 4) (k := 2) (pc' := 2) (lv' := [(0, .ref 0), (1, .int (xs (6 * i + 1))), (2, .int (xs (6 * i + 2))), (3, .int (xs (6 * i + 3))), (4, .ref 3467)]) (st' := [.ref 3467]) (by decide +kernel) rfl rfl ?_
    refine ab_fin.s1i (i := .iconst 0) (k := 1) (pc' := 3) (n := 0) (by decide +kernel) rfl (by decide +kernel) rfl ?_
    refine ab_fin.s2 (i := .aload_n 0) (k := 1) (pc' := 4) (lv' := [(0, .ref 0), (1, .int (xs (6 * i + 1))), (2, .int (xs (6 * i + 2))), (3, .int (xs (6 * i + 3))), (4, .ref 3467)]) (st' := [.ref 0, .int 0, .ref 3467]) (by decide +kernel) rfl rfl ?_
    refine ab_fin.s2 (i := .iload_n 1) (k := 1) (pc' := 5) (lv' := [(0, .ref 0), (1, .int (xs (6 * i + 1))), (2, .int (xs (6 * i + 2))), (3, .int (xs (6 * i + 3))), (4, .ref 3467)]) (st' := [.int (xs (6 * i + 1)), .ref 0, .int 0, .ref 3467]) (by decide +kernel) rfl rfl ?_
    refine ab_fin.s2 (i := .iload_n 2) (k := 1) (pc' := 6) (lv' := [(0, .ref 0), (1, .int (xs (6 * i + 1))), (2, .int (xs (6 * i + 2))), (3, .int (xs (6 * i + 3))), (4, .ref 3467)]) (st' := [.int (xs (6 * i + 2)), .int (xs (6 * i + 1)), .ref 0, .int 0, .ref 3467]) (by decide +kernel) rfl rfl ?_
    refine ab_fin.s2 (i := .iload_n 3) (k := 1) (pc' := 7) (lv' := [(0, .ref 0), (1, .int (xs (6 * i + 1))), (2, .int (xs (6 * i + 2))), (3, .int (xs (6 * i + 3))), (4, .ref 3467)]) (st' := [.int (xs (6 * i + 3)), .int (xs (6 * i + 2)), .int (xs (6 * i + 1)), .ref 0, .int 0, .ref 3467]) (by decide +kernel) rfl rfl ?_
    refine ab_fin.call (i := .invokevirtual 36) (k := 3) (y := 3083) (As := [.ref 0, .int (xs (6 * i + 1)), .int (xs (6 * i + 2)), .int (xs (6 * i + 3))]) (rest := [.int 0, .ref 3467]) (M' := (mX12_row, [])) (by decide +kernel) (ab_cv rfl rfl e13 ⟨(Nat.le_of_ble_eq_true rfl), (Nat.le_of_ble_eq_true rfl)⟩ rfl) rfl (Nat.le_of_ble_eq_true rfl) ?_
    show ab_fin _ _ _ _ 0 [(0, .ref 0), (1, .int (xs (6 * i + 1))), (2, .int (xs (6 * i + 2))), (3, .int (xs (6 * i + 3)))] [] _ _
    refine W0.C hG (fun a => [(0, .ref a), (1, .int (xs (6 * i + 1))), (2, .int (xs (6 * i + 2))), (3, .int (xs (6 * i + 3)))]) (fun g => rfl) hC (fun r0 hc1 fC1 h1 q1 W1 => ?_)
    obtain rfl : r0 = .inl (some (.int v)) := q1.2
    show ab_bk _ _ _ _ _ _ _ _ _ (.inl (some (.int v))) _
    refine ab_bk.back (pc' := 10) (st' := [.int v, .int 0, .ref 3467]) rfl rfl ?_
    refine ab_fin.s1 (i := .i2l) (k := 1) (pc' := 11) (st' := [.long (v.toInt64), .int 0, .ref 3467]) (by decide +kernel) rfl rfl ?_
    refine ab_fin.last (l := [o]) (h1 := h1.set 3467 (.inr (.inl (1, .inr (.inl [v.toInt64]))))) (pc' := 12) (by decide +kernel) W1.2.2.2.2.1 (hi0 _) rfl rfl ?_
    have W1x := W1.out (v.toInt64)
    refine ab_fin.s3 (i := .goto 11) (k := 3) (t := 23) (st' := []) (by decide +kernel) (ab_goto (by decide +kernel)) ?_
    refine ab_fin.s1i (i := .iconst 0) (k := 1) (pc' := 24) (n := 0) (by decide +kernel) rfl (by decide +kernel) rfl ?_
    refine ab_fin.ret (i := .ireturn) (k := 1) (some (.int 0)) (by decide +kernel) rfl ?_
    refine ab_bk.back (pc' := 606) (st' := [.int 0]) rfl rfl ?_
    refine ab_fin.s2 (i := .istore 5) (k := 2) (pc' := 608) (lv' := [(5, .int 0), (4, .int (Int32.ofNat (6 * i))), (3, .ref 3467), (2, .ref 102), (1, .ref 0), (0, .retAddr 9)]) (st' := []) (by decide +kernel) rfl rfl ?_
    refine ab_fin.s2 (i := .aload_n 2) (k := 1) (pc' := 609) (lv' := [(5, .int 0), (4, .int (Int32.ofNat (6 * i))), (3, .ref 3467), (2, .ref 102), (1, .ref 0), (0, .retAddr 9)]) (st' := [.ref 102]) (by decide +kernel) rfl rfl ?_
    refine ab_fin.s2 (i := .aload_n 0) (k := 1) (pc' := 610) (lv' := [(5, .int 0), (4, .int (Int32.ofNat (6 * i))), (3, .ref 3467), (2, .ref 102), (1, .ref 0), (0, .retAddr 9)]) (st' := [.retAddr 9, .ref 102]) (by decide +kernel) rfl rfl ?_
    refine ab_fin.s2 (i := .iload 4) (k := 2) (pc' := 612) (lv' := [(5, .int 0), (4, .int (Int32.ofNat (6 * i))), (3, .ref 3467), (2, .ref 102), (1, .ref 0), (0, .retAddr 9)]) (st' := [.int (Int32.ofNat (6 * i)), .retAddr 9, .ref 102]) (by decide +kernel) rfl rfl ?_
    refine ab_fin.s1i (i := .iconst 1) (k := 1) (pc' := 613) (n := 1) (by decide +kernel) rfl (by decide +kernel) rfl ?_
    refine ab_fin.s1 (i := .iadd) (k := 1) (pc' := 614) (st' := [.int (Int32.ofNat (6 * i) + 1), .retAddr 9, .ref 102]) (by decide +kernel) rfl rfl ?_
    refine ab_fin.s8 (i := .iaload) (k := 1) (pc' := 615) (st' := [.int (xs (6 * i + 1)), .ref 102]) (by decide +kernel) (ab_x0 rfl (ix_v (i := i) (j := 1) (L := L) (y := 1) (by omega) hL rfl).1 (congrArg (fun k => Value.int (xs k)) (ix_v (i := i) (j := 1) (L := L) (y := 1) (by omega) hL rfl).2)) rfl rfl rfl ?_
    refine ab_fin.s2 (i := .aload_n 0) (k := 1) (pc' := 616) (lv' := [(5, .int 0), (4, .int (Int32.ofNat (6 * i))), (3, .ref 3467), (2, .ref 102), (1, .ref 0), (0, .retAddr 9)]) (st' := [.retAddr 9, .int (xs (6 * i + 1)), .ref 102]) (by decide +kernel) rfl rfl ?_
    refine ab_fin.s2 (i := .iload 4) (k := 2) (pc' := 618) (lv' := [(5, .int 0), (4, .int (Int32.ofNat (6 * i))), (3, .ref 3467), (2, .ref 102), (1, .ref 0), (0, .retAddr 9)]) (st' := [.int (Int32.ofNat (6 * i)), .retAddr 9, .int (xs (6 * i + 1)), .ref 102]) (by decide +kernel) rfl rfl ?_
    refine ab_fin.s1i (i := .iconst 2) (k := 1) (pc' := 619) (n := 2) (by decide +kernel) rfl (by decide +kernel) rfl ?_
    refine ab_fin.s1 (i := .iadd) (k := 1) (pc' := 620) (st' := [.int (Int32.ofNat (6 * i) + 2), .retAddr 9, .int (xs (6 * i + 1)), .ref 102]) (by decide +kernel) rfl rfl ?_
    refine ab_fin.s8 (i := .iaload) (k := 1) (pc' := 621) (st' := [.int (xs (6 * i + 2)), .int (xs (6 * i + 1)), .ref 102]) (by decide +kernel) (ab_x0 rfl (ix_v (i := i) (j := 2) (L := L) (y := 2) (by omega) hL rfl).1 (congrArg (fun k => Value.int (xs k)) (ix_v (i := i) (j := 2) (L := L) (y := 2) (by omega) hL rfl).2)) rfl rfl rfl ?_
    refine ab_fin.s2 (i := .aload_n 0) (k := 1) (pc' := 622) (lv' := [(5, .int 0), (4, .int (Int32.ofNat (6 * i))), (3, .ref 3467), (2, .ref 102), (1, .ref 0), (0, .retAddr 9)]) (st' := [.retAddr 9, .int (xs (6 * i + 2)), .int (xs (6 * i + 1)), .ref 102]) (by decide +kernel) rfl rfl ?_
    refine ab_fin.s2 (i := .iload 4) (k := 2) (pc' := 624) (lv' := [(5, .int 0), (4, .int (Int32.ofNat (6 * i))), (3, .ref 3467), (2, .ref 102), (1, .ref 0), (0, .retAddr 9)]) (st' := [.int (Int32.ofNat (6 * i)), .retAddr 9, .int (xs (6 * i + 2)), .int (xs (6 * i + 1)), .ref 102]) (by decide +kernel) rfl rfl ?_
    refine ab_fin.s1i (i := .iconst 3) (k := 1) (pc' := 625) (n := 3) (by decide +kernel) rfl (by decide +kernel) rfl ?_
    refine ab_fin.s1 (i := .iadd) (k := 1) (pc' := 626) (st' := [.int (Int32.ofNat (6 * i) + 3), .retAddr 9, .int (xs (6 * i + 2)), .int (xs (6 * i + 1)), .ref 102]) (by decide +kernel) rfl rfl ?_
    refine ab_fin.s8 (i := .iaload) (k := 1) (pc' := 627) (st' := [.int (xs (6 * i + 3)), .int (xs (6 * i + 2)), .int (xs (6 * i + 1)), .ref 102]) (by decide +kernel) (ab_x0 rfl (ix_v (i := i) (j := 3) (L := L) (y := 3) (by omega) hL rfl).1 (congrArg (fun k => Value.int (xs k)) (ix_v (i := i) (j := 3) (L := L) (y := 3) (by omega) hL rfl).2)) rfl rfl rfl ?_
    refine ab_fin.call (i := .invokevirtual 110) (k := 3) (y := 6003) (As := [.ref 102, .int (xs (6 * i + 1)), .int (xs (6 * i + 2)), .int (xs (6 * i + 3))]) (rest := []) (M' := (mX23_row, [])) (by decide +kernel) (ab_cv rfl rfl (W1x.r0 e24) ⟨(Nat.le_of_ble_eq_true rfl), (Nat.le_of_ble_eq_true rfl)⟩ rfl) rfl (Nat.le_of_ble_eq_true rfl) ?_
    show ab_fin _ _ _ _ 0 [(0, .ref 102), (1, .int (xs (6 * i + 1))), (2, .int (xs (6 * i + 2))), (3, .int (xs (6 * i + 3)))] [] _ _
    refine W1x.R hG (fun a => [(0, .ref a), (1, .int (xs (6 * i + 1))), (2, .int (xs (6 * i + 2))), (3, .int (xs (6 * i + 3)))]) (fun g => rfl) hR (fun r0 hr1 fR1 h2 q2 W2 => ?_)
    obtain rfl : r0 = .inl (some (.int v)) := q2.2.1
    show ab_bk _ _ _ _ _ _ _ _ _ (.inl (some (.int v))) _
    refine ab_bk.back (pc' := 630) (st' := [.int v]) rfl rfl ?_
    obtain ⟨fs, t1, t2⟩ := thrR.at W2 q2.2.2
    refine ab_fin.s2 (i := .istore 6) (k := 2) (pc' := 632) (lv' := [(6, .int v), (5, .int 0), (4, .int (Int32.ofNat (6 * i))), (3, .ref 3467), (2, .ref 102), (1, .ref 0), (0, .retAddr 9)]) (st' := []) (by decide +kernel) rfl rfl ?_
    refine ab_fin.s2 (i := .aload_n 2) (k := 1) (pc' := 633) (lv' := [(6, .int v), (5, .int 0), (4, .int (Int32.ofNat (6 * i))), (3, .ref 3467), (2, .ref 102), (1, .ref 0), (0, .retAddr 9)]) (st' := [.ref 102]) (by decide +kernel) rfl rfl ?_
    refine ab_fin.call (i := .invokevirtual 75) (k := 3) (y := 5992) (As := [.ref 102]) (rest := []) (M' := (mX23_thrown, [])) (by decide +kernel) (ab_cv rfl rfl t1 ⟨(Nat.le_of_ble_eq_true rfl), (Nat.le_of_ble_eq_true rfl)⟩ rfl) rfl (Nat.le_of_ble_eq_true rfl) ?_
    show ab_fin _ _ _ _ 0 [(0, .ref 102)] [] _ _
    refine ab_fin.s2 (i := .aload_n 0) (k := 1) (pc' := 1) (lv' := [(0, .ref 102)]) (st' := [.ref 102]) (by decide +kernel) rfl rfl ?_
    refine ab_fin.getf (ix := 1000) (k := 110) (v := .int 0) (pc' := 4) (by decide +kernel) rfl t1 t2 rfl ?_
    refine ab_fin.ret (i := .ireturn) (k := 1) (some (.int 0)) (by decide +kernel) rfl ?_
    refine ab_bk.back (pc' := 636) (st' := [.int 0]) rfl rfl ?_
    refine ab_fin.s2 (i := .iload 5) (k := 2) (pc' := 638) (lv' := [(6, .int v), (5, .int 0), (4, .int (Int32.ofNat (6 * i))), (3, .ref 3467), (2, .ref 102), (1, .ref 0), (0, .retAddr 9)]) (st' := [.int 0, .int 0]) (by decide +kernel) rfl rfl ?_
    refine ab_fin.brT (c := (0 : Int32) = (0 : Int32)) (i := .if_icmp .eq 5) (off := 5) (t := 643) (r := []) (by decide +kernel) rfl (by decide +kernel) rfl ?_
    refine ab_fin.s2 (i := .iload 5) (k := 2) (pc' := 645) (lv' := [(6, .int v), (5, .int 0), (4, .int (Int32.ofNat (6 * i))), (3, .ref 3467), (2, .ref 102), (1, .ref 0), (0, .retAddr 9)]) (st' := [.int 0]) (by decide +kernel) rfl rfl ?_
    refine ab_fin.brF (c := ¬ (0 : Int32) = 0) (i := .ifCond .ne 15) (off := 15) (t := 660) (pc' := 648) (r := []) (by decide +kernel) rfl (by decide +kernel) rfl (by decide +kernel) ?_
    refine ab_fin.s2 (i := .aload_n 3) (k := 1) (pc' := 649) (lv' := [(6, .int v), (5, .int 0), (4, .int (Int32.ofNat (6 * i))), (3, .ref 3467), (2, .ref 102), (1, .ref 0), (0, .retAddr 9)]) (st' := [.ref 3467]) (by decide +kernel) rfl rfl ?_
    refine ab_fin.s1i (i := .iconst 0) (k := 1) (pc' := 650) (n := 0) (by decide +kernel) rfl (by decide +kernel) rfl ?_
    refine ab_fin.lald (l := [v.toInt64]) (v := v.toInt64) (pc' := 651) (by decide +kernel) W2.2.2.2.2.1 (hi0 _) rfl rfl ?_
    refine ab_fin.s2 (i := .iload 6) (k := 2) (pc' := 653) (lv' := [(6, .int v), (5, .int 0), (4, .int (Int32.ofNat (6 * i))), (3, .ref 3467), (2, .ref 102), (1, .ref 0), (0, .retAddr 9)]) (st' := [.int v, .long (v.toInt64)]) (by decide +kernel) rfl rfl ?_
    refine ab_fin.s1 (i := .i2l) (k := 1) (pc' := 654) (st' := [.long (v.toInt64), .long (v.toInt64)]) (by decide +kernel) rfl rfl ?_
    refine ab_fin.s1i (i := .lcmp) (k := 1) (pc' := 655) (n := 0) (by decide +kernel) rfl (lg_c0 _) rfl ?_
    refine ab_fin.brT (c := (0 : Int32) = 0) (i := .ifCond .eq 5) (off := 5) (t := 660) (r := []) (by decide +kernel) rfl (by decide +kernel) (by decide +kernel) ?_
    refine ab_fin.s3 (i := .goto 430) (k := 3) (t := 1090) (st' := []) (by decide +kernel) (ab_goto (by decide +kernel)) ?_
    refine ab_fin.lv (lv' := [(4, .int (Int32.ofNat (6 * i))), (3, .ref 3467), (2, .ref 102), (1, .ref 0), (0, .retAddr 9)]) ⟨fun q hq => ?_, (by show ([6, 5, 4, 3, 2, 1, 0] : List Nat).Nodup; decide)⟩ (go _ _ _ _ _ _ W2 q1.1 q2.1)
    simp only [List.mem_cons, List.not_mem_nil, or_false] at hq ⊢
    rcases hq with rfl | rfl | rfl | rfl | rfl <;> simp

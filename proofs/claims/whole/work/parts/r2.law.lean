/-! THE LAW'S CALLS, over two heaps (printed by lawgen.py) -/
theorem hi0 (o : Int64) : ¬ ((0 : Int32) < 0 ∨ [o].length ≤ (0 : Int32).toNatClampNeg) := by
  show ¬ ((0 : Int32) < 0 ∨ 1 ≤ (0 : Int32).toNatClampNeg)
  decide
set_option maxRecDepth 100000 in
set_option maxHeartbeats 0 in
theorem lw_end {z4 z5 z6 : Value} {xs : Nat → Int32} {L : Nat} {h hc hr : List ab_E} {o : Int64} {fC fR : Nat → Nat} {PC PR : List ab_E → Prop} {Q : ab_RX → List ab_E → Prop} (hL : L ≤ 3072) (hG : ab_pure (hb_Gz (some z4, some z5, some z6) (some (0, L, fun i => .int (xs i))))) {i : Nat} (hi : 6 * i + 6 ≤ L) (W0 : Two h hc hr o fC fR) (k13 : is13 hc) (k24 : is24 hr) {r : Nat ⊕ Int32} (ht : ∀ th, r = .inl th → th = 1) (hC : ab_fin (hb_Gz (some z4, some z5, some z6) (some (0, L, fun i => .int (xs i)))) hb_GT 2044 (mX12_end, []) 0 [(0, .ref 0), (1, .int (xs (6 * i + 1)))] [] hc (AnC "java/lang/IllegalArgumentException" "java/lang/IllegalArgumentException" PC r)) (hR : ab_fin (hb_Gz (some z4, some z5, some z6) (some (0, L, fun i => .int (xs i)))) hb_GT 2045 (mX23_end, []) 0 [(0, .ref 0), (1, .int (xs (6 * i + 1)))] [] hr (AnR PR r)) (go : ∀ h' hc' hr' o' fC' fR', Two h' hc' hr' o' fC' fR' → PC hc' → PR hr' → ab_fin (hb_Gz (some z4, some z5, some z6) (some (0, L, fun i => .int (xs i)))) hb_GT 2046 (mL_law, []) 1090 [(4, .int (Int32.ofNat (6 * i))), (3, .ref 3467), (2, .ref 102), (1, .ref 0), (0, .retAddr 9)] [] h' Q) : ab_fin (hb_Gz (some z4, some z5, some z6) (some (0, L, fun i => .int (xs i)))) hb_GT 2046 (mL_law, []) 228 [(4, .int (Int32.ofNat (6 * i))), (3, .ref 3467), (2, .ref 102), (1, .ref 0), (0, .retAddr 9)] [] h Q := by
  obtain ⟨fs13, k13⟩ := k13
  obtain ⟨fs24, e24⟩ := k24
  have e13 := W0.c0 k13
  rcases r with th | v
  · obtain rfl := ht th rfl
    refine ab_fin.s2 (i := .aload_n 1) (k := 1) (pc' := 229) (lv' := [(4, .int (Int32.ofNat (6 * i))), (3, .ref 3467), (2, .ref 102), (1, .ref 0), (0, .retAddr 9)]) (st' := [.ref 0]) (by decide +kernel) rfl rfl ?_
    refine ab_fin.s2 (i := .aload_n 0) (k := 1) (pc' := 230) (lv' := [(4, .int (Int32.ofNat (6 * i))), (3, .ref 3467), (2, .ref 102), (1, .ref 0), (0, .retAddr 9)]) (st' := [.retAddr 9, .ref 0]) (by decide +kernel) rfl rfl ?_
    refine ab_fin.s2 (i := .iload 4) (k := 2) (pc' := 232) (lv' := [(4, .int (Int32.ofNat (6 * i))), (3, .ref 3467), (2, .ref 102), (1, .ref 0), (0, .retAddr 9)]) (st' := [.int (Int32.ofNat (6 * i)), .retAddr 9, .ref 0]) (by decide +kernel) rfl rfl ?_
    refine ab_fin.s1i (i := .iconst 1) (k := 1) (pc' := 233) (n := 1) (by decide +kernel) rfl (by decide +kernel) rfl ?_
    refine ab_fin.s1 (i := .iadd) (k := 1) (pc' := 234) (st' := [.int (Int32.ofNat (6 * i) + 1), .retAddr 9, .ref 0]) (by decide +kernel) rfl rfl ?_
    refine ab_fin.s8 (i := .iaload) (k := 1) (pc' := 235) (st' := [.int (xs (6 * i + 1)), .ref 0]) (by decide +kernel) (ab_x0 rfl (ix_v (i := i) (j := 1) (L := L) (y := 1) (by omega) hL rfl).1 (congrArg (fun k => Value.int (xs k)) (ix_v (i := i) (j := 1) (L := L) (y := 1) (by omega) hL rfl).2)) rfl rfl rfl ?_
    refine ab_fin.s2 (i := .aload_n 3) (k := 1) (pc' := 236) (lv' := [(4, .int (Int32.ofNat (6 * i))), (3, .ref 3467), (2, .ref 102), (1, .ref 0), (0, .retAddr 9)]) (st' := [.ref 3467, .int (xs (6 * i + 1)), .ref 0]) (by decide +kernel) rfl rfl ?_
    refine ab_fin.call (i := .invokestatic 78) (k := 3) (y := 13513) (As := [.ref 0, .int (xs (6 * i + 1)), .ref 3467]) (rest := []) (M' := (mL_end, [(0, 9, 12, 19)])) (by decide +kernel) (ab_cs rfl rfl ⟨(Nat.le_of_ble_eq_true rfl), (Nat.le_of_ble_eq_true rfl)⟩ rfl) rfl (Nat.le_of_ble_eq_true rfl) ?_
    show ab_fin _ _ _ _ 0 [(0, .ref 0), (1, .int (xs (6 * i + 1))), (2, .ref 3467)] [] _ _
    refine ab_fin.s2 (i := .aload_n 2) (k := 1) (pc' := 1) (lv' := [(0, .ref 0), (1, .int (xs (6 * i + 1))), (2, .ref 3467)]) (st' := [.ref 3467]) (by decide +kernel) rfl rfl ?_
    refine ab_fin.s1i (i := .iconst 0) (k := 1) (pc' := 2) (n := 0) (by decide +kernel) rfl (by decide +kernel) rfl ?_
    refine ab_fin.s2 (i := .aload_n 0) (k := 1) (pc' := 3) (lv' := [(0, .ref 0), (1, .int (xs (6 * i + 1))), (2, .ref 3467)]) (st' := [.ref 0, .int 0, .ref 3467]) (by decide +kernel) rfl rfl ?_
    refine ab_fin.s2 (i := .iload_n 1) (k := 1) (pc' := 4) (lv' := [(0, .ref 0), (1, .int (xs (6 * i + 1))), (2, .ref 3467)]) (st' := [.int (xs (6 * i + 1)), .ref 0, .int 0, .ref 3467]) (by decide +kernel) rfl rfl ?_
    refine ab_fin.call (i := .invokevirtual 15) (k := 3) (y := 3075) (As := [.ref 0, .int (xs (6 * i + 1))]) (rest := [.int 0, .ref 3467]) (M' := (mX12_end, [])) (by decide +kernel) (ab_cv rfl rfl e13 ⟨(Nat.le_of_ble_eq_true rfl), (Nat.le_of_ble_eq_true rfl)⟩ rfl) rfl (Nat.le_of_ble_eq_true rfl) ?_
    show ab_fin _ _ _ _ 0 [(0, .ref 0), (1, .int (xs (6 * i + 1)))] [] _ _
    refine W0.C hG (fun a => [(0, .ref a), (1, .int (xs (6 * i + 1)))]) (fun g => rfl) hC (fun r0 hc1 fC1 h1 q1 W1 => ?_)
    obtain ⟨x9, e9⟩ := q1.2
    subst e9
    show ab_bk _ _ _ _ _ _ _ _ _ (.inr ("java/lang/IllegalArgumentException", fC1 x9)) _
    refine ab_bk.catch (hp := 12) (by decide +kernel) rfl ?_
    refine ab_fin.s2 (i := .astore_n 3) (k := 1) (pc' := 13) (lv' := [(3, .ref (fC1 x9)), (0, .ref 0), (1, .int (xs (6 * i + 1))), (2, .ref 3467)]) (st' := []) (by decide +kernel) rfl rfl ?_
    refine ab_fin.s1i (i := .iconst 1) (k := 1) (pc' := 14) (n := 1) (by decide +kernel) rfl (by decide +kernel) rfl ?_
    refine ab_fin.ret (i := .ireturn) (k := 1) (some (.int 1)) (by decide +kernel) rfl ?_
    refine ab_bk.back (pc' := 239) (st' := [.int 1]) rfl rfl ?_
    refine ab_fin.s2 (i := .istore 5) (k := 2) (pc' := 241) (lv' := [(5, .int 1), (4, .int (Int32.ofNat (6 * i))), (3, .ref 3467), (2, .ref 102), (1, .ref 0), (0, .retAddr 9)]) (st' := []) (by decide +kernel) rfl rfl ?_
    refine ab_fin.s2 (i := .aload_n 2) (k := 1) (pc' := 242) (lv' := [(5, .int 1), (4, .int (Int32.ofNat (6 * i))), (3, .ref 3467), (2, .ref 102), (1, .ref 0), (0, .retAddr 9)]) (st' := [.ref 102]) (by decide +kernel) rfl rfl ?_
    refine ab_fin.s2 (i := .aload_n 0) (k := 1) (pc' := 243) (lv' := [(5, .int 1), (4, .int (Int32.ofNat (6 * i))), (3, .ref 3467), (2, .ref 102), (1, .ref 0), (0, .retAddr 9)]) (st' := [.retAddr 9, .ref 102]) (by decide +kernel) rfl rfl ?_
    refine ab_fin.s2 (i := .iload 4) (k := 2) (pc' := 245) (lv' := [(5, .int 1), (4, .int (Int32.ofNat (6 * i))), (3, .ref 3467), (2, .ref 102), (1, .ref 0), (0, .retAddr 9)]) (st' := [.int (Int32.ofNat (6 * i)), .retAddr 9, .ref 102]) (by decide +kernel) rfl rfl ?_
    refine ab_fin.s1i (i := .iconst 1) (k := 1) (pc' := 246) (n := 1) (by decide +kernel) rfl (by decide +kernel) rfl ?_
    refine ab_fin.s1 (i := .iadd) (k := 1) (pc' := 247) (st' := [.int (Int32.ofNat (6 * i) + 1), .retAddr 9, .ref 102]) (by decide +kernel) rfl rfl ?_
    refine ab_fin.s8 (i := .iaload) (k := 1) (pc' := 248) (st' := [.int (xs (6 * i + 1)), .ref 102]) (by decide +kernel) (ab_x0 rfl (ix_v (i := i) (j := 1) (L := L) (y := 1) (by omega) hL rfl).1 (congrArg (fun k => Value.int (xs k)) (ix_v (i := i) (j := 1) (L := L) (y := 1) (by omega) hL rfl).2)) rfl rfl rfl ?_
    refine ab_fin.call (i := .invokevirtual 81) (k := 3) (y := 5996) (As := [.ref 102, .int (xs (6 * i + 1))]) (rest := []) (M' := (mX23_end, [])) (by decide +kernel) (ab_cv rfl rfl (W1.r0 e24) ⟨(Nat.le_of_ble_eq_true rfl), (Nat.le_of_ble_eq_true rfl)⟩ rfl) rfl (Nat.le_of_ble_eq_true rfl) ?_
    show ab_fin _ _ _ _ 0 [(0, .ref 102), (1, .int (xs (6 * i + 1)))] [] _ _
    refine W1.R hG (fun a => [(0, .ref a), (1, .int (xs (6 * i + 1)))]) (fun g => rfl) hR (fun r0 hr1 fR1 h2 q2 W2 => ?_)
    obtain rfl : r0 = .inl (some (.int 0)) := q2.2.1
    show ab_bk _ _ _ _ _ _ _ _ _ (.inl (some (.int 0))) _
    refine ab_bk.back (pc' := 251) (st' := [.int 0]) rfl rfl ?_
    obtain ⟨fs, t1, t2⟩ := thrR.at W2 q2.2.2
    refine ab_fin.s2 (i := .istore 6) (k := 2) (pc' := 253) (lv' := [(6, .int 0), (5, .int 1), (4, .int (Int32.ofNat (6 * i))), (3, .ref 3467), (2, .ref 102), (1, .ref 0), (0, .retAddr 9)]) (st' := []) (by decide +kernel) rfl rfl ?_
    refine ab_fin.s2 (i := .aload_n 2) (k := 1) (pc' := 254) (lv' := [(6, .int 0), (5, .int 1), (4, .int (Int32.ofNat (6 * i))), (3, .ref 3467), (2, .ref 102), (1, .ref 0), (0, .retAddr 9)]) (st' := [.ref 102]) (by decide +kernel) rfl rfl ?_
    refine ab_fin.call (i := .invokevirtual 75) (k := 3) (y := 5992) (As := [.ref 102]) (rest := []) (M' := (mX23_thrown, [])) (by decide +kernel) (ab_cv rfl rfl t1 ⟨(Nat.le_of_ble_eq_true rfl), (Nat.le_of_ble_eq_true rfl)⟩ rfl) rfl (Nat.le_of_ble_eq_true rfl) ?_
    show ab_fin _ _ _ _ 0 [(0, .ref 102)] [] _ _
    refine ab_fin.s2 (i := .aload_n 0) (k := 1) (pc' := 1) (lv' := [(0, .ref 102)]) (st' := [.ref 102]) (by decide +kernel) rfl rfl ?_
    refine ab_fin.getf (ix := 1000) (k := 110) (v := .int 1) (pc' := 4) (by decide +kernel) rfl t1 t2 rfl ?_
    refine ab_fin.ret (i := .ireturn) (k := 1) (some (.int 1)) (by decide +kernel) rfl ?_
    refine ab_bk.back (pc' := 257) (st' := [.int 1]) rfl rfl ?_
    refine ab_fin.s2 (i := .iload 5) (k := 2) (pc' := 259) (lv' := [(6, .int 0), (5, .int 1), (4, .int (Int32.ofNat (6 * i))), (3, .ref 3467), (2, .ref 102), (1, .ref 0), (0, .retAddr 9)]) (st' := [.int 1, .int 1]) (by decide +kernel) rfl rfl ?_
    refine ab_fin.brT (c := (1 : Int32) = (1 : Int32)) (i := .if_icmp .eq 5) (off := 5) (t := 264) (r := []) (by decide +kernel) rfl (by decide +kernel) rfl ?_
    refine ab_fin.s2 (i := .iload 5) (k := 2) (pc' := 266) (lv' := [(6, .int 0), (5, .int 1), (4, .int (Int32.ofNat (6 * i))), (3, .ref 3467), (2, .ref 102), (1, .ref 0), (0, .retAddr 9)]) (st' := [.int 1]) (by decide +kernel) rfl rfl ?_
    refine ab_fin.brT (c := ¬ (1 : Int32) = 0) (i := .ifCond .ne 15) (off := 15) (t := 281) (r := []) (by decide +kernel) rfl (by decide +kernel) (by decide +kernel) ?_
    refine ab_fin.s3 (i := .goto 809) (k := 3) (t := 1090) (st' := []) (by decide +kernel) (ab_goto (by decide +kernel)) ?_
    refine ab_fin.lv (lv' := [(4, .int (Int32.ofNat (6 * i))), (3, .ref 3467), (2, .ref 102), (1, .ref 0), (0, .retAddr 9)]) ⟨fun q hq => ?_, (by show ([6, 5, 4, 3, 2, 1, 0] : List Nat).Nodup; decide)⟩ (go _ _ _ _ _ _ W2 q1.1 q2.1)
    simp only [List.mem_cons, List.not_mem_nil, or_false] at hq ⊢
    rcases hq with rfl | rfl | rfl | rfl | rfl <;> simp
  · refine ab_fin.s2 (i := .aload_n 1) (k := 1) (pc' := 229) (lv' := [(4, .int (Int32.ofNat (6 * i))), (3, .ref 3467), (2, .ref 102), (1, .ref 0), (0, .retAddr 9)]) (st' := [.ref 0]) (by decide +kernel) rfl rfl ?_
    refine ab_fin.s2 (i := .aload_n 0) (k := 1) (pc' := 230) (lv' := [(4, .int (Int32.ofNat (6 * i))), (3, .ref 3467), (2, .ref 102), (1, .ref 0), (0, .retAddr 9)]) (st' := [.retAddr 9, .ref 0]) (by decide +kernel) rfl rfl ?_
    refine ab_fin.s2 (i := .iload 4) (k := 2) (pc' := 232) (lv' := [(4, .int (Int32.ofNat (6 * i))), (3, .ref 3467), (2, .ref 102), (1, .ref 0), (0, .retAddr 9)]) (st' := [.int (Int32.ofNat (6 * i)), .retAddr 9, .ref 0]) (by decide +kernel) rfl rfl ?_
    refine ab_fin.s1i (i := .iconst 1) (k := 1) (pc' := 233) (n := 1) (by decide +kernel) rfl (by decide +kernel) rfl ?_
    refine ab_fin.s1 (i := .iadd) (k := 1) (pc' := 234) (st' := [.int (Int32.ofNat (6 * i) + 1), .retAddr 9, .ref 0]) (by decide +kernel) rfl rfl ?_
    refine ab_fin.s8 (i := .iaload) (k := 1) (pc' := 235) (st' := [.int (xs (6 * i + 1)), .ref 0]) (by decide +kernel) (ab_x0 rfl (ix_v (i := i) (j := 1) (L := L) (y := 1) (by omega) hL rfl).1 (congrArg (fun k => Value.int (xs k)) (ix_v (i := i) (j := 1) (L := L) (y := 1) (by omega) hL rfl).2)) rfl rfl rfl ?_
    refine ab_fin.s2 (i := .aload_n 3) (k := 1) (pc' := 236) (lv' := [(4, .int (Int32.ofNat (6 * i))), (3, .ref 3467), (2, .ref 102), (1, .ref 0), (0, .retAddr 9)]) (st' := [.ref 3467, .int (xs (6 * i + 1)), .ref 0]) (by decide +kernel) rfl rfl ?_
    refine ab_fin.call (i := .invokestatic 78) (k := 3) (y := 13513) (As := [.ref 0, .int (xs (6 * i + 1)), .ref 3467]) (rest := []) (M' := (mL_end, [(0, 9, 12, 19)])) (by decide +kernel) (ab_cs rfl rfl ⟨(Nat.le_of_ble_eq_true rfl), (Nat.le_of_ble_eq_true rfl)⟩ rfl) rfl (Nat.le_of_ble_eq_true rfl) ?_
    show ab_fin _ _ _ _ 0 [(0, .ref 0), (1, .int (xs (6 * i + 1))), (2, .ref 3467)] [] _ _
    refine ab_fin.s2 (i := .aload_n 2) (k := 1) (pc' := 1) (lv' := [(0, .ref 0), (1, .int (xs (6 * i + 1))), (2, .ref 3467)]) (st' := [.ref 3467]) (by decide +kernel) rfl rfl ?_
    refine ab_fin.s1i (i := .iconst 0) (k := 1) (pc' := 2) (n := 0) (by decide +kernel) rfl (by decide +kernel) rfl ?_
    refine ab_fin.s2 (i := .aload_n 0) (k := 1) (pc' := 3) (lv' := [(0, .ref 0), (1, .int (xs (6 * i + 1))), (2, .ref 3467)]) (st' := [.ref 0, .int 0, .ref 3467]) (by decide +kernel) rfl rfl ?_
    refine ab_fin.s2 (i := .iload_n 1) (k := 1) (pc' := 4) (lv' := [(0, .ref 0), (1, .int (xs (6 * i + 1))), (2, .ref 3467)]) (st' := [.int (xs (6 * i + 1)), .ref 0, .int 0, .ref 3467]) (by decide +kernel) rfl rfl ?_
    refine ab_fin.call (i := .invokevirtual 15) (k := 3) (y := 3075) (As := [.ref 0, .int (xs (6 * i + 1))]) (rest := [.int 0, .ref 3467]) (M' := (mX12_end, [])) (by decide +kernel) (ab_cv rfl rfl e13 ⟨(Nat.le_of_ble_eq_true rfl), (Nat.le_of_ble_eq_true rfl)⟩ rfl) rfl (Nat.le_of_ble_eq_true rfl) ?_
    show ab_fin _ _ _ _ 0 [(0, .ref 0), (1, .int (xs (6 * i + 1)))] [] _ _
    refine W0.C hG (fun a => [(0, .ref a), (1, .int (xs (6 * i + 1)))]) (fun g => rfl) hC (fun r0 hc1 fC1 h1 q1 W1 => ?_)
    obtain rfl : r0 = .inl (some (.int v)) := q1.2
    show ab_bk _ _ _ _ _ _ _ _ _ (.inl (some (.int v))) _
    refine ab_bk.back (pc' := 7) (st' := [.int v, .int 0, .ref 3467]) rfl rfl ?_
    refine ab_fin.s1 (i := .i2l) (k := 1) (pc' := 8) (st' := [.long (v.toInt64), .int 0, .ref 3467]) (by decide +kernel) rfl rfl ?_
    refine ab_fin.last (l := [o]) (h1 := h1.set 3467 (.inr (.inl (1, .inr (.inl [v.toInt64]))))) (pc' := 9) (by decide +kernel) W1.2.2.2.2.1 (hi0 _) rfl rfl ?_
    have W1x := W1.out (v.toInt64)
    refine ab_fin.s3 (i := .goto 6) (k := 3) (t := 15) (st' := []) (by decide +kernel) (ab_goto (by decide +kernel)) ?_
    refine ab_fin.s1i (i := .iconst 0) (k := 1) (pc' := 16) (n := 0) (by decide +kernel) rfl (by decide +kernel) rfl ?_
    refine ab_fin.ret (i := .ireturn) (k := 1) (some (.int 0)) (by decide +kernel) rfl ?_
    refine ab_bk.back (pc' := 239) (st' := [.int 0]) rfl rfl ?_
    refine ab_fin.s2 (i := .istore 5) (k := 2) (pc' := 241) (lv' := [(5, .int 0), (4, .int (Int32.ofNat (6 * i))), (3, .ref 3467), (2, .ref 102), (1, .ref 0), (0, .retAddr 9)]) (st' := []) (by decide +kernel) rfl rfl ?_
    refine ab_fin.s2 (i := .aload_n 2) (k := 1) (pc' := 242) (lv' := [(5, .int 0), (4, .int (Int32.ofNat (6 * i))), (3, .ref 3467), (2, .ref 102), (1, .ref 0), (0, .retAddr 9)]) (st' := [.ref 102]) (by decide +kernel) rfl rfl ?_
    refine ab_fin.s2 (i := .aload_n 0) (k := 1) (pc' := 243) (lv' := [(5, .int 0), (4, .int (Int32.ofNat (6 * i))), (3, .ref 3467), (2, .ref 102), (1, .ref 0), (0, .retAddr 9)]) (st' := [.retAddr 9, .ref 102]) (by decide +kernel) rfl rfl ?_
    refine ab_fin.s2 (i := .iload 4) (k := 2) (pc' := 245) (lv' := [(5, .int 0), (4, .int (Int32.ofNat (6 * i))), (3, .ref 3467), (2, .ref 102), (1, .ref 0), (0, .retAddr 9)]) (st' := [.int (Int32.ofNat (6 * i)), .retAddr 9, .ref 102]) (by decide +kernel) rfl rfl ?_
    refine ab_fin.s1i (i := .iconst 1) (k := 1) (pc' := 246) (n := 1) (by decide +kernel) rfl (by decide +kernel) rfl ?_
    refine ab_fin.s1 (i := .iadd) (k := 1) (pc' := 247) (st' := [.int (Int32.ofNat (6 * i) + 1), .retAddr 9, .ref 102]) (by decide +kernel) rfl rfl ?_
    refine ab_fin.s8 (i := .iaload) (k := 1) (pc' := 248) (st' := [.int (xs (6 * i + 1)), .ref 102]) (by decide +kernel) (ab_x0 rfl (ix_v (i := i) (j := 1) (L := L) (y := 1) (by omega) hL rfl).1 (congrArg (fun k => Value.int (xs k)) (ix_v (i := i) (j := 1) (L := L) (y := 1) (by omega) hL rfl).2)) rfl rfl rfl ?_
    refine ab_fin.call (i := .invokevirtual 81) (k := 3) (y := 5996) (As := [.ref 102, .int (xs (6 * i + 1))]) (rest := []) (M' := (mX23_end, [])) (by decide +kernel) (ab_cv rfl rfl (W1x.r0 e24) ⟨(Nat.le_of_ble_eq_true rfl), (Nat.le_of_ble_eq_true rfl)⟩ rfl) rfl (Nat.le_of_ble_eq_true rfl) ?_
    show ab_fin _ _ _ _ 0 [(0, .ref 102), (1, .int (xs (6 * i + 1)))] [] _ _
    refine W1x.R hG (fun a => [(0, .ref a), (1, .int (xs (6 * i + 1)))]) (fun g => rfl) hR (fun r0 hr1 fR1 h2 q2 W2 => ?_)
    obtain rfl : r0 = .inl (some (.int v)) := q2.2.1
    show ab_bk _ _ _ _ _ _ _ _ _ (.inl (some (.int v))) _
    refine ab_bk.back (pc' := 251) (st' := [.int v]) rfl rfl ?_
    obtain ⟨fs, t1, t2⟩ := thrR.at W2 q2.2.2
    refine ab_fin.s2 (i := .istore 6) (k := 2) (pc' := 253) (lv' := [(6, .int v), (5, .int 0), (4, .int (Int32.ofNat (6 * i))), (3, .ref 3467), (2, .ref 102), (1, .ref 0), (0, .retAddr 9)]) (st' := []) (by decide +kernel) rfl rfl ?_
    refine ab_fin.s2 (i := .aload_n 2) (k := 1) (pc' := 254) (lv' := [(6, .int v), (5, .int 0), (4, .int (Int32.ofNat (6 * i))), (3, .ref 3467), (2, .ref 102), (1, .ref 0), (0, .retAddr 9)]) (st' := [.ref 102]) (by decide +kernel) rfl rfl ?_
    refine ab_fin.call (i := .invokevirtual 75) (k := 3) (y := 5992) (As := [.ref 102]) (rest := []) (M' := (mX23_thrown, [])) (by decide +kernel) (ab_cv rfl rfl t1 ⟨(Nat.le_of_ble_eq_true rfl), (Nat.le_of_ble_eq_true rfl)⟩ rfl) rfl (Nat.le_of_ble_eq_true rfl) ?_
    show ab_fin _ _ _ _ 0 [(0, .ref 102)] [] _ _
    refine ab_fin.s2 (i := .aload_n 0) (k := 1) (pc' := 1) (lv' := [(0, .ref 102)]) (st' := [.ref 102]) (by decide +kernel) rfl rfl ?_
    refine ab_fin.getf (ix := 1000) (k := 110) (v := .int 0) (pc' := 4) (by decide +kernel) rfl t1 t2 rfl ?_
    refine ab_fin.ret (i := .ireturn) (k := 1) (some (.int 0)) (by decide +kernel) rfl ?_
    refine ab_bk.back (pc' := 257) (st' := [.int 0]) rfl rfl ?_
    refine ab_fin.s2 (i := .iload 5) (k := 2) (pc' := 259) (lv' := [(6, .int v), (5, .int 0), (4, .int (Int32.ofNat (6 * i))), (3, .ref 3467), (2, .ref 102), (1, .ref 0), (0, .retAddr 9)]) (st' := [.int 0, .int 0]) (by decide +kernel) rfl rfl ?_
    refine ab_fin.brT (c := (0 : Int32) = (0 : Int32)) (i := .if_icmp .eq 5) (off := 5) (t := 264) (r := []) (by decide +kernel) rfl (by decide +kernel) rfl ?_
    refine ab_fin.s2 (i := .iload 5) (k := 2) (pc' := 266) (lv' := [(6, .int v), (5, .int 0), (4, .int (Int32.ofNat (6 * i))), (3, .ref 3467), (2, .ref 102), (1, .ref 0), (0, .retAddr 9)]) (st' := [.int 0]) (by decide +kernel) rfl rfl ?_
    refine ab_fin.brF (c := ¬ (0 : Int32) = 0) (i := .ifCond .ne 15) (off := 15) (t := 281) (pc' := 269) (r := []) (by decide +kernel) rfl (by decide +kernel) rfl (by decide +kernel) ?_
    refine ab_fin.s2 (i := .aload_n 3) (k := 1) (pc' := 270) (lv' := [(6, .int v), (5, .int 0), (4, .int (Int32.ofNat (6 * i))), (3, .ref 3467), (2, .ref 102), (1, .ref 0), (0, .retAddr 9)]) (st' := [.ref 3467]) (by decide +kernel) rfl rfl ?_
    refine ab_fin.s1i (i := .iconst 0) (k := 1) (pc' := 271) (n := 0) (by decide +kernel) rfl (by decide +kernel) rfl ?_
    refine ab_fin.lald (l := [v.toInt64]) (v := v.toInt64) (pc' := 272) (by decide +kernel) W2.2.2.2.2.1 (hi0 _) rfl rfl ?_
    refine ab_fin.s2 (i := .iload 6) (k := 2) (pc' := 274) (lv' := [(6, .int v), (5, .int 0), (4, .int (Int32.ofNat (6 * i))), (3, .ref 3467), (2, .ref 102), (1, .ref 0), (0, .retAddr 9)]) (st' := [.int v, .long (v.toInt64)]) (by decide +kernel) rfl rfl ?_
    refine ab_fin.s1 (i := .i2l) (k := 1) (pc' := 275) (st' := [.long (v.toInt64), .long (v.toInt64)]) (by decide +kernel) rfl rfl ?_
    refine ab_fin.s1i (i := .lcmp) (k := 1) (pc' := 276) (n := 0) (by decide +kernel) rfl (lg_c0 _) rfl ?_
    refine ab_fin.brT (c := (0 : Int32) = 0) (i := .ifCond .eq 5) (off := 5) (t := 281) (r := []) (by decide +kernel) rfl (by decide +kernel) (by decide +kernel) ?_
    refine ab_fin.s3 (i := .goto 809) (k := 3) (t := 1090) (st' := []) (by decide +kernel) (ab_goto (by decide +kernel)) ?_
    refine ab_fin.lv (lv' := [(4, .int (Int32.ofNat (6 * i))), (3, .ref 3467), (2, .ref 102), (1, .ref 0), (0, .retAddr 9)]) ⟨fun q hq => ?_, (by show ([6, 5, 4, 3, 2, 1, 0] : List Nat).Nodup; decide)⟩ (go _ _ _ _ _ _ W2 q1.1 q2.1)
    simp only [List.mem_cons, List.not_mem_nil, or_false] at hq ⊢
    rcases hq with rfl | rfl | rfl | rfl | rfl <;> simp
set_option maxRecDepth 100000 in
set_option maxHeartbeats 0 in
theorem lw_tell {z4 z5 z6 : Value} {xs : Nat → Int32} {L : Nat} {h hc hr : List ab_E} {o : Int64} {fC fR : Nat → Nat} {PC PR : List ab_E → Prop} {Q : ab_RX → List ab_E → Prop} (hL : L ≤ 3072) (hG : ab_pure (hb_Gz (some z4, some z5, some z6) (some (0, L, fun i => .int (xs i))))) {i : Nat} (hi : 6 * i + 6 ≤ L) (W0 : Two h hc hr o fC fR) (k13 : is13 hc) (k24 : is24 hr) {v : Int32} (hC : ab_fin (hb_Gz (some z4, some z5, some z6) (some (0, L, fun i => .int (xs i)))) hb_GT 2045 (mX12_tell, []) 0 [(0, .ref 0)] [] hc (fun r0 h => PC h ∧ r0 = .inl (some (.int v)))) (hR : ab_fin (hb_Gz (some z4, some z5, some z6) (some (0, L, fun i => .int (xs i)))) hb_GT 2045 (mX23_tell, [(35, 62, 65, 223)]) 0 [(0, .ref 0)] [] hr (fun r0 h => PR h ∧ r0 = .inl (some (.int v)))) (go : ∀ h' hc' hr' o' fC' fR', Two h' hc' hr' o' fC' fR' → PC hc' → PR hr' → ab_fin (hb_Gz (some z4, some z5, some z6) (some (0, L, fun i => .int (xs i)))) hb_GT 2046 (mL_law, []) 1090 [(4, .int (Int32.ofNat (6 * i))), (3, .ref 3467), (2, .ref 102), (1, .ref 0), (0, .retAddr 9)] [] h' Q) : ab_fin (hb_Gz (some z4, some z5, some z6) (some (0, L, fun i => .int (xs i)))) hb_GT 2046 (mL_law, []) 284 [(4, .int (Int32.ofNat (6 * i))), (3, .ref 3467), (2, .ref 102), (1, .ref 0), (0, .retAddr 9)] [] h Q := by
  obtain ⟨fs13, k13⟩ := k13
  obtain ⟨fs24, e24⟩ := k24
  have e13 := W0.c0 k13
  refine ab_fin.s2 (i := .aload_n 1) (k := 1) (pc' := 285) (lv' := [(4, .int (Int32.ofNat (6 * i))), (3, .ref 3467), (2, .ref 102), (1, .ref 0), (0, .retAddr 9)]) (st' := [.ref 0]) (by decide +kernel) rfl rfl ?_
  refine ab_fin.call (i := .invokevirtual 82) (k := 3) (y := 3076) (As := [.ref 0]) (rest := []) (M' := (mX12_tell, [])) (by decide +kernel) (ab_cv rfl rfl e13 ⟨(Nat.le_of_ble_eq_true rfl), (Nat.le_of_ble_eq_true rfl)⟩ rfl) rfl (Nat.le_of_ble_eq_true rfl) ?_
  show ab_fin _ _ _ _ 0 [(0, .ref 0)] [] _ _
  refine W0.C hG (fun a => [(0, .ref a)]) (fun g => rfl) hC (fun r0 hc1 fC1 h1 q1 W1 => ?_)
  obtain rfl : r0 = .inl (some (.int v)) := q1.2
  show ab_bk _ _ _ _ _ _ _ _ _ (.inl (some (.int v))) _
  refine ab_bk.back (pc' := 288) (st' := [.int v]) rfl rfl ?_
  refine ab_fin.s2 (i := .aload_n 2) (k := 1) (pc' := 289) (lv' := [(4, .int (Int32.ofNat (6 * i))), (3, .ref 3467), (2, .ref 102), (1, .ref 0), (0, .retAddr 9)]) (st' := [.ref 102, .int v]) (by decide +kernel) rfl rfl ?_
  refine ab_fin.call (i := .invokevirtual 85) (k := 3) (y := 6092) (As := [.ref 102]) (rest := [.int v]) (M' := (mX23_tell, [(35, 62, 65, 223)])) (by decide +kernel) (ab_cv rfl rfl (W1.r0 e24) ⟨(Nat.le_of_ble_eq_true rfl), (Nat.le_of_ble_eq_true rfl)⟩ rfl) rfl (Nat.le_of_ble_eq_true rfl) ?_
  show ab_fin _ _ _ _ 0 [(0, .ref 102)] [] _ _
  refine W1.R hG (fun a => [(0, .ref a)]) (fun g => rfl) hR (fun r0 hr1 fR1 h2 q2 W2 => ?_)
  obtain rfl : r0 = .inl (some (.int v)) := q2.2
  show ab_bk _ _ _ _ _ _ _ _ _ (.inl (some (.int v))) _
  refine ab_bk.back (pc' := 292) (st' := [.int v, .int v]) rfl rfl ?_
  refine ab_fin.brT (c := (v : Int32) = (v : Int32)) (i := .if_icmp .eq 798) (off := 798) (t := 1090) (r := []) (by decide +kernel) rfl (by decide +kernel) rfl ?_
  exact go _ _ _ _ _ _ W2 q1.1 q2.1
set_option maxRecDepth 100000 in
set_option maxHeartbeats 0 in
theorem lw_clear {z4 z5 z6 : Value} {xs : Nat → Int32} {L : Nat} {h hc hr : List ab_E} {o : Int64} {fC fR : Nat → Nat} {PC PR : List ab_E → Prop} {Q : ab_RX → List ab_E → Prop} (hL : L ≤ 3072) (hG : ab_pure (hb_Gz (some z4, some z5, some z6) (some (0, L, fun i => .int (xs i))))) {i : Nat} (hi : 6 * i + 6 ≤ L) (W0 : Two h hc hr o fC fR) (k13 : is13 hc) (k24 : is24 hr)  (hC : ab_fin (hb_Gz (some z4, some z5, some z6) (some (0, L, fun i => .int (xs i)))) hb_GT 2045 (mX12_clear, []) 0 [(0, .ref 0)] [] hc (fun r0 h => PC h ∧ r0 = .inl none)) (hR : ab_fin (hb_Gz (some z4, some z5, some z6) (some (0, L, fun i => .int (xs i)))) hb_GT 2045 (mX23_clear, []) 0 [(0, .ref 0)] [] hr (fun r0 h => PR h ∧ r0 = .inl none)) (go : ∀ h' hc' hr' o' fC' fR', Two h' hc' hr' o' fC' fR' → PC hc' → PR hr' → ab_fin (hb_Gz (some z4, some z5, some z6) (some (0, L, fun i => .int (xs i)))) hb_GT 2046 (mL_law, []) 1090 [(4, .int (Int32.ofNat (6 * i))), (3, .ref 3467), (2, .ref 102), (1, .ref 0), (0, .retAddr 9)] [] h' Q) : ab_fin (hb_Gz (some z4, some z5, some z6) (some (0, L, fun i => .int (xs i)))) hb_GT 2046 (mL_law, []) 310 [(4, .int (Int32.ofNat (6 * i))), (3, .ref 3467), (2, .ref 102), (1, .ref 0), (0, .retAddr 9)] [] h Q := by
  obtain ⟨fs13, k13⟩ := k13
  obtain ⟨fs24, e24⟩ := k24
  have e13 := W0.c0 k13
  refine ab_fin.s2 (i := .aload_n 1) (k := 1) (pc' := 311) (lv' := [(4, .int (Int32.ofNat (6 * i))), (3, .ref 3467), (2, .ref 102), (1, .ref 0), (0, .retAddr 9)]) (st' := [.ref 0]) (by decide +kernel) rfl rfl ?_
  refine ab_fin.call (i := .invokevirtual 90) (k := 3) (y := 3078) (As := [.ref 0]) (rest := []) (M' := (mX12_clear, [])) (by decide +kernel) (ab_cv rfl rfl e13 ⟨(Nat.le_of_ble_eq_true rfl), (Nat.le_of_ble_eq_true rfl)⟩ rfl) rfl (Nat.le_of_ble_eq_true rfl) ?_
  show ab_fin _ _ _ _ 0 [(0, .ref 0)] [] _ _
  refine W0.C hG (fun a => [(0, .ref a)]) (fun g => rfl) hC (fun r0 hc1 fC1 h1 q1 W1 => ?_)
  obtain rfl : r0 = .inl (none) := q1.2
  show ab_bk _ _ _ _ _ _ _ _ _ (.inl (none)) _
  refine ab_bk.back (pc' := 314) (st' := []) rfl rfl ?_
  refine ab_fin.s2 (i := .aload_n 2) (k := 1) (pc' := 315) (lv' := [(4, .int (Int32.ofNat (6 * i))), (3, .ref 3467), (2, .ref 102), (1, .ref 0), (0, .retAddr 9)]) (st' := [.ref 102]) (by decide +kernel) rfl rfl ?_
  refine ab_fin.call (i := .invokevirtual 93) (k := 3) (y := 5997) (As := [.ref 102]) (rest := []) (M' := (mX23_clear, [])) (by decide +kernel) (ab_cv rfl rfl (W1.r0 e24) ⟨(Nat.le_of_ble_eq_true rfl), (Nat.le_of_ble_eq_true rfl)⟩ rfl) rfl (Nat.le_of_ble_eq_true rfl) ?_
  show ab_fin _ _ _ _ 0 [(0, .ref 102)] [] _ _
  refine W1.R hG (fun a => [(0, .ref a)]) (fun g => rfl) hR (fun r0 hr1 fR1 h2 q2 W2 => ?_)
  obtain rfl : r0 = .inl (none) := q2.2
  show ab_bk _ _ _ _ _ _ _ _ _ (.inl (none)) _
  refine ab_bk.back (pc' := 318) (st' := []) rfl rfl ?_
  refine ab_fin.s3 (i := .goto 772) (k := 3) (t := 1090) (st' := []) (by decide +kernel) (ab_goto (by decide +kernel)) ?_
  exact go _ _ _ _ _ _ W2 q1.1 q2.1
set_option maxRecDepth 100000 in
set_option maxHeartbeats 0 in
theorem lw_drop {z4 z5 z6 : Value} {xs : Nat → Int32} {L : Nat} {h hc hr : List ab_E} {o : Int64} {fC fR : Nat → Nat} {PC PR : List ab_E → Prop} {Q : ab_RX → List ab_E → Prop} (hL : L ≤ 3072) (hG : ab_pure (hb_Gz (some z4, some z5, some z6) (some (0, L, fun i => .int (xs i))))) {i : Nat} (hi : 6 * i + 6 ≤ L) (W0 : Two h hc hr o fC fR) (k13 : is13 hc) (k24 : is24 hr) {r : Nat ⊕ Int32} (ht : ∀ th, r = .inl th → th = 1) (hb : ∀ v, r = .inr v → v = 0 ∨ v = 1) (hC : ab_fin (hb_Gz (some z4, some z5, some z6) (some (0, L, fun i => .int (xs i)))) hb_GT 2044 (mX12_drop, []) 0 [(0, .ref 0), (1, .int (xs (6 * i + 1)))] [] hc (AnC "java/lang/IndexOutOfBoundsException" "java/lang/IndexOutOfBoundsException" PC r)) (hR : ab_fin (hb_Gz (some z4, some z5, some z6) (some (0, L, fun i => .int (xs i)))) hb_GT 2045 (mX23_drop, []) 0 [(0, .ref 0), (1, .int (xs (6 * i + 1)))] [] hr (AnR PR r)) (go : ∀ h' hc' hr' o' fC' fR', Two h' hc' hr' o' fC' fR' → PC hc' → PR hr' → ab_fin (hb_Gz (some z4, some z5, some z6) (some (0, L, fun i => .int (xs i)))) hb_GT 2046 (mL_law, []) 1090 [(4, .int (Int32.ofNat (6 * i))), (3, .ref 3467), (2, .ref 102), (1, .ref 0), (0, .retAddr 9)] [] h' Q) : ab_fin (hb_Gz (some z4, some z5, some z6) (some (0, L, fun i => .int (xs i)))) hb_GT 2046 (mL_law, []) 321 [(4, .int (Int32.ofNat (6 * i))), (3, .ref 3467), (2, .ref 102), (1, .ref 0), (0, .retAddr 9)] [] h Q := by
  obtain ⟨fs13, k13⟩ := k13
  obtain ⟨fs24, e24⟩ := k24
  have e13 := W0.c0 k13
  rcases r with th | v
  · obtain rfl := ht th rfl
    refine ab_fin.s2 (i := .aload_n 1) (k := 1) (pc' := 322) (lv' := [(4, .int (Int32.ofNat (6 * i))), (3, .ref 3467), (2, .ref 102), (1, .ref 0), (0, .retAddr 9)]) (st' := [.ref 0]) (by decide +kernel) rfl rfl ?_
    refine ab_fin.s2 (i := .aload_n 0) (k := 1) (pc' := 323) (lv' := [(4, .int (Int32.ofNat (6 * i))), (3, .ref 3467), (2, .ref 102), (1, .ref 0), (0, .retAddr 9)]) (st' := [.retAddr 9, .ref 0]) (by decide +kernel) rfl rfl ?_
    refine ab_fin.s2 (i := .iload 4) (k := 2) (pc' := 325) (lv' := [(4, .int (Int32.ofNat (6 * i))), (3, .ref 3467), (2, .ref 102), (1, .ref 0), (0, .retAddr 9)]) (st' := [.int (Int32.ofNat (6 * i)), .retAddr 9, .ref 0]) (by decide +kernel) rfl rfl ?_
    refine ab_fin.s1i (i := .iconst 1) (k := 1) (pc' := 326) (n := 1) (by decide +kernel) rfl (by decide +kernel) rfl ?_
    refine ab_fin.s1 (i := .iadd) (k := 1) (pc' := 327) (st' := [.int (Int32.ofNat (6 * i) + 1), .retAddr 9, .ref 0]) (by decide +kernel) rfl rfl ?_
    refine ab_fin.s8 (i := .iaload) (k := 1) (pc' := 328) (st' := [.int (xs (6 * i + 1)), .ref 0]) (by decide +kernel) (ab_x0 rfl (ix_v (i := i) (j := 1) (L := L) (y := 1) (by omega) hL rfl).1 (congrArg (fun k => Value.int (xs k)) (ix_v (i := i) (j := 1) (L := L) (y := 1) (by omega) hL rfl).2)) rfl rfl rfl ?_
    refine ab_fin.s2 (i := .aload_n 3) (k := 1) (pc' := 329) (lv' := [(4, .int (Int32.ofNat (6 * i))), (3, .ref 3467), (2, .ref 102), (1, .ref 0), (0, .retAddr 9)]) (st' := [.ref 3467, .int (xs (6 * i + 1)), .ref 0]) (by decide +kernel) rfl rfl ?_
    refine ab_fin.call (i := .invokestatic 94) (k := 3) (y := 13514) (As := [.ref 0, .int (xs (6 * i + 1)), .ref 3467]) (rest := []) (M' := (mL_drop, [(0, 16, 19, 13)])) (by decide +kernel) (ab_cs rfl rfl ⟨(Nat.le_of_ble_eq_true rfl), (Nat.le_of_ble_eq_true rfl)⟩ rfl) rfl (Nat.le_of_ble_eq_true rfl) ?_
    show ab_fin _ _ _ _ 0 [(0, .ref 0), (1, .int (xs (6 * i + 1))), (2, .ref 3467)] [] _ _
    refine ab_fin.s2 (i := .aload_n 2) (k := 1) (pc' := 1) (lv' := [(0, .ref 0), (1, .int (xs (6 * i + 1))), (2, .ref 3467)]) (st' := [.ref 3467]) (by decide +kernel) rfl rfl ?_
    refine ab_fin.s1i (i := .iconst 0) (k := 1) (pc' := 2) (n := 0) (by decide +kernel) rfl (by decide +kernel) rfl ?_
    refine ab_fin.s2 (i := .aload_n 0) (k := 1) (pc' := 3) (lv' := [(0, .ref 0), (1, .int (xs (6 * i + 1))), (2, .ref 3467)]) (st' := [.ref 0, .int 0, .ref 3467]) (by decide +kernel) rfl rfl ?_
    refine ab_fin.s2 (i := .iload_n 1) (k := 1) (pc' := 4) (lv' := [(0, .ref 0), (1, .int (xs (6 * i + 1))), (2, .ref 3467)]) (st' := [.int (xs (6 * i + 1)), .ref 0, .int 0, .ref 3467]) (by decide +kernel) rfl rfl ?_
    refine ab_fin.call (i := .invokevirtual 21) (k := 3) (y := 3079) (As := [.ref 0, .int (xs (6 * i + 1))]) (rest := [.int 0, .ref 3467]) (M' := (mX12_drop, [])) (by decide +kernel) (ab_cv rfl rfl e13 ⟨(Nat.le_of_ble_eq_true rfl), (Nat.le_of_ble_eq_true rfl)⟩ rfl) rfl (Nat.le_of_ble_eq_true rfl) ?_
    show ab_fin _ _ _ _ 0 [(0, .ref 0), (1, .int (xs (6 * i + 1)))] [] _ _
    refine W0.C hG (fun a => [(0, .ref a), (1, .int (xs (6 * i + 1)))]) (fun g => rfl) hC (fun r0 hc1 fC1 h1 q1 W1 => ?_)
    obtain ⟨x9, e9⟩ := q1.2
    subst e9
    show ab_bk _ _ _ _ _ _ _ _ _ (.inr ("java/lang/IndexOutOfBoundsException", fC1 x9)) _
    refine ab_bk.catch (hp := 19) (by decide +kernel) rfl ?_
    refine ab_fin.s2 (i := .astore_n 3) (k := 1) (pc' := 20) (lv' := [(3, .ref (fC1 x9)), (0, .ref 0), (1, .int (xs (6 * i + 1))), (2, .ref 3467)]) (st' := []) (by decide +kernel) rfl rfl ?_
    refine ab_fin.s1i (i := .iconst 1) (k := 1) (pc' := 21) (n := 1) (by decide +kernel) rfl (by decide +kernel) rfl ?_
    refine ab_fin.ret (i := .ireturn) (k := 1) (some (.int 1)) (by decide +kernel) rfl ?_
    refine ab_bk.back (pc' := 332) (st' := [.int 1]) rfl rfl ?_
    refine ab_fin.s2 (i := .istore 5) (k := 2) (pc' := 334) (lv' := [(5, .int 1), (4, .int (Int32.ofNat (6 * i))), (3, .ref 3467), (2, .ref 102), (1, .ref 0), (0, .retAddr 9)]) (st' := []) (by decide +kernel) rfl rfl ?_
    refine ab_fin.s2 (i := .aload_n 2) (k := 1) (pc' := 335) (lv' := [(5, .int 1), (4, .int (Int32.ofNat (6 * i))), (3, .ref 3467), (2, .ref 102), (1, .ref 0), (0, .retAddr 9)]) (st' := [.ref 102]) (by decide +kernel) rfl rfl ?_
    refine ab_fin.s2 (i := .aload_n 0) (k := 1) (pc' := 336) (lv' := [(5, .int 1), (4, .int (Int32.ofNat (6 * i))), (3, .ref 3467), (2, .ref 102), (1, .ref 0), (0, .retAddr 9)]) (st' := [.retAddr 9, .ref 102]) (by decide +kernel) rfl rfl ?_
    refine ab_fin.s2 (i := .iload 4) (k := 2) (pc' := 338) (lv' := [(5, .int 1), (4, .int (Int32.ofNat (6 * i))), (3, .ref 3467), (2, .ref 102), (1, .ref 0), (0, .retAddr 9)]) (st' := [.int (Int32.ofNat (6 * i)), .retAddr 9, .ref 102]) (by decide +kernel) rfl rfl ?_
    refine ab_fin.s1i (i := .iconst 1) (k := 1) (pc' := 339) (n := 1) (by decide +kernel) rfl (by decide +kernel) rfl ?_
    refine ab_fin.s1 (i := .iadd) (k := 1) (pc' := 340) (st' := [.int (Int32.ofNat (6 * i) + 1), .retAddr 9, .ref 102]) (by decide +kernel) rfl rfl ?_
    refine ab_fin.s8 (i := .iaload) (k := 1) (pc' := 341) (st' := [.int (xs (6 * i + 1)), .ref 102]) (by decide +kernel) (ab_x0 rfl (ix_v (i := i) (j := 1) (L := L) (y := 1) (by omega) hL rfl).1 (congrArg (fun k => Value.int (xs k)) (ix_v (i := i) (j := 1) (L := L) (y := 1) (by omega) hL rfl).2)) rfl rfl rfl ?_
    refine ab_fin.call (i := .invokevirtual 96) (k := 3) (y := 5998) (As := [.ref 102, .int (xs (6 * i + 1))]) (rest := []) (M' := (mX23_drop, [])) (by decide +kernel) (ab_cv rfl rfl (W1.r0 e24) ⟨(Nat.le_of_ble_eq_true rfl), (Nat.le_of_ble_eq_true rfl)⟩ rfl) rfl (Nat.le_of_ble_eq_true rfl) ?_
    show ab_fin _ _ _ _ 0 [(0, .ref 102), (1, .int (xs (6 * i + 1)))] [] _ _
    refine W1.R hG (fun a => [(0, .ref a), (1, .int (xs (6 * i + 1)))]) (fun g => rfl) hR (fun r0 hr1 fR1 h2 q2 W2 => ?_)
    obtain rfl : r0 = .inl (some (.int 0)) := q2.2.1
    show ab_bk _ _ _ _ _ _ _ _ _ (.inl (some (.int 0))) _
    refine ab_bk.back (pc' := 344) (st' := [.int 0]) rfl rfl ?_
    obtain ⟨fs, t1, t2⟩ := thrR.at W2 q2.2.2
    refine ab_fin.s2 (i := .istore 6) (k := 2) (pc' := 346) (lv' := [(6, .int 0), (5, .int 1), (4, .int (Int32.ofNat (6 * i))), (3, .ref 3467), (2, .ref 102), (1, .ref 0), (0, .retAddr 9)]) (st' := []) (by decide +kernel) rfl rfl ?_
    refine ab_fin.s2 (i := .aload_n 2) (k := 1) (pc' := 347) (lv' := [(6, .int 0), (5, .int 1), (4, .int (Int32.ofNat (6 * i))), (3, .ref 3467), (2, .ref 102), (1, .ref 0), (0, .retAddr 9)]) (st' := [.ref 102]) (by decide +kernel) rfl rfl ?_
    refine ab_fin.call (i := .invokevirtual 75) (k := 3) (y := 5992) (As := [.ref 102]) (rest := []) (M' := (mX23_thrown, [])) (by decide +kernel) (ab_cv rfl rfl t1 ⟨(Nat.le_of_ble_eq_true rfl), (Nat.le_of_ble_eq_true rfl)⟩ rfl) rfl (Nat.le_of_ble_eq_true rfl) ?_
    show ab_fin _ _ _ _ 0 [(0, .ref 102)] [] _ _
    refine ab_fin.s2 (i := .aload_n 0) (k := 1) (pc' := 1) (lv' := [(0, .ref 102)]) (st' := [.ref 102]) (by decide +kernel) rfl rfl ?_
    refine ab_fin.getf (ix := 1000) (k := 110) (v := .int 1) (pc' := 4) (by decide +kernel) rfl t1 t2 rfl ?_
    refine ab_fin.ret (i := .ireturn) (k := 1) (some (.int 1)) (by decide +kernel) rfl ?_
    refine ab_bk.back (pc' := 350) (st' := [.int 1]) rfl rfl ?_
    refine ab_fin.s2 (i := .iload 5) (k := 2) (pc' := 352) (lv' := [(6, .int 0), (5, .int 1), (4, .int (Int32.ofNat (6 * i))), (3, .ref 3467), (2, .ref 102), (1, .ref 0), (0, .retAddr 9)]) (st' := [.int 1, .int 1]) (by decide +kernel) rfl rfl ?_
    refine ab_fin.brT (c := (1 : Int32) = (1 : Int32)) (i := .if_icmp .eq 5) (off := 5) (t := 357) (r := []) (by decide +kernel) rfl (by decide +kernel) rfl ?_
    refine ab_fin.s2 (i := .iload 5) (k := 2) (pc' := 359) (lv' := [(6, .int 0), (5, .int 1), (4, .int (Int32.ofNat (6 * i))), (3, .ref 3467), (2, .ref 102), (1, .ref 0), (0, .retAddr 9)]) (st' := [.int 1]) (by decide +kernel) rfl rfl ?_
    refine ab_fin.brT (c := ¬ (1 : Int32) = 0) (i := .ifCond .ne 22) (off := 22) (t := 381) (r := []) (by decide +kernel) rfl (by decide +kernel) (by decide +kernel) ?_
    refine ab_fin.s3 (i := .goto 709) (k := 3) (t := 1090) (st' := []) (by decide +kernel) (ab_goto (by decide +kernel)) ?_
    refine ab_fin.lv (lv' := [(4, .int (Int32.ofNat (6 * i))), (3, .ref 3467), (2, .ref 102), (1, .ref 0), (0, .retAddr 9)]) ⟨fun q hq => ?_, (by show ([6, 5, 4, 3, 2, 1, 0] : List Nat).Nodup; decide)⟩ (go _ _ _ _ _ _ W2 q1.1 q2.1)
    simp only [List.mem_cons, List.not_mem_nil, or_false] at hq ⊢
    rcases hq with rfl | rfl | rfl | rfl | rfl <;> simp
  · rcases hb v rfl with rfl | rfl
    · refine ab_fin.s2 (i := .aload_n 1) (k := 1) (pc' := 322) (lv' := [(4, .int (Int32.ofNat (6 * i))), (3, .ref 3467), (2, .ref 102), (1, .ref 0), (0, .retAddr 9)]) (st' := [.ref 0]) (by decide +kernel) rfl rfl ?_
      refine ab_fin.s2 (i := .aload_n 0) (k := 1) (pc' := 323) (lv' := [(4, .int (Int32.ofNat (6 * i))), (3, .ref 3467), (2, .ref 102), (1, .ref 0), (0, .retAddr 9)]) (st' := [.retAddr 9, .ref 0]) (by decide +kernel) rfl rfl ?_
      refine ab_fin.s2 (i := .iload 4) (k := 2) (pc' := 325) (lv' := [(4, .int (Int32.ofNat (6 * i))), (3, .ref 3467), (2, .ref 102), (1, .ref 0), (0, .retAddr 9)]) (st' := [.int (Int32.ofNat (6 * i)), .retAddr 9, .ref 0]) (by decide +kernel) rfl rfl ?_
      refine ab_fin.s1i (i := .iconst 1) (k := 1) (pc' := 326) (n := 1) (by decide +kernel) rfl (by decide +kernel) rfl ?_
      refine ab_fin.s1 (i := .iadd) (k := 1) (pc' := 327) (st' := [.int (Int32.ofNat (6 * i) + 1), .retAddr 9, .ref 0]) (by decide +kernel) rfl rfl ?_
      refine ab_fin.s8 (i := .iaload) (k := 1) (pc' := 328) (st' := [.int (xs (6 * i + 1)), .ref 0]) (by decide +kernel) (ab_x0 rfl (ix_v (i := i) (j := 1) (L := L) (y := 1) (by omega) hL rfl).1 (congrArg (fun k => Value.int (xs k)) (ix_v (i := i) (j := 1) (L := L) (y := 1) (by omega) hL rfl).2)) rfl rfl rfl ?_
      refine ab_fin.s2 (i := .aload_n 3) (k := 1) (pc' := 329) (lv' := [(4, .int (Int32.ofNat (6 * i))), (3, .ref 3467), (2, .ref 102), (1, .ref 0), (0, .retAddr 9)]) (st' := [.ref 3467, .int (xs (6 * i + 1)), .ref 0]) (by decide +kernel) rfl rfl ?_
      refine ab_fin.call (i := .invokestatic 94) (k := 3) (y := 13514) (As := [.ref 0, .int (xs (6 * i + 1)), .ref 3467]) (rest := []) (M' := (mL_drop, [(0, 16, 19, 13)])) (by decide +kernel) (ab_cs rfl rfl ⟨(Nat.le_of_ble_eq_true rfl), (Nat.le_of_ble_eq_true rfl)⟩ rfl) rfl (Nat.le_of_ble_eq_true rfl) ?_
      show ab_fin _ _ _ _ 0 [(0, .ref 0), (1, .int (xs (6 * i + 1))), (2, .ref 3467)] [] _ _
      refine ab_fin.s2 (i := .aload_n 2) (k := 1) (pc' := 1) (lv' := [(0, .ref 0), (1, .int (xs (6 * i + 1))), (2, .ref 3467)]) (st' := [.ref 3467]) (by decide +kernel) rfl rfl ?_
      refine ab_fin.s1i (i := .iconst 0) (k := 1) (pc' := 2) (n := 0) (by decide +kernel) rfl (by decide +kernel) rfl ?_
      refine ab_fin.s2 (i := .aload_n 0) (k := 1) (pc' := 3) (lv' := [(0, .ref 0), (1, .int (xs (6 * i + 1))), (2, .ref 3467)]) (st' := [.ref 0, .int 0, .ref 3467]) (by decide +kernel) rfl rfl ?_
      refine ab_fin.s2 (i := .iload_n 1) (k := 1) (pc' := 4) (lv' := [(0, .ref 0), (1, .int (xs (6 * i + 1))), (2, .ref 3467)]) (st' := [.int (xs (6 * i + 1)), .ref 0, .int 0, .ref 3467]) (by decide +kernel) rfl rfl ?_
      refine ab_fin.call (i := .invokevirtual 21) (k := 3) (y := 3079) (As := [.ref 0, .int (xs (6 * i + 1))]) (rest := [.int 0, .ref 3467]) (M' := (mX12_drop, [])) (by decide +kernel) (ab_cv rfl rfl e13 ⟨(Nat.le_of_ble_eq_true rfl), (Nat.le_of_ble_eq_true rfl)⟩ rfl) rfl (Nat.le_of_ble_eq_true rfl) ?_
      show ab_fin _ _ _ _ 0 [(0, .ref 0), (1, .int (xs (6 * i + 1)))] [] _ _
      refine W0.C hG (fun a => [(0, .ref a), (1, .int (xs (6 * i + 1)))]) (fun g => rfl) hC (fun r0 hc1 fC1 h1 q1 W1 => ?_)
      obtain rfl : r0 = .inl (some (.int 0)) := q1.2
      show ab_bk _ _ _ _ _ _ _ _ _ (.inl (some (.int 0))) _
      refine ab_bk.back (pc' := 7) (st' := [.int 0, .int 0, .ref 3467]) rfl rfl ?_
      refine ab_fin.brT (c := (0 : Int32) = 0) (i := .ifCond .eq 7) (off := 7) (t := 14) (r := [.int 0, .ref 3467]) (by decide +kernel) rfl (by decide +kernel) (by decide +kernel) ?_
      refine ab_fin.s1l (i := .lconst 0) (k := 1) (pc' := 15) (n := 0) (by decide +kernel) rfl (by decide +kernel) rfl ?_
      refine ab_fin.last (l := [o]) (h1 := h1.set 3467 (.inr (.inl (1, .inr (.inl [0]))))) (pc' := 16) (by decide +kernel) W1.2.2.2.2.1 (hi0 _) rfl rfl ?_
      have W1x := W1.out (0)
      refine ab_fin.s3 (i := .goto 6) (k := 3) (t := 22) (st' := []) (by decide +kernel) (ab_goto (by decide +kernel)) ?_
      refine ab_fin.s1i (i := .iconst 0) (k := 1) (pc' := 23) (n := 0) (by decide +kernel) rfl (by decide +kernel) rfl ?_
      refine ab_fin.ret (i := .ireturn) (k := 1) (some (.int 0)) (by decide +kernel) rfl ?_
      refine ab_bk.back (pc' := 332) (st' := [.int 0]) rfl rfl ?_
      refine ab_fin.s2 (i := .istore 5) (k := 2) (pc' := 334) (lv' := [(5, .int 0), (4, .int (Int32.ofNat (6 * i))), (3, .ref 3467), (2, .ref 102), (1, .ref 0), (0, .retAddr 9)]) (st' := []) (by decide +kernel) rfl rfl ?_
      refine ab_fin.s2 (i := .aload_n 2) (k := 1) (pc' := 335) (lv' := [(5, .int 0), (4, .int (Int32.ofNat (6 * i))), (3, .ref 3467), (2, .ref 102), (1, .ref 0), (0, .retAddr 9)]) (st' := [.ref 102]) (by decide +kernel) rfl rfl ?_
      refine ab_fin.s2 (i := .aload_n 0) (k := 1) (pc' := 336) (lv' := [(5, .int 0), (4, .int (Int32.ofNat (6 * i))), (3, .ref 3467), (2, .ref 102), (1, .ref 0), (0, .retAddr 9)]) (st' := [.retAddr 9, .ref 102]) (by decide +kernel) rfl rfl ?_
      refine ab_fin.s2 (i := .iload 4) (k := 2) (pc' := 338) (lv' := [(5, .int 0), (4, .int (Int32.ofNat (6 * i))), (3, .ref 3467), (2, .ref 102), (1, .ref 0), (0, .retAddr 9)]) (st' := [.int (Int32.ofNat (6 * i)), .retAddr 9, .ref 102]) (by decide +kernel) rfl rfl ?_
      refine ab_fin.s1i (i := .iconst 1) (k := 1) (pc' := 339) (n := 1) (by decide +kernel) rfl (by decide +kernel) rfl ?_
      refine ab_fin.s1 (i := .iadd) (k := 1) (pc' := 340) (st' := [.int (Int32.ofNat (6 * i) + 1), .retAddr 9, .ref 102]) (by decide +kernel) rfl rfl ?_
      refine ab_fin.s8 (i := .iaload) (k := 1) (pc' := 341) (st' := [.int (xs (6 * i + 1)), .ref 102]) (by decide +kernel) (ab_x0 rfl (ix_v (i := i) (j := 1) (L := L) (y := 1) (by omega) hL rfl).1 (congrArg (fun k => Value.int (xs k)) (ix_v (i := i) (j := 1) (L := L) (y := 1) (by omega) hL rfl).2)) rfl rfl rfl ?_
      refine ab_fin.call (i := .invokevirtual 96) (k := 3) (y := 5998) (As := [.ref 102, .int (xs (6 * i + 1))]) (rest := []) (M' := (mX23_drop, [])) (by decide +kernel) (ab_cv rfl rfl (W1x.r0 e24) ⟨(Nat.le_of_ble_eq_true rfl), (Nat.le_of_ble_eq_true rfl)⟩ rfl) rfl (Nat.le_of_ble_eq_true rfl) ?_
      show ab_fin _ _ _ _ 0 [(0, .ref 102), (1, .int (xs (6 * i + 1)))] [] _ _
      refine W1x.R hG (fun a => [(0, .ref a), (1, .int (xs (6 * i + 1)))]) (fun g => rfl) hR (fun r0 hr1 fR1 h2 q2 W2 => ?_)
      obtain rfl : r0 = .inl (some (.int 0)) := q2.2.1
      show ab_bk _ _ _ _ _ _ _ _ _ (.inl (some (.int 0))) _
      refine ab_bk.back (pc' := 344) (st' := [.int 0]) rfl rfl ?_
      obtain ⟨fs, t1, t2⟩ := thrR.at W2 q2.2.2
      refine ab_fin.s2 (i := .istore 6) (k := 2) (pc' := 346) (lv' := [(6, .int 0), (5, .int 0), (4, .int (Int32.ofNat (6 * i))), (3, .ref 3467), (2, .ref 102), (1, .ref 0), (0, .retAddr 9)]) (st' := []) (by decide +kernel) rfl rfl ?_
      refine ab_fin.s2 (i := .aload_n 2) (k := 1) (pc' := 347) (lv' := [(6, .int 0), (5, .int 0), (4, .int (Int32.ofNat (6 * i))), (3, .ref 3467), (2, .ref 102), (1, .ref 0), (0, .retAddr 9)]) (st' := [.ref 102]) (by decide +kernel) rfl rfl ?_
      refine ab_fin.call (i := .invokevirtual 75) (k := 3) (y := 5992) (As := [.ref 102]) (rest := []) (M' := (mX23_thrown, [])) (by decide +kernel) (ab_cv rfl rfl t1 ⟨(Nat.le_of_ble_eq_true rfl), (Nat.le_of_ble_eq_true rfl)⟩ rfl) rfl (Nat.le_of_ble_eq_true rfl) ?_
      show ab_fin _ _ _ _ 0 [(0, .ref 102)] [] _ _
      refine ab_fin.s2 (i := .aload_n 0) (k := 1) (pc' := 1) (lv' := [(0, .ref 102)]) (st' := [.ref 102]) (by decide +kernel) rfl rfl ?_
      refine ab_fin.getf (ix := 1000) (k := 110) (v := .int 0) (pc' := 4) (by decide +kernel) rfl t1 t2 rfl ?_
      refine ab_fin.ret (i := .ireturn) (k := 1) (some (.int 0)) (by decide +kernel) rfl ?_
      refine ab_bk.back (pc' := 350) (st' := [.int 0]) rfl rfl ?_
      refine ab_fin.s2 (i := .iload 5) (k := 2) (pc' := 352) (lv' := [(6, .int 0), (5, .int 0), (4, .int (Int32.ofNat (6 * i))), (3, .ref 3467), (2, .ref 102), (1, .ref 0), (0, .retAddr 9)]) (st' := [.int 0, .int 0]) (by decide +kernel) rfl rfl ?_
      refine ab_fin.brT (c := (0 : Int32) = (0 : Int32)) (i := .if_icmp .eq 5) (off := 5) (t := 357) (r := []) (by decide +kernel) rfl (by decide +kernel) rfl ?_
      refine ab_fin.s2 (i := .iload 5) (k := 2) (pc' := 359) (lv' := [(6, .int 0), (5, .int 0), (4, .int (Int32.ofNat (6 * i))), (3, .ref 3467), (2, .ref 102), (1, .ref 0), (0, .retAddr 9)]) (st' := [.int 0]) (by decide +kernel) rfl rfl ?_
      refine ab_fin.brF (c := ¬ (0 : Int32) = 0) (i := .ifCond .ne 22) (off := 22) (t := 381) (pc' := 362) (r := []) (by decide +kernel) rfl (by decide +kernel) rfl (by decide +kernel) ?_
      refine ab_fin.s2 (i := .aload_n 3) (k := 1) (pc' := 363) (lv' := [(6, .int 0), (5, .int 0), (4, .int (Int32.ofNat (6 * i))), (3, .ref 3467), (2, .ref 102), (1, .ref 0), (0, .retAddr 9)]) (st' := [.ref 3467]) (by decide +kernel) rfl rfl ?_
      refine ab_fin.s1i (i := .iconst 0) (k := 1) (pc' := 364) (n := 0) (by decide +kernel) rfl (by decide +kernel) rfl ?_
      refine ab_fin.lald (l := [0]) (v := 0) (pc' := 365) (by decide +kernel) W2.2.2.2.2.1 (hi0 _) rfl rfl ?_
      refine ab_fin.s2 (i := .iload 6) (k := 2) (pc' := 367) (lv' := [(6, .int 0), (5, .int 0), (4, .int (Int32.ofNat (6 * i))), (3, .ref 3467), (2, .ref 102), (1, .ref 0), (0, .retAddr 9)]) (st' := [.int 0, .long 0]) (by decide +kernel) rfl rfl ?_
      refine ab_fin.brT (c := (0 : Int32) = 0) (i := .ifCond .eq 7) (off := 7) (t := 374) (r := [.long 0]) (by decide +kernel) rfl (by decide +kernel) (by decide +kernel) ?_
      refine ab_fin.s1l (i := .lconst 0) (k := 1) (pc' := 375) (n := 0) (by decide +kernel) rfl (by decide +kernel) rfl ?_
      refine ab_fin.s1i (i := .lcmp) (k := 1) (pc' := 376) (n := 0) (by decide +kernel) rfl (lg_c0 _) rfl ?_
      refine ab_fin.brT (c := (0 : Int32) = 0) (i := .ifCond .eq 5) (off := 5) (t := 381) (r := []) (by decide +kernel) rfl (by decide +kernel) (by decide +kernel) ?_
      refine ab_fin.s3 (i := .goto 709) (k := 3) (t := 1090) (st' := []) (by decide +kernel) (ab_goto (by decide +kernel)) ?_
      refine ab_fin.lv (lv' := [(4, .int (Int32.ofNat (6 * i))), (3, .ref 3467), (2, .ref 102), (1, .ref 0), (0, .retAddr 9)]) ⟨fun q hq => ?_, (by show ([6, 5, 4, 3, 2, 1, 0] : List Nat).Nodup; decide)⟩ (go _ _ _ _ _ _ W2 q1.1 q2.1)
      simp only [List.mem_cons, List.not_mem_nil, or_false] at hq ⊢
      rcases hq with rfl | rfl | rfl | rfl | rfl <;> simp
    · refine ab_fin.s2 (i := .aload_n 1) (k := 1) (pc' := 322) (lv' := [(4, .int (Int32.ofNat (6 * i))), (3, .ref 3467), (2, .ref 102), (1, .ref 0), (0, .retAddr 9)]) (st' := [.ref 0]) (by decide +kernel) rfl rfl ?_
      refine ab_fin.s2 (i := .aload_n 0) (k := 1) (pc' := 323) (lv' := [(4, .int (Int32.ofNat (6 * i))), (3, .ref 3467), (2, .ref 102), (1, .ref 0), (0, .retAddr 9)]) (st' := [.retAddr 9, .ref 0]) (by decide +kernel) rfl rfl ?_
      refine ab_fin.s2 (i := .iload 4) (k := 2) (pc' := 325) (lv' := [(4, .int (Int32.ofNat (6 * i))), (3, .ref 3467), (2, .ref 102), (1, .ref 0), (0, .retAddr 9)]) (st' := [.int (Int32.ofNat (6 * i)), .retAddr 9, .ref 0]) (by decide +kernel) rfl rfl ?_
      refine ab_fin.s1i (i := .iconst 1) (k := 1) (pc' := 326) (n := 1) (by decide +kernel) rfl (by decide +kernel) rfl ?_
      refine ab_fin.s1 (i := .iadd) (k := 1) (pc' := 327) (st' := [.int (Int32.ofNat (6 * i) + 1), .retAddr 9, .ref 0]) (by decide +kernel) rfl rfl ?_
      refine ab_fin.s8 (i := .iaload) (k := 1) (pc' := 328) (st' := [.int (xs (6 * i + 1)), .ref 0]) (by decide +kernel) (ab_x0 rfl (ix_v (i := i) (j := 1) (L := L) (y := 1) (by omega) hL rfl).1 (congrArg (fun k => Value.int (xs k)) (ix_v (i := i) (j := 1) (L := L) (y := 1) (by omega) hL rfl).2)) rfl rfl rfl ?_
      refine ab_fin.s2 (i := .aload_n 3) (k := 1) (pc' := 329) (lv' := [(4, .int (Int32.ofNat (6 * i))), (3, .ref 3467), (2, .ref 102), (1, .ref 0), (0, .retAddr 9)]) (st' := [.ref 3467, .int (xs (6 * i + 1)), .ref 0]) (by decide +kernel) rfl rfl ?_
      refine ab_fin.call (i := .invokestatic 94) (k := 3) (y := 13514) (As := [.ref 0, .int (xs (6 * i + 1)), .ref 3467]) (rest := []) (M' := (mL_drop, [(0, 16, 19, 13)])) (by decide +kernel) (ab_cs rfl rfl ⟨(Nat.le_of_ble_eq_true rfl), (Nat.le_of_ble_eq_true rfl)⟩ rfl) rfl (Nat.le_of_ble_eq_true rfl) ?_
      show ab_fin _ _ _ _ 0 [(0, .ref 0), (1, .int (xs (6 * i + 1))), (2, .ref 3467)] [] _ _
      refine ab_fin.s2 (i := .aload_n 2) (k := 1) (pc' := 1) (lv' := [(0, .ref 0), (1, .int (xs (6 * i + 1))), (2, .ref 3467)]) (st' := [.ref 3467]) (by decide +kernel) rfl rfl ?_
      refine ab_fin.s1i (i := .iconst 0) (k := 1) (pc' := 2) (n := 0) (by decide +kernel) rfl (by decide +kernel) rfl ?_
      refine ab_fin.s2 (i := .aload_n 0) (k := 1) (pc' := 3) (lv' := [(0, .ref 0), (1, .int (xs (6 * i + 1))), (2, .ref 3467)]) (st' := [.ref 0, .int 0, .ref 3467]) (by decide +kernel) rfl rfl ?_
      refine ab_fin.s2 (i := .iload_n 1) (k := 1) (pc' := 4) (lv' := [(0, .ref 0), (1, .int (xs (6 * i + 1))), (2, .ref 3467)]) (st' := [.int (xs (6 * i + 1)), .ref 0, .int 0, .ref 3467]) (by decide +kernel) rfl rfl ?_
      refine ab_fin.call (i := .invokevirtual 21) (k := 3) (y := 3079) (As := [.ref 0, .int (xs (6 * i + 1))]) (rest := [.int 0, .ref 3467]) (M' := (mX12_drop, [])) (by decide +kernel) (ab_cv rfl rfl e13 ⟨(Nat.le_of_ble_eq_true rfl), (Nat.le_of_ble_eq_true rfl)⟩ rfl) rfl (Nat.le_of_ble_eq_true rfl) ?_
      show ab_fin _ _ _ _ 0 [(0, .ref 0), (1, .int (xs (6 * i + 1)))] [] _ _
      refine W0.C hG (fun a => [(0, .ref a), (1, .int (xs (6 * i + 1)))]) (fun g => rfl) hC (fun r0 hc1 fC1 h1 q1 W1 => ?_)
      obtain rfl : r0 = .inl (some (.int 1)) := q1.2
      show ab_bk _ _ _ _ _ _ _ _ _ (.inl (some (.int 1))) _
      refine ab_bk.back (pc' := 7) (st' := [.int 1, .int 0, .ref 3467]) rfl rfl ?_
      refine ab_fin.brF (c := (1 : Int32) = 0) (i := .ifCond .eq 7) (off := 7) (t := 14) (pc' := 10) (r := [.int 0, .ref 3467]) (by decide +kernel) rfl (by decide +kernel) rfl (by decide +kernel) ?_
      refine ab_fin.s1l (i := .lconst 1) (k := 1) (pc' := 11) (n := 1) (by decide +kernel) rfl (by decide +kernel) rfl ?_
      refine ab_fin.s3 (i := .goto 4) (k := 3) (t := 15) (st' := [.long 1, .int 0, .ref 3467]) (by decide +kernel) (ab_goto (by decide +kernel)) ?_
      refine ab_fin.last (l := [o]) (h1 := h1.set 3467 (.inr (.inl (1, .inr (.inl [1]))))) (pc' := 16) (by decide +kernel) W1.2.2.2.2.1 (hi0 _) rfl rfl ?_
      have W1x := W1.out (1)
      refine ab_fin.s3 (i := .goto 6) (k := 3) (t := 22) (st' := []) (by decide +kernel) (ab_goto (by decide +kernel)) ?_
      refine ab_fin.s1i (i := .iconst 0) (k := 1) (pc' := 23) (n := 0) (by decide +kernel) rfl (by decide +kernel) rfl ?_
      refine ab_fin.ret (i := .ireturn) (k := 1) (some (.int 0)) (by decide +kernel) rfl ?_
      refine ab_bk.back (pc' := 332) (st' := [.int 0]) rfl rfl ?_
      refine ab_fin.s2 (i := .istore 5) (k := 2) (pc' := 334) (lv' := [(5, .int 0), (4, .int (Int32.ofNat (6 * i))), (3, .ref 3467), (2, .ref 102), (1, .ref 0), (0, .retAddr 9)]) (st' := []) (by decide +kernel) rfl rfl ?_
      refine ab_fin.s2 (i := .aload_n 2) (k := 1) (pc' := 335) (lv' := [(5, .int 0), (4, .int (Int32.ofNat (6 * i))), (3, .ref 3467), (2, .ref 102), (1, .ref 0), (0, .retAddr 9)]) (st' := [.ref 102]) (by decide +kernel) rfl rfl ?_
      refine ab_fin.s2 (i := .aload_n 0) (k := 1) (pc' := 336) (lv' := [(5, .int 0), (4, .int (Int32.ofNat (6 * i))), (3, .ref 3467), (2, .ref 102), (1, .ref 0), (0, .retAddr 9)]) (st' := [.retAddr 9, .ref 102]) (by decide +kernel) rfl rfl ?_
      refine ab_fin.s2 (i := .iload 4) (k := 2) (pc' := 338) (lv' := [(5, .int 0), (4, .int (Int32.ofNat (6 * i))), (3, .ref 3467), (2, .ref 102), (1, .ref 0), (0, .retAddr 9)]) (st' := [.int (Int32.ofNat (6 * i)), .retAddr 9, .ref 102]) (by decide +kernel) rfl rfl ?_
      refine ab_fin.s1i (i := .iconst 1) (k := 1) (pc' := 339) (n := 1) (by decide +kernel) rfl (by decide +kernel) rfl ?_
      refine ab_fin.s1 (i := .iadd) (k := 1) (pc' := 340) (st' := [.int (Int32.ofNat (6 * i) + 1), .retAddr 9, .ref 102]) (by decide +kernel) rfl rfl ?_
      refine ab_fin.s8 (i := .iaload) (k := 1) (pc' := 341) (st' := [.int (xs (6 * i + 1)), .ref 102]) (by decide +kernel) (ab_x0 rfl (ix_v (i := i) (j := 1) (L := L) (y := 1) (by omega) hL rfl).1 (congrArg (fun k => Value.int (xs k)) (ix_v (i := i) (j := 1) (L := L) (y := 1) (by omega) hL rfl).2)) rfl rfl rfl ?_
      refine ab_fin.call (i := .invokevirtual 96) (k := 3) (y := 5998) (As := [.ref 102, .int (xs (6 * i + 1))]) (rest := []) (M' := (mX23_drop, [])) (by decide +kernel) (ab_cv rfl rfl (W1x.r0 e24) ⟨(Nat.le_of_ble_eq_true rfl), (Nat.le_of_ble_eq_true rfl)⟩ rfl) rfl (Nat.le_of_ble_eq_true rfl) ?_
      show ab_fin _ _ _ _ 0 [(0, .ref 102), (1, .int (xs (6 * i + 1)))] [] _ _
      refine W1x.R hG (fun a => [(0, .ref a), (1, .int (xs (6 * i + 1)))]) (fun g => rfl) hR (fun r0 hr1 fR1 h2 q2 W2 => ?_)
      obtain rfl : r0 = .inl (some (.int 1)) := q2.2.1
      show ab_bk _ _ _ _ _ _ _ _ _ (.inl (some (.int 1))) _
      refine ab_bk.back (pc' := 344) (st' := [.int 1]) rfl rfl ?_
      obtain ⟨fs, t1, t2⟩ := thrR.at W2 q2.2.2
      refine ab_fin.s2 (i := .istore 6) (k := 2) (pc' := 346) (lv' := [(6, .int 1), (5, .int 0), (4, .int (Int32.ofNat (6 * i))), (3, .ref 3467), (2, .ref 102), (1, .ref 0), (0, .retAddr 9)]) (st' := []) (by decide +kernel) rfl rfl ?_
      refine ab_fin.s2 (i := .aload_n 2) (k := 1) (pc' := 347) (lv' := [(6, .int 1), (5, .int 0), (4, .int (Int32.ofNat (6 * i))), (3, .ref 3467), (2, .ref 102), (1, .ref 0), (0, .retAddr 9)]) (st' := [.ref 102]) (by decide +kernel) rfl rfl ?_
      refine ab_fin.call (i := .invokevirtual 75) (k := 3) (y := 5992) (As := [.ref 102]) (rest := []) (M' := (mX23_thrown, [])) (by decide +kernel) (ab_cv rfl rfl t1 ⟨(Nat.le_of_ble_eq_true rfl), (Nat.le_of_ble_eq_true rfl)⟩ rfl) rfl (Nat.le_of_ble_eq_true rfl) ?_
      show ab_fin _ _ _ _ 0 [(0, .ref 102)] [] _ _
      refine ab_fin.s2 (i := .aload_n 0) (k := 1) (pc' := 1) (lv' := [(0, .ref 102)]) (st' := [.ref 102]) (by decide +kernel) rfl rfl ?_
      refine ab_fin.getf (ix := 1000) (k := 110) (v := .int 0) (pc' := 4) (by decide +kernel) rfl t1 t2 rfl ?_
      refine ab_fin.ret (i := .ireturn) (k := 1) (some (.int 0)) (by decide +kernel) rfl ?_
      refine ab_bk.back (pc' := 350) (st' := [.int 0]) rfl rfl ?_
      refine ab_fin.s2 (i := .iload 5) (k := 2) (pc' := 352) (lv' := [(6, .int 1), (5, .int 0), (4, .int (Int32.ofNat (6 * i))), (3, .ref 3467), (2, .ref 102), (1, .ref 0), (0, .retAddr 9)]) (st' := [.int 0, .int 0]) (by decide +kernel) rfl rfl ?_
      refine ab_fin.brT (c := (0 : Int32) = (0 : Int32)) (i := .if_icmp .eq 5) (off := 5) (t := 357) (r := []) (by decide +kernel) rfl (by decide +kernel) rfl ?_
      refine ab_fin.s2 (i := .iload 5) (k := 2) (pc' := 359) (lv' := [(6, .int 1), (5, .int 0), (4, .int (Int32.ofNat (6 * i))), (3, .ref 3467), (2, .ref 102), (1, .ref 0), (0, .retAddr 9)]) (st' := [.int 0]) (by decide +kernel) rfl rfl ?_
      refine ab_fin.brF (c := ¬ (0 : Int32) = 0) (i := .ifCond .ne 22) (off := 22) (t := 381) (pc' := 362) (r := []) (by decide +kernel) rfl (by decide +kernel) rfl (by decide +kernel) ?_
      refine ab_fin.s2 (i := .aload_n 3) (k := 1) (pc' := 363) (lv' := [(6, .int 1), (5, .int 0), (4, .int (Int32.ofNat (6 * i))), (3, .ref 3467), (2, .ref 102), (1, .ref 0), (0, .retAddr 9)]) (st' := [.ref 3467]) (by decide +kernel) rfl rfl ?_
      refine ab_fin.s1i (i := .iconst 0) (k := 1) (pc' := 364) (n := 0) (by decide +kernel) rfl (by decide +kernel) rfl ?_
      refine ab_fin.lald (l := [1]) (v := 1) (pc' := 365) (by decide +kernel) W2.2.2.2.2.1 (hi0 _) rfl rfl ?_
      refine ab_fin.s2 (i := .iload 6) (k := 2) (pc' := 367) (lv' := [(6, .int 1), (5, .int 0), (4, .int (Int32.ofNat (6 * i))), (3, .ref 3467), (2, .ref 102), (1, .ref 0), (0, .retAddr 9)]) (st' := [.int 1, .long 1]) (by decide +kernel) rfl rfl ?_
      refine ab_fin.brF (c := (1 : Int32) = 0) (i := .ifCond .eq 7) (off := 7) (t := 374) (pc' := 370) (r := [.long 1]) (by decide +kernel) rfl (by decide +kernel) rfl (by decide +kernel) ?_
      refine ab_fin.s1l (i := .lconst 1) (k := 1) (pc' := 371) (n := 1) (by decide +kernel) rfl (by decide +kernel) rfl ?_
      refine ab_fin.s3 (i := .goto 4) (k := 3) (t := 375) (st' := [.long 1, .long 1]) (by decide +kernel) (ab_goto (by decide +kernel)) ?_
      refine ab_fin.s1i (i := .lcmp) (k := 1) (pc' := 376) (n := 0) (by decide +kernel) rfl (lg_c0 _) rfl ?_
      refine ab_fin.brT (c := (0 : Int32) = 0) (i := .ifCond .eq 5) (off := 5) (t := 381) (r := []) (by decide +kernel) rfl (by decide +kernel) (by decide +kernel) ?_
      refine ab_fin.s3 (i := .goto 709) (k := 3) (t := 1090) (st' := []) (by decide +kernel) (ab_goto (by decide +kernel)) ?_
      refine ab_fin.lv (lv' := [(4, .int (Int32.ofNat (6 * i))), (3, .ref 3467), (2, .ref 102), (1, .ref 0), (0, .retAddr 9)]) ⟨fun q hq => ?_, (by show ([6, 5, 4, 3, 2, 1, 0] : List Nat).Nodup; decide)⟩ (go _ _ _ _ _ _ W2 q1.1 q2.1)
      simp only [List.mem_cons, List.not_mem_nil, or_false] at hq ⊢
      rcases hq with rfl | rfl | rfl | rfl | rfl <;> simp
set_option maxRecDepth 100000 in
set_option maxHeartbeats 0 in
theorem lw_word {z4 z5 z6 : Value} {xs : Nat → Int32} {L : Nat} {h hc hr : List ab_E} {o : Int64} {fC fR : Nat → Nat} {PC PR : List ab_E → Prop} {Q : ab_RX → List ab_E → Prop} (hL : L ≤ 3072) (hG : ab_pure (hb_Gz (some z4, some z5, some z6) (some (0, L, fun i => .int (xs i))))) {i : Nat} (hi : 6 * i + 6 ≤ L) (W0 : Two h hc hr o fC fR) (k13 : is13 hc) (k24 : is24 hr) {r : Nat ⊕ Int64} (ht : ∀ th, r = .inl th → th = 1) (hC : ab_fin (hb_Gz (some z4, some z5, some z6) (some (0, L, fun i => .int (xs i)))) hb_GT 2044 (mX12_word, []) 0 [(0, .ref 0), (1, .int (xs (6 * i + 1)))] [] hc (AnCL "java/lang/IndexOutOfBoundsException" PC r)) (hR : ab_fin (hb_Gz (some z4, some z5, some z6) (some (0, L, fun i => .int (xs i)))) hb_GT 2045 (mX23_word__, []) 0 [(0, .ref 0), (1, .int (xs (6 * i + 1)))] [] hr (AnRL PR r)) (go : ∀ h' hc' hr' o' fC' fR', Two h' hc' hr' o' fC' fR' → PC hc' → PR hr' → ab_fin (hb_Gz (some z4, some z5, some z6) (some (0, L, fun i => .int (xs i)))) hb_GT 2046 (mL_law, []) 1090 [(4, .int (Int32.ofNat (6 * i))), (3, .ref 3467), (2, .ref 102), (1, .ref 0), (0, .retAddr 9)] [] h' Q) : ab_fin (hb_Gz (some z4, some z5, some z6) (some (0, L, fun i => .int (xs i)))) hb_GT 2046 (mL_law, []) 1035 [(4, .int (Int32.ofNat (6 * i))), (3, .ref 3467), (2, .ref 102), (1, .ref 0), (0, .retAddr 9)] [] h Q := by
  obtain ⟨fs13, k13⟩ := k13
  obtain ⟨fs24, e24⟩ := k24
  have e13 := W0.c0 k13
  rcases r with th | v
  · obtain rfl := ht th rfl
    refine ab_fin.s2 (i := .aload_n 1) (k := 1) (pc' := 1036) (lv' := [(4, .int (Int32.ofNat (6 * i))), (3, .ref 3467), (2, .ref 102), (1, .ref 0), (0, .retAddr 9)]) (st' := [.ref 0]) (by decide +kernel) rfl rfl ?_
    refine ab_fin.s2 (i := .aload_n 0) (k := 1) (pc' := 1037) (lv' := [(4, .int (Int32.ofNat (6 * i))), (3, .ref 3467), (2, .ref 102), (1, .ref 0), (0, .retAddr 9)]) (st' := [.retAddr 9, .ref 0]) (by decide +kernel) rfl rfl ?_
    refine ab_fin.s2 (i := .iload 4) (k := 2) (pc' := 1039) (lv' := [(4, .int (Int32.ofNat (6 * i))), (3, .ref 3467), (2, .ref 102), (1, .ref 0), (0, .retAddr 9)]) (st' := [.int (Int32.ofNat (6 * i)), .retAddr 9, .ref 0]) (by decide +kernel) rfl rfl ?_
    refine ab_fin.s1i (i := .iconst 1) (k := 1) (pc' := 1040) (n := 1) (by decide +kernel) rfl (by decide +kernel) rfl ?_
    refine ab_fin.s1 (i := .iadd) (k := 1) (pc' := 1041) (st' := [.int (Int32.ofNat (6 * i) + 1), .retAddr 9, .ref 0]) (by decide +kernel) rfl rfl ?_
    refine ab_fin.s8 (i := .iaload) (k := 1) (pc' := 1042) (st' := [.int (xs (6 * i + 1)), .ref 0]) (by decide +kernel) (ab_x0 rfl (ix_v (i := i) (j := 1) (L := L) (y := 1) (by omega) hL rfl).1 (congrArg (fun k => Value.int (xs k)) (ix_v (i := i) (j := 1) (L := L) (y := 1) (by omega) hL rfl).2)) rfl rfl rfl ?_
    refine ab_fin.s2 (i := .aload_n 3) (k := 1) (pc' := 1043) (lv' := [(4, .int (Int32.ofNat (6 * i))), (3, .ref 3467), (2, .ref 102), (1, .ref 0), (0, .retAddr 9)]) (st' := [.ref 3467, .int (xs (6 * i + 1)), .ref 0]) (by decide +kernel) rfl rfl ?_
    refine ab_fin.call (i := .invokestatic 130) (k := 3) (y := 13525) (As := [.ref 0, .int (xs (6 * i + 1)), .ref 3467]) (rest := []) (M' := (mL_word, [(0, 8, 11, 13)])) (by decide +kernel) (ab_cs rfl rfl ⟨(Nat.le_of_ble_eq_true rfl), (Nat.le_of_ble_eq_true rfl)⟩ rfl) rfl (Nat.le_of_ble_eq_true rfl) ?_
    show ab_fin _ _ _ _ 0 [(0, .ref 0), (1, .int (xs (6 * i + 1))), (2, .ref 3467)] [] _ _
    refine ab_fin.s2 (i := .aload_n 2) (k := 1) (pc' := 1) (lv' := [(0, .ref 0), (1, .int (xs (6 * i + 1))), (2, .ref 3467)]) (st' := [.ref 3467]) (by decide +kernel) rfl rfl ?_
    refine ab_fin.s1i (i := .iconst 0) (k := 1) (pc' := 2) (n := 0) (by decide +kernel) rfl (by decide +kernel) rfl ?_
    refine ab_fin.s2 (i := .aload_n 0) (k := 1) (pc' := 3) (lv' := [(0, .ref 0), (1, .int (xs (6 * i + 1))), (2, .ref 3467)]) (st' := [.ref 0, .int 0, .ref 3467]) (by decide +kernel) rfl rfl ?_
    refine ab_fin.s2 (i := .iload_n 1) (k := 1) (pc' := 4) (lv' := [(0, .ref 0), (1, .int (xs (6 * i + 1))), (2, .ref 3467)]) (st' := [.int (xs (6 * i + 1)), .ref 0, .int 0, .ref 3467]) (by decide +kernel) rfl rfl ?_
    refine ab_fin.call (i := .invokevirtual 61) (k := 3) (y := 3090) (As := [.ref 0, .int (xs (6 * i + 1))]) (rest := [.int 0, .ref 3467]) (M' := (mX12_word, [])) (by decide +kernel) (ab_cv rfl rfl e13 ⟨(Nat.le_of_ble_eq_true rfl), (Nat.le_of_ble_eq_true rfl)⟩ rfl) rfl (Nat.le_of_ble_eq_true rfl) ?_
    show ab_fin _ _ _ _ 0 [(0, .ref 0), (1, .int (xs (6 * i + 1)))] [] _ _
    refine W0.C hG (fun a => [(0, .ref a), (1, .int (xs (6 * i + 1)))]) (fun g => rfl) hC (fun r0 hc1 fC1 h1 q1 W1 => ?_)
    obtain ⟨x9, e9⟩ := q1.2
    subst e9
    show ab_bk _ _ _ _ _ _ _ _ _ (.inr ("java/lang/IndexOutOfBoundsException", fC1 x9)) _
    refine ab_bk.catch (hp := 11) (by decide +kernel) rfl ?_
    refine ab_fin.s2 (i := .astore_n 3) (k := 1) (pc' := 12) (lv' := [(3, .ref (fC1 x9)), (0, .ref 0), (1, .int (xs (6 * i + 1))), (2, .ref 3467)]) (st' := []) (by decide +kernel) rfl rfl ?_
    refine ab_fin.s1i (i := .iconst 1) (k := 1) (pc' := 13) (n := 1) (by decide +kernel) rfl (by decide +kernel) rfl ?_
    refine ab_fin.ret (i := .ireturn) (k := 1) (some (.int 1)) (by decide +kernel) rfl ?_
    refine ab_bk.back (pc' := 1046) (st' := [.int 1]) rfl rfl ?_
    refine ab_fin.s2 (i := .istore 5) (k := 2) (pc' := 1048) (lv' := [(5, .int 1), (4, .int (Int32.ofNat (6 * i))), (3, .ref 3467), (2, .ref 102), (1, .ref 0), (0, .retAddr 9)]) (st' := []) (by decide +kernel) rfl rfl ?_
    refine ab_fin.s2 (i := .aload_n 2) (k := 1) (pc' := 1049) (lv' := [(5, .int 1), (4, .int (Int32.ofNat (6 * i))), (3, .ref 3467), (2, .ref 102), (1, .ref 0), (0, .retAddr 9)]) (st' := [.ref 102]) (by decide +kernel) rfl rfl ?_
    refine ab_fin.s2 (i := .aload_n 0) (k := 1) (pc' := 1050) (lv' := [(5, .int 1), (4, .int (Int32.ofNat (6 * i))), (3, .ref 3467), (2, .ref 102), (1, .ref 0), (0, .retAddr 9)]) (st' := [.retAddr 9, .ref 102]) (by decide +kernel) rfl rfl ?_
    refine ab_fin.s2 (i := .iload 4) (k := 2) (pc' := 1052) (lv' := [(5, .int 1), (4, .int (Int32.ofNat (6 * i))), (3, .ref 3467), (2, .ref 102), (1, .ref 0), (0, .retAddr 9)]) (st' := [.int (Int32.ofNat (6 * i)), .retAddr 9, .ref 102]) (by decide +kernel) rfl rfl ?_
    refine ab_fin.s1i (i := .iconst 1) (k := 1) (pc' := 1053) (n := 1) (by decide +kernel) rfl (by decide +kernel) rfl ?_
    refine ab_fin.s1 (i := .iadd) (k := 1) (pc' := 1054) (st' := [.int (Int32.ofNat (6 * i) + 1), .retAddr 9, .ref 102]) (by decide +kernel) rfl rfl ?_
    refine ab_fin.s8 (i := .iaload) (k := 1) (pc' := 1055) (st' := [.int (xs (6 * i + 1)), .ref 102]) (by decide +kernel) (ab_x0 rfl (ix_v (i := i) (j := 1) (L := L) (y := 1) (by omega) hL rfl).1 (congrArg (fun k => Value.int (xs k)) (ix_v (i := i) (j := 1) (L := L) (y := 1) (by omega) hL rfl).2)) rfl rfl rfl ?_
    refine ab_fin.call (i := .invokevirtual 132) (k := 3) (y := 6010) (As := [.ref 102, .int (xs (6 * i + 1))]) (rest := []) (M' := (mX23_word__, [])) (by decide +kernel) (ab_cv rfl rfl (W1.r0 e24) ⟨(Nat.le_of_ble_eq_true rfl), (Nat.le_of_ble_eq_true rfl)⟩ rfl) rfl (Nat.le_of_ble_eq_true rfl) ?_
    show ab_fin _ _ _ _ 0 [(0, .ref 102), (1, .int (xs (6 * i + 1)))] [] _ _
    refine W1.R hG (fun a => [(0, .ref a), (1, .int (xs (6 * i + 1)))]) (fun g => rfl) hR (fun r0 hr1 fR1 h2 q2 W2 => ?_)
    obtain rfl : r0 = .inl (some (.long 0)) := q2.2.1
    show ab_bk _ _ _ _ _ _ _ _ _ (.inl (some (.long 0))) _
    refine ab_bk.back (pc' := 1058) (st' := [.long 0]) rfl rfl ?_
    obtain ⟨fs, t1, t2⟩ := thrR.at W2 q2.2.2
    refine ab_fin.s2 (i := .lstore 6) (k := 2) (pc' := 1060) (lv' := [(6, .long 0), (5, .int 1), (4, .int (Int32.ofNat (6 * i))), (3, .ref 3467), (2, .ref 102), (1, .ref 0), (0, .retAddr 9)]) (st' := []) (by decide +kernel) rfl rfl ?_
    refine ab_fin.s2 (i := .aload_n 2) (k := 1) (pc' := 1061) (lv' := [(6, .long 0), (5, .int 1), (4, .int (Int32.ofNat (6 * i))), (3, .ref 3467), (2, .ref 102), (1, .ref 0), (0, .retAddr 9)]) (st' := [.ref 102]) (by decide +kernel) rfl rfl ?_
    refine ab_fin.call (i := .invokevirtual 75) (k := 3) (y := 5992) (As := [.ref 102]) (rest := []) (M' := (mX23_thrown, [])) (by decide +kernel) (ab_cv rfl rfl t1 ⟨(Nat.le_of_ble_eq_true rfl), (Nat.le_of_ble_eq_true rfl)⟩ rfl) rfl (Nat.le_of_ble_eq_true rfl) ?_
    show ab_fin _ _ _ _ 0 [(0, .ref 102)] [] _ _
    refine ab_fin.s2 (i := .aload_n 0) (k := 1) (pc' := 1) (lv' := [(0, .ref 102)]) (st' := [.ref 102]) (by decide +kernel) rfl rfl ?_
    refine ab_fin.getf (ix := 1000) (k := 110) (v := .int 1) (pc' := 4) (by decide +kernel) rfl t1 t2 rfl ?_
    refine ab_fin.ret (i := .ireturn) (k := 1) (some (.int 1)) (by decide +kernel) rfl ?_
    refine ab_bk.back (pc' := 1064) (st' := [.int 1]) rfl rfl ?_
    refine ab_fin.s2 (i := .iload 5) (k := 2) (pc' := 1066) (lv' := [(6, .long 0), (5, .int 1), (4, .int (Int32.ofNat (6 * i))), (3, .ref 3467), (2, .ref 102), (1, .ref 0), (0, .retAddr 9)]) (st' := [.int 1, .int 1]) (by decide +kernel) rfl rfl ?_
    refine ab_fin.brT (c := (1 : Int32) = (1 : Int32)) (i := .if_icmp .eq 5) (off := 5) (t := 1071) (r := []) (by decide +kernel) rfl (by decide +kernel) rfl ?_
    refine ab_fin.s2 (i := .iload 5) (k := 2) (pc' := 1073) (lv' := [(6, .long 0), (5, .int 1), (4, .int (Int32.ofNat (6 * i))), (3, .ref 3467), (2, .ref 102), (1, .ref 0), (0, .retAddr 9)]) (st' := [.int 1]) (by decide +kernel) rfl rfl ?_
    refine ab_fin.brT (c := ¬ (1 : Int32) = 0) (i := .ifCond .ne 14) (off := 14) (t := 1087) (r := []) (by decide +kernel) rfl (by decide +kernel) (by decide +kernel) ?_
    refine ab_fin.s3 (i := .goto 3) (k := 3) (t := 1090) (st' := []) (by decide +kernel) (ab_goto (by decide +kernel)) ?_
    refine ab_fin.lv (lv' := [(4, .int (Int32.ofNat (6 * i))), (3, .ref 3467), (2, .ref 102), (1, .ref 0), (0, .retAddr 9)]) ⟨fun q hq => ?_, (by show ([6, 5, 4, 3, 2, 1, 0] : List Nat).Nodup; decide)⟩ (go _ _ _ _ _ _ W2 q1.1 q2.1)
    simp only [List.mem_cons, List.not_mem_nil, or_false] at hq ⊢
    rcases hq with rfl | rfl | rfl | rfl | rfl <;> simp
  · refine ab_fin.s2 (i := .aload_n 1) (k := 1) (pc' := 1036) (lv' := [(4, .int (Int32.ofNat (6 * i))), (3, .ref 3467), (2, .ref 102), (1, .ref 0), (0, .retAddr 9)]) (st' := [.ref 0]) (by decide +kernel) rfl rfl ?_
    refine ab_fin.s2 (i := .aload_n 0) (k := 1) (pc' := 1037) (lv' := [(4, .int (Int32.ofNat (6 * i))), (3, .ref 3467), (2, .ref 102), (1, .ref 0), (0, .retAddr 9)]) (st' := [.retAddr 9, .ref 0]) (by decide +kernel) rfl rfl ?_
    refine ab_fin.s2 (i := .iload 4) (k := 2) (pc' := 1039) (lv' := [(4, .int (Int32.ofNat (6 * i))), (3, .ref 3467), (2, .ref 102), (1, .ref 0), (0, .retAddr 9)]) (st' := [.int (Int32.ofNat (6 * i)), .retAddr 9, .ref 0]) (by decide +kernel) rfl rfl ?_
    refine ab_fin.s1i (i := .iconst 1) (k := 1) (pc' := 1040) (n := 1) (by decide +kernel) rfl (by decide +kernel) rfl ?_
    refine ab_fin.s1 (i := .iadd) (k := 1) (pc' := 1041) (st' := [.int (Int32.ofNat (6 * i) + 1), .retAddr 9, .ref 0]) (by decide +kernel) rfl rfl ?_
    refine ab_fin.s8 (i := .iaload) (k := 1) (pc' := 1042) (st' := [.int (xs (6 * i + 1)), .ref 0]) (by decide +kernel) (ab_x0 rfl (ix_v (i := i) (j := 1) (L := L) (y := 1) (by omega) hL rfl).1 (congrArg (fun k => Value.int (xs k)) (ix_v (i := i) (j := 1) (L := L) (y := 1) (by omega) hL rfl).2)) rfl rfl rfl ?_
    refine ab_fin.s2 (i := .aload_n 3) (k := 1) (pc' := 1043) (lv' := [(4, .int (Int32.ofNat (6 * i))), (3, .ref 3467), (2, .ref 102), (1, .ref 0), (0, .retAddr 9)]) (st' := [.ref 3467, .int (xs (6 * i + 1)), .ref 0]) (by decide +kernel) rfl rfl ?_
    refine ab_fin.call (i := .invokestatic 130) (k := 3) (y := 13525) (As := [.ref 0, .int (xs (6 * i + 1)), .ref 3467]) (rest := []) (M' := (mL_word, [(0, 8, 11, 13)])) (by decide +kernel) (ab_cs rfl rfl ⟨(Nat.le_of_ble_eq_true rfl), (Nat.le_of_ble_eq_true rfl)⟩ rfl) rfl (Nat.le_of_ble_eq_true rfl) ?_
    show ab_fin _ _ _ _ 0 [(0, .ref 0), (1, .int (xs (6 * i + 1))), (2, .ref 3467)] [] _ _
    refine ab_fin.s2 (i := .aload_n 2) (k := 1) (pc' := 1) (lv' := [(0, .ref 0), (1, .int (xs (6 * i + 1))), (2, .ref 3467)]) (st' := [.ref 3467]) (by decide +kernel) rfl rfl ?_
    refine ab_fin.s1i (i := .iconst 0) (k := 1) (pc' := 2) (n := 0) (by decide +kernel) rfl (by decide +kernel) rfl ?_
    refine ab_fin.s2 (i := .aload_n 0) (k := 1) (pc' := 3) (lv' := [(0, .ref 0), (1, .int (xs (6 * i + 1))), (2, .ref 3467)]) (st' := [.ref 0, .int 0, .ref 3467]) (by decide +kernel) rfl rfl ?_
    refine ab_fin.s2 (i := .iload_n 1) (k := 1) (pc' := 4) (lv' := [(0, .ref 0), (1, .int (xs (6 * i + 1))), (2, .ref 3467)]) (st' := [.int (xs (6 * i + 1)), .ref 0, .int 0, .ref 3467]) (by decide +kernel) rfl rfl ?_
    refine ab_fin.call (i := .invokevirtual 61) (k := 3) (y := 3090) (As := [.ref 0, .int (xs (6 * i + 1))]) (rest := [.int 0, .ref 3467]) (M' := (mX12_word, [])) (by decide +kernel) (ab_cv rfl rfl e13 ⟨(Nat.le_of_ble_eq_true rfl), (Nat.le_of_ble_eq_true rfl)⟩ rfl) rfl (Nat.le_of_ble_eq_true rfl) ?_
    show ab_fin _ _ _ _ 0 [(0, .ref 0), (1, .int (xs (6 * i + 1)))] [] _ _
    refine W0.C hG (fun a => [(0, .ref a), (1, .int (xs (6 * i + 1)))]) (fun g => rfl) hC (fun r0 hc1 fC1 h1 q1 W1 => ?_)
    obtain rfl : r0 = .inl (some (.long v)) := q1.2
    show ab_bk _ _ _ _ _ _ _ _ _ (.inl (some (.long v))) _
    refine ab_bk.back (pc' := 7) (st' := [.long v, .int 0, .ref 3467]) rfl rfl ?_
    refine ab_fin.last (l := [o]) (h1 := h1.set 3467 (.inr (.inl (1, .inr (.inl [v]))))) (pc' := 8) (by decide +kernel) W1.2.2.2.2.1 (hi0 _) rfl rfl ?_
    have W1x := W1.out (v)
    refine ab_fin.s3 (i := .goto 6) (k := 3) (t := 14) (st' := []) (by decide +kernel) (ab_goto (by decide +kernel)) ?_
    refine ab_fin.s1i (i := .iconst 0) (k := 1) (pc' := 15) (n := 0) (by decide +kernel) rfl (by decide +kernel) rfl ?_
    refine ab_fin.ret (i := .ireturn) (k := 1) (some (.int 0)) (by decide +kernel) rfl ?_
    refine ab_bk.back (pc' := 1046) (st' := [.int 0]) rfl rfl ?_
    refine ab_fin.s2 (i := .istore 5) (k := 2) (pc' := 1048) (lv' := [(5, .int 0), (4, .int (Int32.ofNat (6 * i))), (3, .ref 3467), (2, .ref 102), (1, .ref 0), (0, .retAddr 9)]) (st' := []) (by decide +kernel) rfl rfl ?_
    refine ab_fin.s2 (i := .aload_n 2) (k := 1) (pc' := 1049) (lv' := [(5, .int 0), (4, .int (Int32.ofNat (6 * i))), (3, .ref 3467), (2, .ref 102), (1, .ref 0), (0, .retAddr 9)]) (st' := [.ref 102]) (by decide +kernel) rfl rfl ?_
    refine ab_fin.s2 (i := .aload_n 0) (k := 1) (pc' := 1050) (lv' := [(5, .int 0), (4, .int (Int32.ofNat (6 * i))), (3, .ref 3467), (2, .ref 102), (1, .ref 0), (0, .retAddr 9)]) (st' := [.retAddr 9, .ref 102]) (by decide +kernel) rfl rfl ?_
    refine ab_fin.s2 (i := .iload 4) (k := 2) (pc' := 1052) (lv' := [(5, .int 0), (4, .int (Int32.ofNat (6 * i))), (3, .ref 3467), (2, .ref 102), (1, .ref 0), (0, .retAddr 9)]) (st' := [.int (Int32.ofNat (6 * i)), .retAddr 9, .ref 102]) (by decide +kernel) rfl rfl ?_
    refine ab_fin.s1i (i := .iconst 1) (k := 1) (pc' := 1053) (n := 1) (by decide +kernel) rfl (by decide +kernel) rfl ?_
    refine ab_fin.s1 (i := .iadd) (k := 1) (pc' := 1054) (st' := [.int (Int32.ofNat (6 * i) + 1), .retAddr 9, .ref 102]) (by decide +kernel) rfl rfl ?_
    refine ab_fin.s8 (i := .iaload) (k := 1) (pc' := 1055) (st' := [.int (xs (6 * i + 1)), .ref 102]) (by decide +kernel) (ab_x0 rfl (ix_v (i := i) (j := 1) (L := L) (y := 1) (by omega) hL rfl).1 (congrArg (fun k => Value.int (xs k)) (ix_v (i := i) (j := 1) (L := L) (y := 1) (by omega) hL rfl).2)) rfl rfl rfl ?_
    refine ab_fin.call (i := .invokevirtual 132) (k := 3) (y := 6010) (As := [.ref 102, .int (xs (6 * i + 1))]) (rest := []) (M' := (mX23_word__, [])) (by decide +kernel) (ab_cv rfl rfl (W1x.r0 e24) ⟨(Nat.le_of_ble_eq_true rfl), (Nat.le_of_ble_eq_true rfl)⟩ rfl) rfl (Nat.le_of_ble_eq_true rfl) ?_
    show ab_fin _ _ _ _ 0 [(0, .ref 102), (1, .int (xs (6 * i + 1)))] [] _ _
    refine W1x.R hG (fun a => [(0, .ref a), (1, .int (xs (6 * i + 1)))]) (fun g => rfl) hR (fun r0 hr1 fR1 h2 q2 W2 => ?_)
    obtain rfl : r0 = .inl (some (.long v)) := q2.2.1
    show ab_bk _ _ _ _ _ _ _ _ _ (.inl (some (.long v))) _
    refine ab_bk.back (pc' := 1058) (st' := [.long v]) rfl rfl ?_
    obtain ⟨fs, t1, t2⟩ := thrR.at W2 q2.2.2
    refine ab_fin.s2 (i := .lstore 6) (k := 2) (pc' := 1060) (lv' := [(6, .long v), (5, .int 0), (4, .int (Int32.ofNat (6 * i))), (3, .ref 3467), (2, .ref 102), (1, .ref 0), (0, .retAddr 9)]) (st' := []) (by decide +kernel) rfl rfl ?_
    refine ab_fin.s2 (i := .aload_n 2) (k := 1) (pc' := 1061) (lv' := [(6, .long v), (5, .int 0), (4, .int (Int32.ofNat (6 * i))), (3, .ref 3467), (2, .ref 102), (1, .ref 0), (0, .retAddr 9)]) (st' := [.ref 102]) (by decide +kernel) rfl rfl ?_
    refine ab_fin.call (i := .invokevirtual 75) (k := 3) (y := 5992) (As := [.ref 102]) (rest := []) (M' := (mX23_thrown, [])) (by decide +kernel) (ab_cv rfl rfl t1 ⟨(Nat.le_of_ble_eq_true rfl), (Nat.le_of_ble_eq_true rfl)⟩ rfl) rfl (Nat.le_of_ble_eq_true rfl) ?_
    show ab_fin _ _ _ _ 0 [(0, .ref 102)] [] _ _
    refine ab_fin.s2 (i := .aload_n 0) (k := 1) (pc' := 1) (lv' := [(0, .ref 102)]) (st' := [.ref 102]) (by decide +kernel) rfl rfl ?_
    refine ab_fin.getf (ix := 1000) (k := 110) (v := .int 0) (pc' := 4) (by decide +kernel) rfl t1 t2 rfl ?_
    refine ab_fin.ret (i := .ireturn) (k := 1) (some (.int 0)) (by decide +kernel) rfl ?_
    refine ab_bk.back (pc' := 1064) (st' := [.int 0]) rfl rfl ?_
    refine ab_fin.s2 (i := .iload 5) (k := 2) (pc' := 1066) (lv' := [(6, .long v), (5, .int 0), (4, .int (Int32.ofNat (6 * i))), (3, .ref 3467), (2, .ref 102), (1, .ref 0), (0, .retAddr 9)]) (st' := [.int 0, .int 0]) (by decide +kernel) rfl rfl ?_
    refine ab_fin.brT (c := (0 : Int32) = (0 : Int32)) (i := .if_icmp .eq 5) (off := 5) (t := 1071) (r := []) (by decide +kernel) rfl (by decide +kernel) rfl ?_
    refine ab_fin.s2 (i := .iload 5) (k := 2) (pc' := 1073) (lv' := [(6, .long v), (5, .int 0), (4, .int (Int32.ofNat (6 * i))), (3, .ref 3467), (2, .ref 102), (1, .ref 0), (0, .retAddr 9)]) (st' := [.int 0]) (by decide +kernel) rfl rfl ?_
    refine ab_fin.brF (c := ¬ (0 : Int32) = 0) (i := .ifCond .ne 14) (off := 14) (t := 1087) (pc' := 1076) (r := []) (by decide +kernel) rfl (by decide +kernel) rfl (by decide +kernel) ?_
    refine ab_fin.s2 (i := .aload_n 3) (k := 1) (pc' := 1077) (lv' := [(6, .long v), (5, .int 0), (4, .int (Int32.ofNat (6 * i))), (3, .ref 3467), (2, .ref 102), (1, .ref 0), (0, .retAddr 9)]) (st' := [.ref 3467]) (by decide +kernel) rfl rfl ?_
    refine ab_fin.s1i (i := .iconst 0) (k := 1) (pc' := 1078) (n := 0) (by decide +kernel) rfl (by decide +kernel) rfl ?_
    refine ab_fin.lald (l := [v]) (v := v) (pc' := 1079) (by decide +kernel) W2.2.2.2.2.1 (hi0 _) rfl rfl ?_
    refine ab_fin.s2 (i := .lload 6) (k := 2) (pc' := 1081) (lv' := [(6, .long v), (5, .int 0), (4, .int (Int32.ofNat (6 * i))), (3, .ref 3467), (2, .ref 102), (1, .ref 0), (0, .retAddr 9)]) (st' := [.long v, .long v]) (by decide +kernel) rfl rfl ?_
    refine ab_fin.s1i (i := .lcmp) (k := 1) (pc' := 1082) (n := 0) (by decide +kernel) rfl (lg_c0 _) rfl ?_
    refine ab_fin.brT (c := (0 : Int32) = 0) (i := .ifCond .eq 5) (off := 5) (t := 1087) (r := []) (by decide +kernel) rfl (by decide +kernel) (by decide +kernel) ?_
    refine ab_fin.s3 (i := .goto 3) (k := 3) (t := 1090) (st' := []) (by decide +kernel) (ab_goto (by decide +kernel)) ?_
    refine ab_fin.lv (lv' := [(4, .int (Int32.ofNat (6 * i))), (3, .ref 3467), (2, .ref 102), (1, .ref 0), (0, .retAddr 9)]) ⟨fun q hq => ?_, (by show ([6, 5, 4, 3, 2, 1, 0] : List Nat).Nodup; decide)⟩ (go _ _ _ _ _ _ W2 q1.1 q2.1)
    simp only [List.mem_cons, List.not_mem_nil, or_false] at hq ⊢
    rcases hq with rfl | rfl | rfl | rfl | rfl <;> simp

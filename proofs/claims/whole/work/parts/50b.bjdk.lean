/-! REFERENCE: pieces of the library (printed by sgen.py) -/
theorem S_J6_compare_7cf53_0 {Z : zT} {d : Nat} {σ : Sg} {l0 : Int32} {l1 : Int32} {K : kS} (F : FX ΦR σ.sh σ.r) (w : (l1 ≤ l0 → (¬ l0 = l1 → K (.inl (some (.int 1))) σ) ∧ (l0 = l1 → K (.inl (some (.int 0))) σ)) ∧ (¬ l1 ≤ l0 → K (.inl (some (.int (-1)))) σ)) : B_J6_compare_7cf53_0 Z (d + 1) σ l0 l1 K := by
  unfold B_J6_compare_7cf53_0
  refine ab_fin.s2 (i := .iload_n 0) (k := 1) (pc' := 1) (lv' := [(0, .int l0), (1, .int l1)]) (st' := [.int l0]) (by decide +kernel) rfl rfl ?_
  refine ab_fin.s2 (i := .iload_n 1) (k := 1) (pc' := 2) (lv' := [(0, .int l0), (1, .int l1)]) (st' := [.int l1, .int l0]) (by decide +kernel) rfl rfl ?_
  refine ab_fin.br (c := l1 ≤ l0) (i := .if_icmp .ge 7) (off := 7) (t := 9) (pc' := 5) (r := []) (by decide +kernel) rfl (by decide +kernel) rfl (fun q => ?_) (fun q => ?_)
  · replace w := w.1 q
    refine ab_fin.s2 (i := .iload_n 0) (k := 1) (pc' := 10) (lv' := [(0, .int l0), (1, .int l1)]) (st' := [.int l0]) (by decide +kernel) rfl rfl ?_
    refine ab_fin.s2 (i := .iload_n 1) (k := 1) (pc' := 11) (lv' := [(0, .int l0), (1, .int l1)]) (st' := [.int l1, .int l0]) (by decide +kernel) rfl rfl ?_
    refine ab_fin.br (c := ¬ l0 = l1) (i := .if_icmp .ne 7) (off := 7) (t := 18) (pc' := 14) (r := []) (by decide +kernel) rfl (by decide +kernel) rfl (fun q => ?_) (fun q => ?_)
    · replace w := w.1 q
      refine ab_fin.s1i (i := .iconst 1) (k := 1) (pc' := 19) (n := 1) (by decide +kernel) rfl (by decide +kernel) rfl ?_
      exact ab_fin.q_ret (i := .ireturn) (k := 1) (v := some (.int 1)) (by decide +kernel) rfl F w
    · replace w := w.2 (Decidable.of_not_not q)
      refine ab_fin.s1i (i := .iconst 0) (k := 1) (pc' := 15) (n := 0) (by decide +kernel) rfl (by decide +kernel) rfl ?_
      refine ab_fin.s3 (i := .goto 4) (k := 3) (t := 19) (st' := [.int 0]) (by decide +kernel) (ab_gto (by decide +kernel)) ?_
      exact ab_fin.q_ret (i := .ireturn) (k := 1) (v := some (.int 0)) (by decide +kernel) rfl F w
  · replace w := w.2 q
    refine ab_fin.s1i (i := .iconst (-1)) (k := 1) (pc' := 6) (n := (-1)) (by decide +kernel) rfl (by decide +kernel) rfl ?_
    refine ab_fin.s3 (i := .goto 13) (k := 3) (t := 19) (st' := [.int (-1)]) (by decide +kernel) (ab_gto (by decide +kernel)) ?_
    exact ab_fin.q_ret (i := .ireturn) (k := 1) (v := some (.int (-1))) (by decide +kernel) rfl F w
theorem S_J13_signum_95d88_0 {Z : zT} {d : Nat} {σ : Sg} {l0 : Int64} {K : kS} (F : FX ΦR σ.sh σ.r) (w : K (.inl (some (.int ((Int64.toInt32 ((l0 >>> (Int32.toInt64 (63 : Int32) &&& 63)) ||| ((Int64.toUInt64 ((-l0)) >>> ((Int32.toInt64 (63 : Int32)).toUInt64 &&& Int64.toUInt64 63)).toInt64))))))) σ) : B_J13_signum_95d88_0 Z (d + 1) σ l0 K := by
  unfold B_J13_signum_95d88_0
  refine ab_fin.s2 (i := .lload_n 0) (k := 1) (pc' := 1) (lv' := [(0, .long l0)]) (st' := [.long l0]) (by decide +kernel) rfl rfl ?_
  refine ab_fin.s1i (i := .bipush 63) (k := 2) (pc' := 3) (n := 63) (by decide +kernel) rfl (by decide +kernel) rfl ?_
  refine ab_fin.s1 (i := .lshr) (k := 1) (pc' := 4) (st' := [.long (l0 >>> (Int32.toInt64 (63 : Int32) &&& 63))]) (by decide +kernel) rfl rfl ?_
  refine ab_fin.s2 (i := .lload_n 0) (k := 1) (pc' := 5) (lv' := [(0, .long l0)]) (st' := [.long l0, .long (l0 >>> (Int32.toInt64 (63 : Int32) &&& 63))]) (by decide +kernel) rfl rfl ?_
  refine ab_fin.s1 (i := .lneg) (k := 1) (pc' := 6) (st' := [.long ((-l0)), .long (l0 >>> (Int32.toInt64 (63 : Int32) &&& 63))]) (by decide +kernel) rfl rfl ?_
  refine ab_fin.s1i (i := .bipush 63) (k := 2) (pc' := 8) (n := 63) (by decide +kernel) rfl (by decide +kernel) rfl ?_
  refine ab_fin.s1 (i := .lushr) (k := 1) (pc' := 9) (st' := [.long ((Int64.toUInt64 ((-l0)) >>> ((Int32.toInt64 (63 : Int32)).toUInt64 &&& Int64.toUInt64 63)).toInt64), .long (l0 >>> (Int32.toInt64 (63 : Int32) &&& 63))]) (by decide +kernel) rfl rfl ?_
  refine ab_fin.s1 (i := .lor) (k := 1) (pc' := 10) (st' := [.long ((l0 >>> (Int32.toInt64 (63 : Int32) &&& 63)) ||| ((Int64.toUInt64 ((-l0)) >>> ((Int32.toInt64 (63 : Int32)).toUInt64 &&& Int64.toUInt64 63)).toInt64))]) (by decide +kernel) rfl rfl ?_
  refine ab_fin.s1 (i := .l2i) (k := 1) (pc' := 11) (st' := [.int ((Int64.toInt32 ((l0 >>> (Int32.toInt64 (63 : Int32) &&& 63)) ||| ((Int64.toUInt64 ((-l0)) >>> ((Int32.toInt64 (63 : Int32)).toUInt64 &&& Int64.toUInt64 63)).toInt64))))]) (by decide +kernel) rfl rfl ?_
  exact ab_fin.q_ret (i := .ireturn) (k := 1) (v := some (.int ((Int64.toInt32 ((l0 >>> (Int32.toInt64 (63 : Int32) &&& 63)) ||| ((Int64.toUInt64 ((-l0)) >>> ((Int32.toInt64 (63 : Int32)).toUInt64 &&& Int64.toUInt64 63)).toInt64)))))) (by decide +kernel) rfl F w

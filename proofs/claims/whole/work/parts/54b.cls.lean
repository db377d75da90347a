/-! THE CLASS, PIECE BY PIECE (printed by sgen.py), 2 -/
theorem T_X1_emit_0 {Z : zT} {d : Nat} {σ : Sg} {l1 : Int32} {l2 : Int32} {K : kS} (F : FX ΦC σ.sh σ.r) (w : ((σ.i 24 4) ≤ (σ.i 24 3) → K (.inl none) σ) ∧ (¬ (σ.i 24 4) ≤ (σ.i 24 3) → ∃ b1, (σ.r 24 0) = Rf.ptr b1 ∧ (∃ n4, σ.sh[b1]? = some (Sh.arr 0 n4) ∧ (ib (σ.i 24 3) n4 ∧ (∃ b6, (σ.r 24 1) = Rf.ptr b6 ∧ (∃ n9, σ.sh[b6]? = some (Sh.arr 0 n9) ∧ (ib ((σ.wi b1 ((σ.i 24 3).toNatClampNeg) l1).i 24 3) n9 ∧ (∃ b11, (σ.r 24 2) = Rf.ptr b11 ∧ (∃ n14, σ.sh[b11]? = some (Sh.arr 0 n14) ∧ (ib ((((σ.wi b1 ((σ.i 24 3).toNatClampNeg) l1).wi b6 (((σ.wi b1 ((σ.i 24 3).toNatClampNeg) l1).i 24 3).toNatClampNeg) l2).i 24 3) + (1 : Int32)) n14 ∧ (K (.inl none) ((((σ.wi b1 ((σ.i 24 3).toNatClampNeg) l1).wi b6 (((σ.wi b1 ((σ.i 24 3).toNatClampNeg) l1).i 24 3).toNatClampNeg) l2).wi 24 3 ((((σ.wi b1 ((σ.i 24 3).toNatClampNeg) l1).wi b6 (((σ.wi b1 ((σ.i 24 3).toNatClampNeg) l1).i 24 3).toNatClampNeg) l2).i 24 3) + (1 : Int32))).wi b11 (((((σ.wi b1 ((σ.i 24 3).toNatClampNeg) l1).wi b6 (((σ.wi b1 ((σ.i 24 3).toNatClampNeg) l1).i 24 3).toNatClampNeg) l2).i 24 3) + (1 : Int32)).toNatClampNeg) (0 : Int32))))))))))))) : C_X1_emit_0 Z (d + 1) σ l1 l2 K := by
  unfold C_X1_emit_0
  refine ab_fin.s2 (i := .aload_n 0) (k := 1) (pc' := 1) (lv' := [(0, .ref 24), (1, .int l1), (2, .int l2)]) (st' := [.ref 24]) (by decide +kernel) rfl rfl ?_
  refine ab_fin.q_rI (x := (σ.i 24 3)) (ix := 21) (ci := 2) (k := 3) (pc' := 4) (by decide +kernel) rfl (c_rI (F.s t0_24) rfl) rfl ?_
  refine ab_fin.s2 (i := .aload_n 0) (k := 1) (pc' := 5) (lv' := [(0, .ref 24), (1, .int l1), (2, .int l2)]) (st' := [.ref 24, .int (σ.i 24 3)]) (by decide +kernel) rfl rfl ?_
  refine ab_fin.q_rI (x := (σ.i 24 4)) (ix := 25) (ci := 2) (k := 4) (pc' := 8) (by decide +kernel) rfl (c_rI (F.s t0_24) rfl) rfl ?_
  refine ab_fin.br (c := (σ.i 24 4) ≤ (σ.i 24 3)) (i := .if_icmp .ge 43) (off := 43) (t := 51) (pc' := 11) (r := []) (by decide +kernel) rfl (by decide +kernel) rfl (fun q => ?_) (fun q => ?_)
  · replace w := w.1 q
    exact ab_fin.q_ret (i := .return_) (k := 1) (v := none) (by decide +kernel) rfl F w
  · replace w := w.2 q
    refine ab_fin.s2 (i := .aload_n 0) (k := 1) (pc' := 12) (lv' := [(0, .ref 24), (1, .int l1), (2, .int l2)]) (st' := [.ref 24]) (by decide +kernel) rfl rfl ?_
    obtain ⟨b1, e2, w⟩ := w
    refine ab_fin.q_rA (b := b1) (ix := 11) (ci := 2) (k := 0) (pc' := 15) (by decide +kernel) rfl (c_rA (F.s t0_24) rfl e2) rfl ?_
    refine ab_fin.s2 (i := .aload_n 0) (k := 1) (pc' := 16) (lv' := [(0, .ref 24), (1, .int l1), (2, .int l2)]) (st' := [.ref 24, .ref b1]) (by decide +kernel) rfl rfl ?_
    refine ab_fin.q_rI (x := (σ.i 24 3)) (ix := 21) (ci := 2) (k := 3) (pc' := 19) (by decide +kernel) rfl (c_rI (F.s t0_24) rfl) rfl ?_
    refine ab_fin.s2 (i := .iload_n 1) (k := 1) (pc' := 20) (lv' := [(0, .ref 24), (1, .int l1), (2, .int l2)]) (st' := [.int l1, .int (σ.i 24 3), .ref b1]) (by decide +kernel) rfl rfl ?_
    obtain ⟨n4, e3, w⟩ := w
    obtain ⟨e5, w⟩ := w
    refine ab_fin.q_sI (h1 := conc (σ.wi b1 ((σ.i 24 3).toNatClampNeg) l1)) (pc' := 21) (by decide +kernel) (c_sI' e3 e5 rfl) rfl ?_
    refine ab_fin.s2 (i := .aload_n 0) (k := 1) (pc' := 22) (lv' := [(0, .ref 24), (1, .int l1), (2, .int l2)]) (st' := [.ref 24]) (by decide +kernel) rfl rfl ?_
    obtain ⟨b6, e7, w⟩ := w
    refine ab_fin.q_rA (b := b6) (ix := 15) (ci := 2) (k := 1) (pc' := 25) (by decide +kernel) rfl (c_rA (F.s t0_24) rfl e7) rfl ?_
    refine ab_fin.s2 (i := .aload_n 0) (k := 1) (pc' := 26) (lv' := [(0, .ref 24), (1, .int l1), (2, .int l2)]) (st' := [.ref 24, .ref b6]) (by decide +kernel) rfl rfl ?_
    refine ab_fin.q_rI (x := ((σ.wi b1 ((σ.i 24 3).toNatClampNeg) l1).i 24 3)) (ix := 21) (ci := 2) (k := 3) (pc' := 29) (by decide +kernel) rfl (c_rI (F.s t0_24) rfl) rfl ?_
    refine ab_fin.s2 (i := .iload_n 2) (k := 1) (pc' := 30) (lv' := [(0, .ref 24), (1, .int l1), (2, .int l2)]) (st' := [.int l2, .int ((σ.wi b1 ((σ.i 24 3).toNatClampNeg) l1).i 24 3), .ref b6]) (by decide +kernel) rfl rfl ?_
    obtain ⟨n9, e8, w⟩ := w
    obtain ⟨e10, w⟩ := w
    refine ab_fin.q_sI (h1 := conc ((σ.wi b1 ((σ.i 24 3).toNatClampNeg) l1).wi b6 (((σ.wi b1 ((σ.i 24 3).toNatClampNeg) l1).i 24 3).toNatClampNeg) l2)) (pc' := 31) (by decide +kernel) (c_sI' e8 e10 rfl) rfl ?_
    refine ab_fin.s2 (i := .aload_n 0) (k := 1) (pc' := 32) (lv' := [(0, .ref 24), (1, .int l1), (2, .int l2)]) (st' := [.ref 24]) (by decide +kernel) rfl rfl ?_
    refine ab_fin.s1 (i := .dup) (k := 1) (pc' := 33) (st' := [.ref 24, .ref 24]) (by decide +kernel) rfl rfl ?_
    refine ab_fin.q_rI (x := (((σ.wi b1 ((σ.i 24 3).toNatClampNeg) l1).wi b6 (((σ.wi b1 ((σ.i 24 3).toNatClampNeg) l1).i 24 3).toNatClampNeg) l2).i 24 3)) (ix := 21) (ci := 2) (k := 3) (pc' := 36) (by decide +kernel) rfl (c_rI (F.s t0_24) rfl) rfl ?_
    refine ab_fin.s1i (i := .iconst 1) (k := 1) (pc' := 37) (n := 1) (by decide +kernel) rfl (by decide +kernel) rfl ?_
    refine ab_fin.s1 (i := .iadd) (k := 1) (pc' := 38) (st' := [.int ((((σ.wi b1 ((σ.i 24 3).toNatClampNeg) l1).wi b6 (((σ.wi b1 ((σ.i 24 3).toNatClampNeg) l1).i 24 3).toNatClampNeg) l2).i 24 3) + (1 : Int32)), .ref 24]) (by decide +kernel) rfl rfl ?_
    refine ab_fin.q_pF (ix := 21) (ci := 2) (k := 3) (h1 := conc (((σ.wi b1 ((σ.i 24 3).toNatClampNeg) l1).wi b6 (((σ.wi b1 ((σ.i 24 3).toNatClampNeg) l1).i 24 3).toNatClampNeg) l2).wi 24 3 ((((σ.wi b1 ((σ.i 24 3).toNatClampNeg) l1).wi b6 (((σ.wi b1 ((σ.i 24 3).toNatClampNeg) l1).i 24 3).toNatClampNeg) l2).i 24 3) + (1 : Int32)))) (pc' := 41) (by decide +kernel) rfl (c_pI (v := ((((σ.wi b1 ((σ.i 24 3).toNatClampNeg) l1).wi b6 (((σ.wi b1 ((σ.i 24 3).toNatClampNeg) l1).i 24 3).toNatClampNeg) l2).i 24 3) + (1 : Int32))) (F.s t0_24) rfl) rfl rfl rfl ?_
    refine ab_fin.s2 (i := .aload_n 0) (k := 1) (pc' := 42) (lv' := [(0, .ref 24), (1, .int l1), (2, .int l2)]) (st' := [.ref 24]) (by decide +kernel) rfl rfl ?_
    obtain ⟨b11, e12, w⟩ := w
    refine ab_fin.q_rA (b := b11) (ix := 18) (ci := 2) (k := 2) (pc' := 45) (by decide +kernel) rfl (c_rA (F.s t0_24) rfl e12) rfl ?_
    refine ab_fin.s2 (i := .aload_n 0) (k := 1) (pc' := 46) (lv' := [(0, .ref 24), (1, .int l1), (2, .int l2)]) (st' := [.ref 24, .ref b11]) (by decide +kernel) rfl rfl ?_
    refine ab_fin.q_rI (x := ((((σ.wi b1 ((σ.i 24 3).toNatClampNeg) l1).wi b6 (((σ.wi b1 ((σ.i 24 3).toNatClampNeg) l1).i 24 3).toNatClampNeg) l2).i 24 3) + (1 : Int32))) (ix := 21) (ci := 2) (k := 3) (pc' := 49) (by decide +kernel) rfl (c_rI (F.s t0_24) rfl) rfl ?_
    refine ab_fin.s1i (i := .iconst 0) (k := 1) (pc' := 50) (n := 0) (by decide +kernel) rfl (by decide +kernel) rfl ?_
    obtain ⟨n14, e13, w⟩ := w
    obtain ⟨e15, w⟩ := w
    refine ab_fin.q_sI (h1 := conc ((((σ.wi b1 ((σ.i 24 3).toNatClampNeg) l1).wi b6 (((σ.wi b1 ((σ.i 24 3).toNatClampNeg) l1).i 24 3).toNatClampNeg) l2).wi 24 3 ((((σ.wi b1 ((σ.i 24 3).toNatClampNeg) l1).wi b6 (((σ.wi b1 ((σ.i 24 3).toNatClampNeg) l1).i 24 3).toNatClampNeg) l2).i 24 3) + (1 : Int32))).wi b11 (((((σ.wi b1 ((σ.i 24 3).toNatClampNeg) l1).wi b6 (((σ.wi b1 ((σ.i 24 3).toNatClampNeg) l1).i 24 3).toNatClampNeg) l2).i 24 3) + (1 : Int32)).toNatClampNeg) (0 : Int32))) (pc' := 51) (by decide +kernel) (c_sI' e13 e15 rfl) rfl ?_
    exact ab_fin.q_ret (i := .return_) (k := 1) (v := none) (by decide +kernel) rfl F w
theorem T_X1_aim_0 {Z : zT} {d : Nat} {σ : Sg} {l1 : Int32} {l2 : Int32} {K : kS} (F : FX ΦC σ.sh σ.r) (w : ((σ.i 24 4) ≤ l1 → K (.inl none) σ) ∧ (¬ (σ.i 24 4) ≤ l1 → ∃ b1, (σ.r 24 1) = Rf.ptr b1 ∧ (∃ n4, σ.sh[b1]? = some (Sh.arr 0 n4) ∧ (ib l1 n4 ∧ (K (.inl none) (σ.wi b1 l1.toNatClampNeg l2)))))) : C_X1_aim_0 Z (d + 1) σ l1 l2 K := by
  unfold C_X1_aim_0
  refine ab_fin.s2 (i := .iload_n 1) (k := 1) (pc' := 1) (lv' := [(0, .ref 24), (1, .int l1), (2, .int l2)]) (st' := [.int l1]) (by decide +kernel) rfl rfl ?_
  refine ab_fin.s2 (i := .aload_n 0) (k := 1) (pc' := 2) (lv' := [(0, .ref 24), (1, .int l1), (2, .int l2)]) (st' := [.ref 24, .int l1]) (by decide +kernel) rfl rfl ?_
  refine ab_fin.q_rI (x := (σ.i 24 4)) (ix := 25) (ci := 2) (k := 4) (pc' := 5) (by decide +kernel) rfl (c_rI (F.s t0_24) rfl) rfl ?_
  refine ab_fin.br (c := (σ.i 24 4) ≤ l1) (i := .if_icmp .ge 10) (off := 10) (t := 15) (pc' := 8) (r := []) (by decide +kernel) rfl (by decide +kernel) rfl (fun q => ?_) (fun q => ?_)
  · replace w := w.1 q
    exact ab_fin.q_ret (i := .return_) (k := 1) (v := none) (by decide +kernel) rfl F w
  · replace w := w.2 q
    refine ab_fin.s2 (i := .aload_n 0) (k := 1) (pc' := 9) (lv' := [(0, .ref 24), (1, .int l1), (2, .int l2)]) (st' := [.ref 24]) (by decide +kernel) rfl rfl ?_
    obtain ⟨b1, e2, w⟩ := w
    refine ab_fin.q_rA (b := b1) (ix := 15) (ci := 2) (k := 1) (pc' := 12) (by decide +kernel) rfl (c_rA (F.s t0_24) rfl e2) rfl ?_
    refine ab_fin.s2 (i := .iload_n 1) (k := 1) (pc' := 13) (lv' := [(0, .ref 24), (1, .int l1), (2, .int l2)]) (st' := [.int l1, .ref b1]) (by decide +kernel) rfl rfl ?_
    refine ab_fin.s2 (i := .iload_n 2) (k := 1) (pc' := 14) (lv' := [(0, .ref 24), (1, .int l1), (2, .int l2)]) (st' := [.int l2, .int l1, .ref b1]) (by decide +kernel) rfl rfl ?_
    obtain ⟨n4, e3, w⟩ := w
    obtain ⟨e5, w⟩ := w
    refine ab_fin.q_sI (h1 := conc (σ.wi b1 l1.toNatClampNeg l2)) (pc' := 15) (by decide +kernel) (c_sI' e3 e5 rfl) rfl ?_
    exact ab_fin.q_ret (i := .return_) (k := 1) (v := none) (by decide +kernel) rfl F w
theorem T_X2_isBelow_0 {Z : zT} {d : Nat} {σ : Sg} {l1 : Int32} {l2 : Int32} {K : kS} (F : FX ΦC σ.sh σ.r) (w : ib l1 24 ∧ (((((σ.i 4 l1.toNatClampNeg) >>> (l2 &&& 31)) &&& (1 : Int32)) = 0 → K (.inl (some (.int 0))) σ) ∧ (¬ (((σ.i 4 l1.toNatClampNeg) >>> (l2 &&& 31)) &&& (1 : Int32)) = 0 → K (.inl (some (.int 1))) σ))) : C_X2_isBelow_0 Z (d + 1) σ l1 l2 K := by
  unfold C_X2_isBelow_0
  refine ab_fin.s2 (i := .aload_n 0) (k := 1) (pc' := 1) (lv' := [(0, .ref 2), (1, .int l1), (2, .int l2)]) (st' := [.ref 2]) (by decide +kernel) rfl rfl ?_
  refine ab_fin.q_rA (b := 4) (ix := 15) (ci := 3) (k := 1) (pc' := 4) (by decide +kernel) rfl (c_rA (F.s t0_2) rfl (rC_3_1 F t0_2)) rfl ?_
  refine ab_fin.s2 (i := .iload_n 1) (k := 1) (pc' := 5) (lv' := [(0, .ref 2), (1, .int l1), (2, .int l2)]) (st' := [.int l1, .ref 4]) (by decide +kernel) rfl rfl ?_
  obtain ⟨e1, w⟩ := w
  refine ab_fin.q_eI (x := (σ.i 4 l1.toNatClampNeg)) (pc' := 6) (by decide +kernel) (c_eI' (F.s t0_4) e1 rfl) rfl ?_
  refine ab_fin.s2 (i := .iload_n 2) (k := 1) (pc' := 7) (lv' := [(0, .ref 2), (1, .int l1), (2, .int l2)]) (st' := [.int l2, .int (σ.i 4 l1.toNatClampNeg)]) (by decide +kernel) rfl rfl ?_
  refine ab_fin.s1 (i := .ishr) (k := 1) (pc' := 8) (st' := [.int ((σ.i 4 l1.toNatClampNeg) >>> (l2 &&& 31))]) (by decide +kernel) rfl rfl ?_
  refine ab_fin.s1i (i := .iconst 1) (k := 1) (pc' := 9) (n := 1) (by decide +kernel) rfl (by decide +kernel) rfl ?_
  refine ab_fin.s1 (i := .iand) (k := 1) (pc' := 10) (st' := [.int (((σ.i 4 l1.toNatClampNeg) >>> (l2 &&& 31)) &&& (1 : Int32))]) (by decide +kernel) rfl rfl ?_
  refine ab_fin.br (c := (((σ.i 4 l1.toNatClampNeg) >>> (l2 &&& 31)) &&& (1 : Int32)) = 0) (i := .ifCond .eq 7) (off := 7) (t := 17) (pc' := 13) (r := []) (by decide +kernel) rfl (by decide +kernel) rfl (fun q => ?_) (fun q => ?_)
  · replace w := w.1 q
    refine ab_fin.s1i (i := .iconst 0) (k := 1) (pc' := 18) (n := 0) (by decide +kernel) rfl (by decide +kernel) rfl ?_
    exact ab_fin.q_ret (i := .ireturn) (k := 1) (v := some (.int 0)) (by decide +kernel) rfl F w
  · replace w := w.2 q
    refine ab_fin.s1i (i := .iconst 1) (k := 1) (pc' := 14) (n := 1) (by decide +kernel) rfl (by decide +kernel) rfl ?_
    refine ab_fin.s3 (i := .goto 4) (k := 3) (t := 18) (st' := [.int 1]) (by decide +kernel) (ab_gto (by decide +kernel)) ?_
    exact ab_fin.q_ret (i := .ireturn) (k := 1) (v := some (.int 1)) (by decide +kernel) rfl F w
theorem T_X2_inRow_0 {Z : zT} {d : Nat} {σ : Sg} {l1 : Int32} {l2 : Int32} {l3 : Int32} {K : kS} (F : FX ΦC σ.sh σ.r) (w : ib ((((l1 * (24 : Int32)) + l2) * (24 : Int32)) + l3) 1728 ∧ (K (.inl (some (.int (σ.i 7 (((((l1 * (24 : Int32)) + l2) * (24 : Int32)) + l3).toNatClampNeg))))) σ)) : C_X2_inRow_0 Z (d + 1) σ l1 l2 l3 K := by
  unfold C_X2_inRow_0
  refine ab_fin.s2 (i := .aload_n 0) (k := 1) (pc' := 1) (lv' := [(0, .ref 2), (1, .int l1), (2, .int l2), (3, .int l3)]) (st' := [.ref 2]) (by decide +kernel) rfl rfl ?_
  refine ab_fin.q_rA (b := 7) (ix := 25) (ci := 3) (k := 5) (pc' := 4) (by decide +kernel) rfl (c_rA (F.s t0_2) rfl (rC_3_5 F t0_2)) rfl ?_
  refine ab_fin.s2 (i := .iload_n 1) (k := 1) (pc' := 5) (lv' := [(0, .ref 2), (1, .int l1), (2, .int l2), (3, .int l3)]) (st' := [.int l1, .ref 7]) (by decide +kernel) rfl rfl ?_
  refine ab_fin.s1i (i := .bipush 24) (k := 2) (pc' := 7) (n := 24) (by decide +kernel) rfl (by decide +kernel) rfl ?_
  refine ab_fin.s1 (i := .imul) (k := 1) (pc' := 8) (st' := [.int (l1 * (24 : Int32)), .ref 7]) (by decide +kernel) rfl rfl ?_
  refine ab_fin.s2 (i := .iload_n 2) (k := 1) (pc' := 9) (lv' := [(0, .ref 2), (1, .int l1), (2, .int l2), (3, .int l3)]) (st' := [.int l2, .int (l1 * (24 : Int32)), .ref 7]) (by decide +kernel) rfl rfl ?_
  refine ab_fin.s1 (i := .iadd) (k := 1) (pc' := 10) (st' := [.int ((l1 * (24 : Int32)) + l2), .ref 7]) (by decide +kernel) rfl rfl ?_
  refine ab_fin.s1i (i := .bipush 24) (k := 2) (pc' := 12) (n := 24) (by decide +kernel) rfl (by decide +kernel) rfl ?_
  refine ab_fin.s1 (i := .imul) (k := 1) (pc' := 13) (st' := [.int (((l1 * (24 : Int32)) + l2) * (24 : Int32)), .ref 7]) (by decide +kernel) rfl rfl ?_
  refine ab_fin.s2 (i := .iload_n 3) (k := 1) (pc' := 14) (lv' := [(0, .ref 2), (1, .int l1), (2, .int l2), (3, .int l3)]) (st' := [.int l3, .int (((l1 * (24 : Int32)) + l2) * (24 : Int32)), .ref 7]) (by decide +kernel) rfl rfl ?_
  refine ab_fin.s1 (i := .iadd) (k := 1) (pc' := 15) (st' := [.int ((((l1 * (24 : Int32)) + l2) * (24 : Int32)) + l3), .ref 7]) (by decide +kernel) rfl rfl ?_
  obtain ⟨e1, w⟩ := w
  refine ab_fin.q_eI (x := (σ.i 7 (((((l1 * (24 : Int32)) + l2) * (24 : Int32)) + l3).toNatClampNeg))) (pc' := 16) (by decide +kernel) (c_eI' (F.s t0_7) e1 rfl) rfl ?_
  exact ab_fin.q_ret (i := .ireturn) (k := 1) (v := some (.int (σ.i 7 (((((l1 * (24 : Int32)) + l2) * (24 : Int32)) + l3).toNatClampNeg)))) (by decide +kernel) rfl F w
theorem T_X2_spotInRow_0 {Z : zT} {d : Nat} {σ : Sg} {l1 : Int32} {l2 : Int32} {l3 : Int32} {K : kS} (F : FX ΦC σ.sh σ.r) (w : ib ((((l1 * (24 : Int32)) + l2) * (24 : Int32)) + l3) 1728 ∧ (K (.inl (some (.int (σ.i 8 (((((l1 * (24 : Int32)) + l2) * (24 : Int32)) + l3).toNatClampNeg))))) σ)) : C_X2_spotInRow_0 Z (d + 1) σ l1 l2 l3 K := by
  unfold C_X2_spotInRow_0
  refine ab_fin.s2 (i := .aload_n 0) (k := 1) (pc' := 1) (lv' := [(0, .ref 2), (1, .int l1), (2, .int l2), (3, .int l3)]) (st' := [.ref 2]) (by decide +kernel) rfl rfl ?_
  refine ab_fin.q_rA (b := 8) (ix := 28) (ci := 3) (k := 6) (pc' := 4) (by decide +kernel) rfl (c_rA (F.s t0_2) rfl (rC_3_6 F t0_2)) rfl ?_
  refine ab_fin.s2 (i := .iload_n 1) (k := 1) (pc' := 5) (lv' := [(0, .ref 2), (1, .int l1), (2, .int l2), (3, .int l3)]) (st' := [.int l1, .ref 8]) (by decide +kernel) rfl rfl ?_
  refine ab_fin.s1i (i := .bipush 24) (k := 2) (pc' := 7) (n := 24) (by decide +kernel) rfl (by decide +kernel) rfl ?_
  refine ab_fin.s1 (i := .imul) (k := 1) (pc' := 8) (st' := [.int (l1 * (24 : Int32)), .ref 8]) (by decide +kernel) rfl rfl ?_
  refine ab_fin.s2 (i := .iload_n 2) (k := 1) (pc' := 9) (lv' := [(0, .ref 2), (1, .int l1), (2, .int l2), (3, .int l3)]) (st' := [.int l2, .int (l1 * (24 : Int32)), .ref 8]) (by decide +kernel) rfl rfl ?_
  refine ab_fin.s1 (i := .iadd) (k := 1) (pc' := 10) (st' := [.int ((l1 * (24 : Int32)) + l2), .ref 8]) (by decide +kernel) rfl rfl ?_
  refine ab_fin.s1i (i := .bipush 24) (k := 2) (pc' := 12) (n := 24) (by decide +kernel) rfl (by decide +kernel) rfl ?_
  refine ab_fin.s1 (i := .imul) (k := 1) (pc' := 13) (st' := [.int (((l1 * (24 : Int32)) + l2) * (24 : Int32)), .ref 8]) (by decide +kernel) rfl rfl ?_
  refine ab_fin.s2 (i := .iload_n 3) (k := 1) (pc' := 14) (lv' := [(0, .ref 2), (1, .int l1), (2, .int l2), (3, .int l3)]) (st' := [.int l3, .int (((l1 * (24 : Int32)) + l2) * (24 : Int32)), .ref 8]) (by decide +kernel) rfl rfl ?_
  refine ab_fin.s1 (i := .iadd) (k := 1) (pc' := 15) (st' := [.int ((((l1 * (24 : Int32)) + l2) * (24 : Int32)) + l3), .ref 8]) (by decide +kernel) rfl rfl ?_
  obtain ⟨e1, w⟩ := w
  refine ab_fin.q_eI (x := (σ.i 8 (((((l1 * (24 : Int32)) + l2) * (24 : Int32)) + l3).toNatClampNeg))) (pc' := 16) (by decide +kernel) (c_eI' (F.s t0_8) e1 rfl) rfl ?_
  exact ab_fin.q_ret (i := .ireturn) (k := 1) (v := some (.int (σ.i 8 (((((l1 * (24 : Int32)) + l2) * (24 : Int32)) + l3).toNatClampNeg)))) (by decide +kernel) rfl F w
theorem T_X2_isParent_0 {Z : zT} {d : Nat} {σ : Sg} {l1 : Int32} {K : kS} (F : FX ΦC σ.sh σ.r) (w : C_X2_isParent_2 Z (d + 1) σ l1 0 K) : C_X2_isParent_0 Z (d + 1) σ l1 K := by
  unfold C_X2_isParent_0
  refine ab_fin.s1i (i := .iconst 0) (k := 1) (pc' := 1) (n := 0) (by decide +kernel) rfl (by decide +kernel) rfl ?_
  refine ab_fin.s2 (i := .istore_n 2) (k := 1) (pc' := 2) (lv' := [(2, .int 0), (0, .ref 2), (1, .int l1)]) (st' := []) (by decide +kernel) rfl rfl ?_
  exact ab_fin.lv ⟨(List.forall_mem_cons.mpr ⟨(List.Mem.tail _ (List.Mem.head _)), (List.forall_mem_cons.mpr ⟨(List.Mem.tail _ (List.Mem.tail _ (List.Mem.head _))), (List.forall_mem_cons.mpr ⟨(List.Mem.head _), (fun _ h => absurd h List.not_mem_nil)⟩)⟩)⟩), (show ([2, 0, 1] : List Nat).Nodup from by decide)⟩ w
theorem T_X2_isParent_2 {Z : zT} {d : Nat} {σ : Sg} {l1 : Int32} {l2 : Int32} {K : kS} (F : FX ΦC σ.sh σ.r) (w : ((σ.i 2 4) ≤ l2 → K (.inl (some (.int 0))) σ) ∧ (¬ (σ.i 2 4) ≤ l2 → ib l2 24 ∧ ((¬ (σ.i 6 l2.toNatClampNeg) = l1 → C_X2_isParent_2 Z (d + 1) σ l1 (l2 + 1) K) ∧ ((σ.i 6 l2.toNatClampNeg) = l1 → K (.inl (some (.int 1))) σ)))) : C_X2_isParent_2 Z (d + 1) σ l1 l2 K := by
  unfold C_X2_isParent_2
  refine ab_fin.s2 (i := .iload_n 2) (k := 1) (pc' := 3) (lv' := [(0, .ref 2), (1, .int l1), (2, .int l2)]) (st' := [.int l2]) (by decide +kernel) rfl rfl ?_
  refine ab_fin.s2 (i := .aload_n 0) (k := 1) (pc' := 4) (lv' := [(0, .ref 2), (1, .int l1), (2, .int l2)]) (st' := [.ref 2, .int l2]) (by decide +kernel) rfl rfl ?_
  refine ab_fin.q_rI (x := (σ.i 2 4)) (ix := 34) (ci := 3) (k := 4) (pc' := 7) (by decide +kernel) rfl (c_rI (F.s t0_2) rfl) rfl ?_
  refine ab_fin.br (c := (σ.i 2 4) ≤ l2) (i := .if_icmp .ge 21) (off := 21) (t := 28) (pc' := 10) (r := []) (by decide +kernel) rfl (by decide +kernel) rfl (fun q => ?_) (fun q => ?_)
  · replace w := w.1 q
    refine ab_fin.s1i (i := .iconst 0) (k := 1) (pc' := 29) (n := 0) (by decide +kernel) rfl (by decide +kernel) rfl ?_
    exact ab_fin.q_ret (i := .ireturn) (k := 1) (v := some (.int 0)) (by decide +kernel) rfl F w
  · replace w := w.2 q
    refine ab_fin.s2 (i := .aload_n 0) (k := 1) (pc' := 11) (lv' := [(0, .ref 2), (1, .int l1), (2, .int l2)]) (st' := [.ref 2]) (by decide +kernel) rfl rfl ?_
    refine ab_fin.q_rA (b := 6) (ix := 22) (ci := 3) (k := 3) (pc' := 14) (by decide +kernel) rfl (c_rA (F.s t0_2) rfl (rC_3_3 F t0_2)) rfl ?_
    refine ab_fin.s2 (i := .iload_n 2) (k := 1) (pc' := 15) (lv' := [(0, .ref 2), (1, .int l1), (2, .int l2)]) (st' := [.int l2, .ref 6]) (by decide +kernel) rfl rfl ?_
    obtain ⟨e1, w⟩ := w
    refine ab_fin.q_eI (x := (σ.i 6 l2.toNatClampNeg)) (pc' := 16) (by decide +kernel) (c_eI' (F.s t0_6) e1 rfl) rfl ?_
    refine ab_fin.s2 (i := .iload_n 1) (k := 1) (pc' := 17) (lv' := [(0, .ref 2), (1, .int l1), (2, .int l2)]) (st' := [.int l1, .int (σ.i 6 l2.toNatClampNeg)]) (by decide +kernel) rfl rfl ?_
    refine ab_fin.br (c := ¬ (σ.i 6 l2.toNatClampNeg) = l1) (i := .if_icmp .ne 5) (off := 5) (t := 22) (pc' := 20) (r := []) (by decide +kernel) rfl (by decide +kernel) rfl (fun q => ?_) (fun q => ?_)
    · replace w := w.1 q
      refine ab_fin.q_inc (n := 2) (c := 1) (pc' := 25) (lv' := [(2, .int (l2 + 1)), (0, .ref 2), (1, .int l1)]) (by decide +kernel) (by decide) rfl rfl rfl rfl ?_
      refine ab_fin.s3 (i := .goto (-23)) (k := 3) (t := 2) (st' := []) (by decide +kernel) (ab_gto (by decide +kernel)) ?_
      exact ab_fin.lv ⟨(List.forall_mem_cons.mpr ⟨(List.Mem.tail _ (List.Mem.head _)), (List.forall_mem_cons.mpr ⟨(List.Mem.tail _ (List.Mem.tail _ (List.Mem.head _))), (List.forall_mem_cons.mpr ⟨(List.Mem.head _), (fun _ h => absurd h List.not_mem_nil)⟩)⟩)⟩), (show ([2, 0, 1] : List Nat).Nodup from by decide)⟩ w
    · replace w := w.2 (Decidable.of_not_not q)
      refine ab_fin.s1i (i := .iconst 1) (k := 1) (pc' := 21) (n := 1) (by decide +kernel) rfl (by decide +kernel) rfl ?_
      exact ab_fin.q_ret (i := .ireturn) (k := 1) (v := some (.int 1)) (by decide +kernel) rfl F w
theorem T_X2_addParent_0 {Z : zT} {d : Nat} {σ : Sg} {l1 : Int32} {K : kS} (F : FX ΦC σ.sh σ.r) (w : (24 ≤ (σ.i 2 4) → K (.inl none) σ) ∧ (¬ 24 ≤ (σ.i 2 4) → ib (σ.i 2 4) 24 ∧ (K (.inl none) ((σ.wi 6 ((σ.i 2 4).toNatClampNeg) l1).wi 2 4 ((σ.i 2 4) + (1 : Int32)))))) : C_X2_addParent_0 Z (d + 1) σ l1 K := by
  unfold C_X2_addParent_0
  refine ab_fin.s2 (i := .aload_n 0) (k := 1) (pc' := 1) (lv' := [(0, .ref 2), (1, .int l1)]) (st' := [.ref 2]) (by decide +kernel) rfl rfl ?_
  refine ab_fin.q_rI (x := (σ.i 2 4)) (ix := 34) (ci := 3) (k := 4) (pc' := 4) (by decide +kernel) rfl (c_rI (F.s t0_2) rfl) rfl ?_
  refine ab_fin.s2 (i := .aload_n 0) (k := 1) (pc' := 5) (lv' := [(0, .ref 2), (1, .int l1)]) (st' := [.ref 2, .int (σ.i 2 4)]) (by decide +kernel) rfl rfl ?_
  refine ab_fin.q_rA (b := 6) (ix := 22) (ci := 3) (k := 3) (pc' := 8) (by decide +kernel) rfl (c_rA (F.s t0_2) rfl (rC_3_3 F t0_2)) rfl ?_
  refine ab_fin.q_eN (n := 24) (pc' := 9) (by decide +kernel) (c_eN' (F.s t0_6) (Or.inl (by decide)) (by decide +kernel)) rfl ?_
  refine ab_fin.br (c := 24 ≤ (σ.i 2 4)) (i := .if_icmp .ge 23) (off := 23) (t := 32) (pc' := 12) (r := []) (by decide +kernel) rfl (by decide +kernel) rfl (fun q => ?_) (fun q => ?_)
  · replace w := w.1 q
    exact ab_fin.q_ret (i := .return_) (k := 1) (v := none) (by decide +kernel) rfl F w
  · replace w := w.2 q
    refine ab_fin.s2 (i := .aload_n 0) (k := 1) (pc' := 13) (lv' := [(0, .ref 2), (1, .int l1)]) (st' := [.ref 2]) (by decide +kernel) rfl rfl ?_
    refine ab_fin.q_rA (b := 6) (ix := 22) (ci := 3) (k := 3) (pc' := 16) (by decide +kernel) rfl (c_rA (F.s t0_2) rfl (rC_3_3 F t0_2)) rfl ?_
    refine ab_fin.s2 (i := .aload_n 0) (k := 1) (pc' := 17) (lv' := [(0, .ref 2), (1, .int l1)]) (st' := [.ref 2, .ref 6]) (by decide +kernel) rfl rfl ?_
    refine ab_fin.q_rI (x := (σ.i 2 4)) (ix := 34) (ci := 3) (k := 4) (pc' := 20) (by decide +kernel) rfl (c_rI (F.s t0_2) rfl) rfl ?_
    refine ab_fin.s2 (i := .iload_n 1) (k := 1) (pc' := 21) (lv' := [(0, .ref 2), (1, .int l1)]) (st' := [.int l1, .int (σ.i 2 4), .ref 6]) (by decide +kernel) rfl rfl ?_
    obtain ⟨e1, w⟩ := w
    refine ab_fin.q_sI (h1 := conc (σ.wi 6 ((σ.i 2 4).toNatClampNeg) l1)) (pc' := 22) (by decide +kernel) (c_sI' (F.s t0_6) e1 rfl) rfl ?_
    refine ab_fin.s2 (i := .aload_n 0) (k := 1) (pc' := 23) (lv' := [(0, .ref 2), (1, .int l1)]) (st' := [.ref 2]) (by decide +kernel) rfl rfl ?_
    refine ab_fin.s1 (i := .dup) (k := 1) (pc' := 24) (st' := [.ref 2, .ref 2]) (by decide +kernel) rfl rfl ?_
    refine ab_fin.q_rI (x := (σ.i 2 4)) (ix := 34) (ci := 3) (k := 4) (pc' := 27) (by decide +kernel) rfl (c_rI (F.s t0_2) rfl) rfl ?_
    refine ab_fin.s1i (i := .iconst 1) (k := 1) (pc' := 28) (n := 1) (by decide +kernel) rfl (by decide +kernel) rfl ?_
    refine ab_fin.s1 (i := .iadd) (k := 1) (pc' := 29) (st' := [.int ((σ.i 2 4) + (1 : Int32)), .ref 2]) (by decide +kernel) rfl rfl ?_
    refine ab_fin.q_pF (ix := 34) (ci := 3) (k := 4) (h1 := conc ((σ.wi 6 ((σ.i 2 4).toNatClampNeg) l1).wi 2 4 ((σ.i 2 4) + (1 : Int32)))) (pc' := 32) (by decide +kernel) rfl (c_pI (v := ((σ.i 2 4) + (1 : Int32))) (F.s t0_2) rfl) rfl rfl rfl ?_
    exact ab_fin.q_ret (i := .return_) (k := 1) (v := none) (by decide +kernel) rfl F w
theorem T_X2_make_0 {Z : zT} {d : Nat} {σ : Sg} {l1 : Int32} {l2 : Int32} {K : kS} (F : FX ΦC σ.sh σ.r) (w : ib l1 24 ∧ (ib l1 24 ∧ (C_X2_make_18 Z (d + 1) ((σ.wi 3 l1.toNatClampNeg (vp_nar .boolean l2)).wi 4 l1.toNatClampNeg ((1 : Int32) <<< (l1 &&& 31))) l1 0 K))) : C_X2_make_0 Z (d + 1) σ l1 l2 K := by
  unfold C_X2_make_0
  refine ab_fin.s2 (i := .aload_n 0) (k := 1) (pc' := 1) (lv' := [(0, .ref 2), (1, .int l1), (2, .int l2)]) (st' := [.ref 2]) (by decide +kernel) rfl rfl ?_
  refine ab_fin.q_rA (b := 3) (ix := 9) (ci := 3) (k := 0) (pc' := 4) (by decide +kernel) rfl (c_rA (F.s t0_2) rfl (rC_3_0 F t0_2)) rfl ?_
  refine ab_fin.s2 (i := .iload_n 1) (k := 1) (pc' := 5) (lv' := [(0, .ref 2), (1, .int l1), (2, .int l2)]) (st' := [.int l1, .ref 3]) (by decide +kernel) rfl rfl ?_
  refine ab_fin.s2 (i := .iload_n 2) (k := 1) (pc' := 6) (lv' := [(0, .ref 2), (1, .int l1), (2, .int l2)]) (st' := [.int l2, .int l1, .ref 3]) (by decide +kernel) rfl rfl ?_
  obtain ⟨e1, w⟩ := w
  refine ab_fin.q_sB (h1 := conc (σ.wi 3 l1.toNatClampNeg (vp_nar .boolean l2))) (pc' := 7) (by decide +kernel) (c_sB3' (F.s t0_3) e1 rfl) rfl ?_
  refine ab_fin.s2 (i := .aload_n 0) (k := 1) (pc' := 8) (lv' := [(0, .ref 2), (1, .int l1), (2, .int l2)]) (st' := [.ref 2]) (by decide +kernel) rfl rfl ?_
  refine ab_fin.q_rA (b := 4) (ix := 15) (ci := 3) (k := 1) (pc' := 11) (by decide +kernel) rfl (c_rA (F.s t0_2) rfl (rC_3_1 F t0_2)) rfl ?_
  refine ab_fin.s2 (i := .iload_n 1) (k := 1) (pc' := 12) (lv' := [(0, .ref 2), (1, .int l1), (2, .int l2)]) (st' := [.int l1, .ref 4]) (by decide +kernel) rfl rfl ?_
  refine ab_fin.s1i (i := .iconst 1) (k := 1) (pc' := 13) (n := 1) (by decide +kernel) rfl (by decide +kernel) rfl ?_
  refine ab_fin.s2 (i := .iload_n 1) (k := 1) (pc' := 14) (lv' := [(0, .ref 2), (1, .int l1), (2, .int l2)]) (st' := [.int l1, .int 1, .int l1, .ref 4]) (by decide +kernel) rfl rfl ?_
  refine ab_fin.s1 (i := .ishl) (k := 1) (pc' := 15) (st' := [.int ((1 : Int32) <<< (l1 &&& 31)), .int l1, .ref 4]) (by decide +kernel) rfl rfl ?_
  obtain ⟨e2, w⟩ := w
  refine ab_fin.q_sI (h1 := conc ((σ.wi 3 l1.toNatClampNeg (vp_nar .boolean l2)).wi 4 l1.toNatClampNeg ((1 : Int32) <<< (l1 &&& 31)))) (pc' := 16) (by decide +kernel) (c_sI' (F.s t0_4) e2 rfl) rfl ?_
  refine ab_fin.s1i (i := .iconst 0) (k := 1) (pc' := 17) (n := 0) (by decide +kernel) rfl (by decide +kernel) rfl ?_
  refine ab_fin.s2 (i := .istore_n 3) (k := 1) (pc' := 18) (lv' := [(3, .int 0), (0, .ref 2), (1, .int l1), (2, .int l2)]) (st' := []) (by decide +kernel) rfl rfl ?_
  exact ab_fin.lv ⟨(List.forall_mem_cons.mpr ⟨(List.Mem.tail _ (List.Mem.head _)), (List.forall_mem_cons.mpr ⟨(List.Mem.tail _ (List.Mem.tail _ (List.Mem.head _))), (List.forall_mem_cons.mpr ⟨(List.Mem.head _), (fun _ h => absurd h List.not_mem_nil)⟩)⟩)⟩), (show ([3, 0, 1, 2] : List Nat).Nodup from by decide)⟩ w
theorem T_X2_make_18 {Z : zT} {d : Nat} {σ : Sg} {l1 : Int32} {l3 : Int32} {K : kS} (F : FX ΦC σ.sh σ.r) (w : ((σ.i 2 4) ≤ l3 → ib l1 24 ∧ (C_J6_bitCount_0f7a4_0 Z d σ (σ.i 4 l1.toNatClampNeg) (yI K fun v4 τ2 => ib l1 24 ∧ (C_X2_merge_0 Z d (τ2.wi 5 l1.toNatClampNeg v4) l1 (yI K fun v8 τ6 => (¬ v8 = 0 → C_X2_joinByFirst_0 Z d τ6 l1 (yN K fun τ9 => C_X2_joinByLast_0 Z d τ9 l1 (yN K fun τ11 => C_X2_make_89 Z (d + 1) τ11 l1 0 K))) ∧ (v8 = 0 → K (.inl (some (.int 0))) τ6)))))) ∧ (¬ (σ.i 2 4) ≤ l3 → ib l1 24 ∧ (ib l3 24 ∧ (ib (σ.i 6 l3.toNatClampNeg) 24 ∧ (ib l1 24 ∧ (C_X2_make_18 Z (d + 1) (σ.wi 4 l1.toNatClampNeg ((σ.i 4 l1.toNatClampNeg) ||| (σ.i 4 ((σ.i 6 l3.toNatClampNeg).toNatClampNeg)))) l1 (l3 + 1) K)))))) : C_X2_make_18 Z (d + 1) σ l1 l3 K := by
  unfold C_X2_make_18
  refine ab_fin.s2 (i := .iload_n 3) (k := 1) (pc' := 19) (lv' := [(0, .ref 2), (1, .int l1), (3, .int l3)]) (st' := [.int l3]) (by decide +kernel) rfl rfl ?_
  refine ab_fin.s2 (i := .aload_n 0) (k := 1) (pc' := 20) (lv' := [(0, .ref 2), (1, .int l1), (3, .int l3)]) (st' := [.ref 2, .int l3]) (by decide +kernel) rfl rfl ?_
  refine ab_fin.q_rI (x := (σ.i 2 4)) (ix := 34) (ci := 3) (k := 4) (pc' := 23) (by decide +kernel) rfl (c_rI (F.s t0_2) rfl) rfl ?_
  refine ab_fin.br (c := (σ.i 2 4) ≤ l3) (i := .if_icmp .ge 29) (off := 29) (t := 52) (pc' := 26) (r := []) (by decide +kernel) rfl (by decide +kernel) rfl (fun q => ?_) (fun q => ?_)
  · replace w := w.1 q
    refine ab_fin.s2 (i := .aload_n 0) (k := 1) (pc' := 53) (lv' := [(0, .ref 2), (1, .int l1), (3, .int l3)]) (st' := [.ref 2]) (by decide +kernel) rfl rfl ?_
    refine ab_fin.q_rA (b := 5) (ix := 19) (ci := 3) (k := 2) (pc' := 56) (by decide +kernel) rfl (c_rA (F.s t0_2) rfl (rC_3_2 F t0_2)) rfl ?_
    refine ab_fin.s2 (i := .iload_n 1) (k := 1) (pc' := 57) (lv' := [(0, .ref 2), (1, .int l1), (3, .int l3)]) (st' := [.int l1, .ref 5]) (by decide +kernel) rfl rfl ?_
    refine ab_fin.s2 (i := .aload_n 0) (k := 1) (pc' := 58) (lv' := [(0, .ref 2), (1, .int l1), (3, .int l3)]) (st' := [.ref 2, .int l1, .ref 5]) (by decide +kernel) rfl rfl ?_
    refine ab_fin.q_rA (b := 4) (ix := 15) (ci := 3) (k := 1) (pc' := 61) (by decide +kernel) rfl (c_rA (F.s t0_2) rfl (rC_3_1 F t0_2)) rfl ?_
    refine ab_fin.s2 (i := .iload_n 1) (k := 1) (pc' := 62) (lv' := [(0, .ref 2), (1, .int l1), (3, .int l3)]) (st' := [.int l1, .ref 4, .int l1, .ref 5]) (by decide +kernel) rfl rfl ?_
    obtain ⟨e1, w⟩ := w
    refine ab_fin.q_eI (x := (σ.i 4 l1.toNatClampNeg)) (pc' := 63) (by decide +kernel) (c_eI' (F.s t0_4) e1 rfl) rfl ?_
    refine ab_fin.q_yI (i := .invokestatic 38) (k := 3) (y := 8450) (As := [.int (σ.i 4 l1.toNatClampNeg)]) (rest := [.int l1, .ref 5]) (M' := (mJ6_bitCount_0f7a4, [])) (lv2 := [(0, .int (σ.i 4 l1.toNatClampNeg))]) (pc' := 66) (X := K) (by decide +kernel) (ab_cs rfl rfl ⟨(Nat.le_of_ble_eq_true rfl), (Nat.le_of_ble_eq_true rfl)⟩ rfl) rfl (Nat.le_of_ble_eq_true rfl) rfl rfl (hY_no fun E => rfl) w (fun v4 τ2 F3 w => ?_)
    obtain ⟨e5, w⟩ := w
    refine ab_fin.q_sI (h1 := conc (τ2.wi 5 l1.toNatClampNeg v4)) (pc' := 67) (by decide +kernel) (c_sI' (F3.s t0_5) e5 rfl) rfl ?_
    refine ab_fin.s2 (i := .aload_n 0) (k := 1) (pc' := 68) (lv' := [(0, .ref 2), (1, .int l1), (3, .int l3)]) (st' := [.ref 2]) (by decide +kernel) rfl rfl ?_
    refine ab_fin.s2 (i := .iload_n 1) (k := 1) (pc' := 69) (lv' := [(0, .ref 2), (1, .int l1), (3, .int l3)]) (st' := [.int l1, .ref 2]) (by decide +kernel) rfl rfl ?_
    refine ab_fin.q_yI (i := .invokevirtual 44) (k := 3) (y := 520) (As := [.ref 2, .int l1]) (rest := []) (M' := (mX2_merge, [])) (lv2 := [(0, .ref 2), (1, .int l1)]) (pc' := 72) (X := K) (by decide +kernel) (ab_cv rfl rfl (conc_get (σ := (τ2.wi 5 l1.toNatClampNeg v4)) (F3.s t0_2)) ⟨(Nat.le_of_ble_eq_true rfl), (Nat.le_of_ble_eq_true rfl)⟩ rfl) rfl (Nat.le_of_ble_eq_true rfl) rfl rfl (hY_no fun E => rfl) w (fun v8 τ6 F7 w => ?_)
    refine ab_fin.br (c := ¬ v8 = 0) (i := .ifCond .ne 5) (off := 5) (t := 77) (pc' := 75) (r := []) (by decide +kernel) rfl (by decide +kernel) rfl (fun q => ?_) (fun q => ?_)
    · replace w := w.1 q
      refine ab_fin.s2 (i := .aload_n 0) (k := 1) (pc' := 78) (lv' := [(0, .ref 2), (1, .int l1), (3, .int l3)]) (st' := [.ref 2]) (by decide +kernel) rfl rfl ?_
      refine ab_fin.s2 (i := .iload_n 1) (k := 1) (pc' := 79) (lv' := [(0, .ref 2), (1, .int l1), (3, .int l3)]) (st' := [.int l1, .ref 2]) (by decide +kernel) rfl rfl ?_
      refine ab_fin.q_yN (i := .invokevirtual 48) (k := 3) (y := 525) (As := [.ref 2, .int l1]) (rest := []) (M' := (mX2_joinByFirst, [])) (lv2 := [(0, .ref 2), (1, .int l1)]) (pc' := 82) (X := K) (by decide +kernel) (ab_cv rfl rfl (conc_get (σ := τ6) (F7.s t0_2)) ⟨(Nat.le_of_ble_eq_true rfl), (Nat.le_of_ble_eq_true rfl)⟩ rfl) rfl (Nat.le_of_ble_eq_true rfl) rfl rfl (hY_no fun E => rfl) w (fun τ9 F10 w => ?_)
      refine ab_fin.s2 (i := .aload_n 0) (k := 1) (pc' := 83) (lv' := [(0, .ref 2), (1, .int l1), (3, .int l3)]) (st' := [.ref 2]) (by decide +kernel) rfl rfl ?_
      refine ab_fin.s2 (i := .iload_n 1) (k := 1) (pc' := 84) (lv' := [(0, .ref 2), (1, .int l1), (3, .int l3)]) (st' := [.int l1, .ref 2]) (by decide +kernel) rfl rfl ?_
      refine ab_fin.q_yN (i := .invokevirtual 52) (k := 3) (y := 526) (As := [.ref 2, .int l1]) (rest := []) (M' := (mX2_joinByLast, [])) (lv2 := [(0, .ref 2), (1, .int l1)]) (pc' := 87) (X := K) (by decide +kernel) (ab_cv rfl rfl (conc_get (σ := τ9) (F10.s t0_2)) ⟨(Nat.le_of_ble_eq_true rfl), (Nat.le_of_ble_eq_true rfl)⟩ rfl) rfl (Nat.le_of_ble_eq_true rfl) rfl rfl (hY_no fun E => rfl) w (fun τ11 F12 w => ?_)
      refine ab_fin.s1i (i := .iconst 0) (k := 1) (pc' := 88) (n := 0) (by decide +kernel) rfl (by decide +kernel) rfl ?_
      refine ab_fin.s2 (i := .istore_n 3) (k := 1) (pc' := 89) (lv' := [(3, .int 0), (0, .ref 2), (1, .int l1)]) (st' := []) (by decide +kernel) rfl rfl ?_
      exact ab_fin.lv ⟨(List.forall_mem_cons.mpr ⟨(List.Mem.tail _ (List.Mem.head _)), (List.forall_mem_cons.mpr ⟨(List.Mem.tail _ (List.Mem.tail _ (List.Mem.head _))), (List.forall_mem_cons.mpr ⟨(List.Mem.head _), (fun _ h => absurd h List.not_mem_nil)⟩)⟩)⟩), (show ([3, 0, 1] : List Nat).Nodup from by decide)⟩ w
    · replace w := w.2 (Decidable.of_not_not q)
      refine ab_fin.s1i (i := .iconst 0) (k := 1) (pc' := 76) (n := 0) (by decide +kernel) rfl (by decide +kernel) rfl ?_
      exact ab_fin.q_ret (i := .ireturn) (k := 1) (v := some (.int 0)) (by decide +kernel) rfl F7 w
  · replace w := w.2 q
    refine ab_fin.s2 (i := .aload_n 0) (k := 1) (pc' := 27) (lv' := [(0, .ref 2), (1, .int l1), (3, .int l3)]) (st' := [.ref 2]) (by decide +kernel) rfl rfl ?_
    refine ab_fin.q_rA (b := 4) (ix := 15) (ci := 3) (k := 1) (pc' := 30) (by decide +kernel) rfl (c_rA (F.s t0_2) rfl (rC_3_1 F t0_2)) rfl ?_
    refine ab_fin.s2 (i := .iload_n 1) (k := 1) (pc' := 31) (lv' := [(0, .ref 2), (1, .int l1), (3, .int l3)]) (st' := [.int l1, .ref 4]) (by decide +kernel) rfl rfl ?_
    refine ab_fin.s1 (i := .dup2) (k := 1) (pc' := 32) (st' := [.int l1, .ref 4, .int l1, .ref 4]) (by decide +kernel) rfl rfl ?_
    obtain ⟨e13, w⟩ := w
    refine ab_fin.q_eI (x := (σ.i 4 l1.toNatClampNeg)) (pc' := 33) (by decide +kernel) (c_eI' (F.s t0_4) e13 rfl) rfl ?_
    refine ab_fin.s2 (i := .aload_n 0) (k := 1) (pc' := 34) (lv' := [(0, .ref 2), (1, .int l1), (3, .int l3)]) (st' := [.ref 2, .int (σ.i 4 l1.toNatClampNeg), .int l1, .ref 4]) (by decide +kernel) rfl rfl ?_
    refine ab_fin.q_rA (b := 4) (ix := 15) (ci := 3) (k := 1) (pc' := 37) (by decide +kernel) rfl (c_rA (F.s t0_2) rfl (rC_3_1 F t0_2)) rfl ?_
    refine ab_fin.s2 (i := .aload_n 0) (k := 1) (pc' := 38) (lv' := [(0, .ref 2), (1, .int l1), (3, .int l3)]) (st' := [.ref 2, .ref 4, .int (σ.i 4 l1.toNatClampNeg), .int l1, .ref 4]) (by decide +kernel) rfl rfl ?_
    refine ab_fin.q_rA (b := 6) (ix := 22) (ci := 3) (k := 3) (pc' := 41) (by decide +kernel) rfl (c_rA (F.s t0_2) rfl (rC_3_3 F t0_2)) rfl ?_
    refine ab_fin.s2 (i := .iload_n 3) (k := 1) (pc' := 42) (lv' := [(0, .ref 2), (1, .int l1), (3, .int l3)]) (st' := [.int l3, .ref 6, .ref 4, .int (σ.i 4 l1.toNatClampNeg), .int l1, .ref 4]) (by decide +kernel) rfl rfl ?_
    obtain ⟨e14, w⟩ := w
    refine ab_fin.q_eI (x := (σ.i 6 l3.toNatClampNeg)) (pc' := 43) (by decide +kernel) (c_eI' (F.s t0_6) e14 rfl) rfl ?_
    obtain ⟨e15, w⟩ := w
    refine ab_fin.q_eI (x := (σ.i 4 ((σ.i 6 l3.toNatClampNeg).toNatClampNeg))) (pc' := 44) (by decide +kernel) (c_eI' (F.s t0_4) e15 rfl) rfl ?_
    refine ab_fin.s1 (i := .ior) (k := 1) (pc' := 45) (st' := [.int ((σ.i 4 l1.toNatClampNeg) ||| (σ.i 4 ((σ.i 6 l3.toNatClampNeg).toNatClampNeg))), .int l1, .ref 4]) (by decide +kernel) rfl rfl ?_
    obtain ⟨e16, w⟩ := w
    refine ab_fin.q_sI (h1 := conc (σ.wi 4 l1.toNatClampNeg ((σ.i 4 l1.toNatClampNeg) ||| (σ.i 4 ((σ.i 6 l3.toNatClampNeg).toNatClampNeg))))) (pc' := 46) (by decide +kernel) (c_sI' (F.s t0_4) e16 rfl) rfl ?_
    refine ab_fin.q_inc (n := 3) (c := 1) (pc' := 49) (lv' := [(3, .int (l3 + 1)), (0, .ref 2), (1, .int l1)]) (by decide +kernel) (by decide) rfl rfl rfl rfl ?_
    refine ab_fin.s3 (i := .goto (-31)) (k := 3) (t := 18) (st' := []) (by decide +kernel) (ab_gto (by decide +kernel)) ?_
    exact ab_fin.lv ⟨(List.forall_mem_cons.mpr ⟨(List.Mem.tail _ (List.Mem.head _)), (List.forall_mem_cons.mpr ⟨(List.Mem.tail _ (List.Mem.tail _ (List.Mem.head _))), (List.forall_mem_cons.mpr ⟨(List.Mem.head _), (fun _ h => absurd h List.not_mem_nil)⟩)⟩)⟩), (show ([3, 0, 1] : List Nat).Nodup from by decide)⟩ w
theorem T_X2_make_89 {Z : zT} {d : Nat} {σ : Sg} {l1 : Int32} {l3 : Int32} {K : kS} (F : FX ΦC σ.sh σ.r) (w : (3 ≤ l3 → K (.inl (some (.int 1))) σ) ∧ (¬ 3 ≤ l3 → C_X2_make_97 Z (d + 1) σ l1 l3 0 K)) : C_X2_make_89 Z (d + 1) σ l1 l3 K := by
  unfold C_X2_make_89
  refine ab_fin.s2 (i := .iload_n 3) (k := 1) (pc' := 90) (lv' := [(0, .ref 2), (1, .int l1), (3, .int l3)]) (st' := [.int l3]) (by decide +kernel) rfl rfl ?_
  refine ab_fin.s1i (i := .iconst 3) (k := 1) (pc' := 91) (n := 3) (by decide +kernel) rfl (by decide +kernel) rfl ?_
  refine ab_fin.br (c := 3 ≤ l3) (i := .if_icmp .ge 54) (off := 54) (t := 145) (pc' := 94) (r := []) (by decide +kernel) rfl (by decide +kernel) rfl (fun q => ?_) (fun q => ?_)
  · replace w := w.1 q
    refine ab_fin.s1i (i := .iconst 1) (k := 1) (pc' := 146) (n := 1) (by decide +kernel) rfl (by decide +kernel) rfl ?_
    exact ab_fin.q_ret (i := .ireturn) (k := 1) (v := some (.int 1)) (by decide +kernel) rfl F w
  · replace w := w.2 q
    refine ab_fin.s1i (i := .iconst 0) (k := 1) (pc' := 95) (n := 0) (by decide +kernel) rfl (by decide +kernel) rfl ?_
    refine ab_fin.s2 (i := .istore 4) (k := 2) (pc' := 97) (lv' := [(4, .int 0), (0, .ref 2), (1, .int l1), (3, .int l3)]) (st' := []) (by decide +kernel) rfl rfl ?_
    exact ab_fin.lv ⟨(List.forall_mem_cons.mpr ⟨(List.Mem.tail _ (List.Mem.head _)), (List.forall_mem_cons.mpr ⟨(List.Mem.tail _ (List.Mem.tail _ (List.Mem.head _))), (List.forall_mem_cons.mpr ⟨(List.Mem.tail _ (List.Mem.tail _ (List.Mem.tail _ (List.Mem.head _)))), (List.forall_mem_cons.mpr ⟨(List.Mem.head _), (fun _ h => absurd h List.not_mem_nil)⟩)⟩)⟩)⟩), (show ([4, 0, 1, 3] : List Nat).Nodup from by decide)⟩ w
theorem T_X2_make_97 {Z : zT} {d : Nat} {σ : Sg} {l1 : Int32} {l3 : Int32} {l4 : Int32} {K : kS} (F : FX ΦC σ.sh σ.r) (w : ib l1 24 ∧ (((σ.i 5 l1.toNatClampNeg) ≤ l4 → C_X2_make_89 Z (d + 1) σ l1 (l3 + 1) K) ∧ (¬ (σ.i 5 l1.toNatClampNeg) ≤ l4 → C_X2_inRow_0 Z d σ l3 l1 l4 (yI K fun v4 τ2 => ib ((((l3 * (24 : Int32)) + l1) * (24 : Int32)) + v4) 1728 ∧ (C_X2_make_97 Z (d + 1) (τ2.wi 8 (((((l3 * (24 : Int32)) + l1) * (24 : Int32)) + v4).toNatClampNeg) l4) l1 l3 (l4 + 1) K))))) : C_X2_make_97 Z (d + 1) σ l1 l3 l4 K := by
  unfold C_X2_make_97
  refine ab_fin.s2 (i := .iload 4) (k := 2) (pc' := 99) (lv' := [(0, .ref 2), (1, .int l1), (3, .int l3), (4, .int l4)]) (st' := [.int l4]) (by decide +kernel) rfl rfl ?_
  refine ab_fin.s2 (i := .aload_n 0) (k := 1) (pc' := 100) (lv' := [(0, .ref 2), (1, .int l1), (3, .int l3), (4, .int l4)]) (st' := [.ref 2, .int l4]) (by decide +kernel) rfl rfl ?_
  refine ab_fin.q_rA (b := 5) (ix := 19) (ci := 3) (k := 2) (pc' := 103) (by decide +kernel) rfl (c_rA (F.s t0_2) rfl (rC_3_2 F t0_2)) rfl ?_
  refine ab_fin.s2 (i := .iload_n 1) (k := 1) (pc' := 104) (lv' := [(0, .ref 2), (1, .int l1), (3, .int l3), (4, .int l4)]) (st' := [.int l1, .ref 5, .int l4]) (by decide +kernel) rfl rfl ?_
  obtain ⟨e1, w⟩ := w
  refine ab_fin.q_eI (x := (σ.i 5 l1.toNatClampNeg)) (pc' := 105) (by decide +kernel) (c_eI' (F.s t0_5) e1 rfl) rfl ?_
  refine ab_fin.br (c := (σ.i 5 l1.toNatClampNeg) ≤ l4) (i := .if_icmp .ge 34) (off := 34) (t := 139) (pc' := 108) (r := []) (by decide +kernel) rfl (by decide +kernel) rfl (fun q => ?_) (fun q => ?_)
  · replace w := w.1 q
    refine ab_fin.q_inc (n := 3) (c := 1) (pc' := 142) (lv' := [(3, .int (l3 + 1)), (0, .ref 2), (1, .int l1), (4, .int l4)]) (by decide +kernel) (by decide) rfl rfl rfl rfl ?_
    refine ab_fin.s3 (i := .goto (-53)) (k := 3) (t := 89) (st' := []) (by decide +kernel) (ab_gto (by decide +kernel)) ?_
    exact ab_fin.lv ⟨(List.forall_mem_cons.mpr ⟨(List.Mem.tail _ (List.Mem.head _)), (List.forall_mem_cons.mpr ⟨(List.Mem.tail _ (List.Mem.tail _ (List.Mem.head _))), (List.forall_mem_cons.mpr ⟨(List.Mem.head _), (fun _ h => absurd h List.not_mem_nil)⟩)⟩)⟩), (show ([3, 0, 1, 4] : List Nat).Nodup from by decide)⟩ w
  · replace w := w.2 q
    refine ab_fin.s2 (i := .aload_n 0) (k := 1) (pc' := 109) (lv' := [(0, .ref 2), (1, .int l1), (3, .int l3), (4, .int l4)]) (st' := [.ref 2]) (by decide +kernel) rfl rfl ?_
    refine ab_fin.q_rA (b := 8) (ix := 28) (ci := 3) (k := 6) (pc' := 112) (by decide +kernel) rfl (c_rA (F.s t0_2) rfl (rC_3_6 F t0_2)) rfl ?_
    refine ab_fin.s2 (i := .iload_n 3) (k := 1) (pc' := 113) (lv' := [(0, .ref 2), (1, .int l1), (3, .int l3), (4, .int l4)]) (st' := [.int l3, .ref 8]) (by decide +kernel) rfl rfl ?_
    refine ab_fin.s1i (i := .bipush 24) (k := 2) (pc' := 115) (n := 24) (by decide +kernel) rfl (by decide +kernel) rfl ?_
    refine ab_fin.s1 (i := .imul) (k := 1) (pc' := 116) (st' := [.int (l3 * (24 : Int32)), .ref 8]) (by decide +kernel) rfl rfl ?_
    refine ab_fin.s2 (i := .iload_n 1) (k := 1) (pc' := 117) (lv' := [(0, .ref 2), (1, .int l1), (3, .int l3), (4, .int l4)]) (st' := [.int l1, .int (l3 * (24 : Int32)), .ref 8]) (by decide +kernel) rfl rfl ?_
    refine ab_fin.s1 (i := .iadd) (k := 1) (pc' := 118) (st' := [.int ((l3 * (24 : Int32)) + l1), .ref 8]) (by decide +kernel) rfl rfl ?_
    refine ab_fin.s1i (i := .bipush 24) (k := 2) (pc' := 120) (n := 24) (by decide +kernel) rfl (by decide +kernel) rfl ?_
    refine ab_fin.s1 (i := .imul) (k := 1) (pc' := 121) (st' := [.int (((l3 * (24 : Int32)) + l1) * (24 : Int32)), .ref 8]) (by decide +kernel) rfl rfl ?_
    refine ab_fin.s2 (i := .aload_n 0) (k := 1) (pc' := 122) (lv' := [(0, .ref 2), (1, .int l1), (3, .int l3), (4, .int l4)]) (st' := [.ref 2, .int (((l3 * (24 : Int32)) + l1) * (24 : Int32)), .ref 8]) (by decide +kernel) rfl rfl ?_
    refine ab_fin.s2 (i := .iload_n 3) (k := 1) (pc' := 123) (lv' := [(0, .ref 2), (1, .int l1), (3, .int l3), (4, .int l4)]) (st' := [.int l3, .ref 2, .int (((l3 * (24 : Int32)) + l1) * (24 : Int32)), .ref 8]) (by decide +kernel) rfl rfl ?_
    refine ab_fin.s2 (i := .iload_n 1) (k := 1) (pc' := 124) (lv' := [(0, .ref 2), (1, .int l1), (3, .int l3), (4, .int l4)]) (st' := [.int l1, .int l3, .ref 2, .int (((l3 * (24 : Int32)) + l1) * (24 : Int32)), .ref 8]) (by decide +kernel) rfl rfl ?_
    refine ab_fin.s2 (i := .iload 4) (k := 2) (pc' := 126) (lv' := [(0, .ref 2), (1, .int l1), (3, .int l3), (4, .int l4)]) (st' := [.int l4, .int l1, .int l3, .ref 2, .int (((l3 * (24 : Int32)) + l1) * (24 : Int32)), .ref 8]) (by decide +kernel) rfl rfl ?_
    refine ab_fin.q_yI (i := .invokevirtual 55) (k := 3) (y := 514) (As := [.ref 2, .int l3, .int l1, .int l4]) (rest := [.int (((l3 * (24 : Int32)) + l1) * (24 : Int32)), .ref 8]) (M' := (mX2_inRow, [])) (lv2 := [(0, .ref 2), (1, .int l3), (2, .int l1), (3, .int l4)]) (pc' := 129) (X := K) (by decide +kernel) (ab_cv rfl rfl (conc_get (σ := σ) (F.s t0_2)) ⟨(Nat.le_of_ble_eq_true rfl), (Nat.le_of_ble_eq_true rfl)⟩ rfl) rfl (Nat.le_of_ble_eq_true rfl) rfl rfl (hY_no fun E => rfl) w (fun v4 τ2 F3 w => ?_)
    refine ab_fin.s1 (i := .iadd) (k := 1) (pc' := 130) (st' := [.int ((((l3 * (24 : Int32)) + l1) * (24 : Int32)) + v4), .ref 8]) (by decide +kernel) rfl rfl ?_
    refine ab_fin.s2 (i := .iload 4) (k := 2) (pc' := 132) (lv' := [(0, .ref 2), (1, .int l1), (3, .int l3), (4, .int l4)]) (st' := [.int l4, .int ((((l3 * (24 : Int32)) + l1) * (24 : Int32)) + v4), .ref 8]) (by decide +kernel) rfl rfl ?_
    obtain ⟨e5, w⟩ := w
    refine ab_fin.q_sI (h1 := conc (τ2.wi 8 (((((l3 * (24 : Int32)) + l1) * (24 : Int32)) + v4).toNatClampNeg) l4)) (pc' := 133) (by decide +kernel) (c_sI' (F3.s t0_8) e5 rfl) rfl ?_
    refine ab_fin.q_inc (n := 4) (c := 1) (pc' := 136) (lv' := [(4, .int (l4 + 1)), (0, .ref 2), (1, .int l1), (3, .int l3)]) (by decide +kernel) (by decide) rfl rfl rfl rfl ?_
    refine ab_fin.s3 (i := .goto (-39)) (k := 3) (t := 97) (st' := []) (by decide +kernel) (ab_gto (by decide +kernel)) ?_
    exact ab_fin.lv ⟨(List.forall_mem_cons.mpr ⟨(List.Mem.tail _ (List.Mem.head _)), (List.forall_mem_cons.mpr ⟨(List.Mem.tail _ (List.Mem.tail _ (List.Mem.head _))), (List.forall_mem_cons.mpr ⟨(List.Mem.tail _ (List.Mem.tail _ (List.Mem.tail _ (List.Mem.head _)))), (List.forall_mem_cons.mpr ⟨(List.Mem.head _), (fun _ h => absurd h List.not_mem_nil)⟩)⟩)⟩)⟩), (show ([4, 0, 1, 3] : List Nat).Nodup from by decide)⟩ w
theorem T_X2_putInRow_0 {Z : zT} {d : Nat} {σ : Sg} {l1 : Int32} {l2 : Int32} {l3 : Int32} {l4 : Int32} {K : kS} (F : FX ΦC σ.sh σ.r) (w : ib ((((l1 * (24 : Int32)) + l2) * (24 : Int32)) + l3) 1728 ∧ (K (.inl none) (σ.wi 7 (((((l1 * (24 : Int32)) + l2) * (24 : Int32)) + l3).toNatClampNeg) l4))) : C_X2_putInRow_0 Z (d + 1) σ l1 l2 l3 l4 K := by
  unfold C_X2_putInRow_0
  refine ab_fin.s2 (i := .aload_n 0) (k := 1) (pc' := 1) (lv' := [(0, .ref 2), (1, .int l1), (2, .int l2), (3, .int l3), (4, .int l4)]) (st' := [.ref 2]) (by decide +kernel) rfl rfl ?_
  refine ab_fin.q_rA (b := 7) (ix := 25) (ci := 3) (k := 5) (pc' := 4) (by decide +kernel) rfl (c_rA (F.s t0_2) rfl (rC_3_5 F t0_2)) rfl ?_
  refine ab_fin.s2 (i := .iload_n 1) (k := 1) (pc' := 5) (lv' := [(0, .ref 2), (1, .int l1), (2, .int l2), (3, .int l3), (4, .int l4)]) (st' := [.int l1, .ref 7]) (by decide +kernel) rfl rfl ?_
  refine ab_fin.s1i (i := .bipush 24) (k := 2) (pc' := 7) (n := 24) (by decide +kernel) rfl (by decide +kernel) rfl ?_
  refine ab_fin.s1 (i := .imul) (k := 1) (pc' := 8) (st' := [.int (l1 * (24 : Int32)), .ref 7]) (by decide +kernel) rfl rfl ?_
  refine ab_fin.s2 (i := .iload_n 2) (k := 1) (pc' := 9) (lv' := [(0, .ref 2), (1, .int l1), (2, .int l2), (3, .int l3), (4, .int l4)]) (st' := [.int l2, .int (l1 * (24 : Int32)), .ref 7]) (by decide +kernel) rfl rfl ?_
  refine ab_fin.s1 (i := .iadd) (k := 1) (pc' := 10) (st' := [.int ((l1 * (24 : Int32)) + l2), .ref 7]) (by decide +kernel) rfl rfl ?_
  refine ab_fin.s1i (i := .bipush 24) (k := 2) (pc' := 12) (n := 24) (by decide +kernel) rfl (by decide +kernel) rfl ?_
  refine ab_fin.s1 (i := .imul) (k := 1) (pc' := 13) (st' := [.int (((l1 * (24 : Int32)) + l2) * (24 : Int32)), .ref 7]) (by decide +kernel) rfl rfl ?_
  refine ab_fin.s2 (i := .iload_n 3) (k := 1) (pc' := 14) (lv' := [(0, .ref 2), (1, .int l1), (2, .int l2), (3, .int l3), (4, .int l4)]) (st' := [.int l3, .int (((l1 * (24 : Int32)) + l2) * (24 : Int32)), .ref 7]) (by decide +kernel) rfl rfl ?_
  refine ab_fin.s1 (i := .iadd) (k := 1) (pc' := 15) (st' := [.int ((((l1 * (24 : Int32)) + l2) * (24 : Int32)) + l3), .ref 7]) (by decide +kernel) rfl rfl ?_
  refine ab_fin.s2 (i := .iload 4) (k := 2) (pc' := 17) (lv' := [(0, .ref 2), (1, .int l1), (2, .int l2), (3, .int l3), (4, .int l4)]) (st' := [.int l4, .int ((((l1 * (24 : Int32)) + l2) * (24 : Int32)) + l3), .ref 7]) (by decide +kernel) rfl rfl ?_
  obtain ⟨e1, w⟩ := w
  refine ab_fin.q_sI (h1 := conc (σ.wi 7 (((((l1 * (24 : Int32)) + l2) * (24 : Int32)) + l3).toNatClampNeg) l4)) (pc' := 18) (by decide +kernel) (c_sI' (F.s t0_7) e1 rfl) rfl ?_
  exact ab_fin.q_ret (i := .return_) (k := 1) (v := none) (by decide +kernel) rfl F w
theorem T_X2_merge_0 {Z : zT} {d : Nat} {σ : Sg} {l1 : Int32} {K : kS} (F : FX ΦC σ.sh σ.r) (w : C_J7_fill_53178_0 Z d σ 9 0 (yN K fun τ1 => C_X2_putInRow_0 Z d τ1 0 l1 0 l1 (yN K fun τ3 => C_X2_merge_18 Z (d + 1) τ3 l1 1 K))) : C_X2_merge_0 Z (d + 1) σ l1 K := by
  unfold C_X2_merge_0
  refine ab_fin.s2 (i := .aload_n 0) (k := 1) (pc' := 1) (lv' := [(0, .ref 2), (1, .int l1)]) (st' := [.ref 2]) (by decide +kernel) rfl rfl ?_
  refine ab_fin.q_rA (b := 9) (ix := 31) (ci := 3) (k := 7) (pc' := 4) (by decide +kernel) rfl (c_rA (F.s t0_2) rfl (rC_3_7 F t0_2)) rfl ?_
  refine ab_fin.s1i (i := .iconst 0) (k := 1) (pc' := 5) (n := 0) (by decide +kernel) rfl (by decide +kernel) rfl ?_
  refine ab_fin.q_yN (i := .invokestatic 59) (k := 3) (y := 11265) (As := [.ref 9, .int 0]) (rest := []) (M' := (mJ7_fill_53178, [])) (lv2 := [(0, .ref 9), (1, .int 0)]) (pc' := 8) (X := K) (by decide +kernel) (ab_cs rfl rfl ⟨(Nat.le_of_ble_eq_true rfl), (Nat.le_of_ble_eq_true rfl)⟩ rfl) rfl (Nat.le_of_ble_eq_true rfl) rfl rfl (hY_no fun E => rfl) w (fun τ1 F2 w => ?_)
  refine ab_fin.s2 (i := .aload_n 0) (k := 1) (pc' := 9) (lv' := [(0, .ref 2), (1, .int l1)]) (st' := [.ref 2]) (by decide +kernel) rfl rfl ?_
  refine ab_fin.s1i (i := .iconst 0) (k := 1) (pc' := 10) (n := 0) (by decide +kernel) rfl (by decide +kernel) rfl ?_
  refine ab_fin.s2 (i := .iload_n 1) (k := 1) (pc' := 11) (lv' := [(0, .ref 2), (1, .int l1)]) (st' := [.int l1, .int 0, .ref 2]) (by decide +kernel) rfl rfl ?_
  refine ab_fin.s1i (i := .iconst 0) (k := 1) (pc' := 12) (n := 0) (by decide +kernel) rfl (by decide +kernel) rfl ?_
  refine ab_fin.s2 (i := .iload_n 1) (k := 1) (pc' := 13) (lv' := [(0, .ref 2), (1, .int l1)]) (st' := [.int l1, .int 0, .int l1, .int 0, .ref 2]) (by decide +kernel) rfl rfl ?_
  refine ab_fin.q_yN (i := .invokevirtual 65) (k := 3) (y := 519) (As := [.ref 2, .int 0, .int l1, .int 0, .int l1]) (rest := []) (M' := (mX2_putInRow, [])) (lv2 := [(0, .ref 2), (1, .int 0), (2, .int l1), (3, .int 0), (4, .int l1)]) (pc' := 16) (X := K) (by decide +kernel) (ab_cv rfl rfl (conc_get (σ := τ1) (F2.s t0_2)) ⟨(Nat.le_of_ble_eq_true rfl), (Nat.le_of_ble_eq_true rfl)⟩ rfl) rfl (Nat.le_of_ble_eq_true rfl) rfl rfl (hY_no fun E => rfl) w (fun τ3 F4 w => ?_)
  refine ab_fin.s1i (i := .iconst 1) (k := 1) (pc' := 17) (n := 1) (by decide +kernel) rfl (by decide +kernel) rfl ?_
  refine ab_fin.s2 (i := .istore_n 2) (k := 1) (pc' := 18) (lv' := [(2, .int 1), (0, .ref 2), (1, .int l1)]) (st' := []) (by decide +kernel) rfl rfl ?_
  exact ab_fin.lv ⟨(List.forall_mem_cons.mpr ⟨(List.Mem.tail _ (List.Mem.head _)), (List.forall_mem_cons.mpr ⟨(List.Mem.tail _ (List.Mem.tail _ (List.Mem.head _))), (List.forall_mem_cons.mpr ⟨(List.Mem.head _), (fun _ h => absurd h List.not_mem_nil)⟩)⟩)⟩), (show ([2, 0, 1] : List Nat).Nodup from by decide)⟩ w
theorem T_X2_merge_18 {Z : zT} {d : Nat} {σ : Sg} {l1 : Int32} {l2 : Int32} {K : kS} (F : FX ΦC σ.sh σ.r) (w : ib l1 24 ∧ (((σ.i 5 l1.toNatClampNeg) ≤ l2 → K (.inl (some (.int 1))) σ) ∧ (¬ (σ.i 5 l1.toNatClampNeg) ≤ l2 → C_X2_firstFreeHead_0 Z d σ  (yI K fun v4 τ2 => (0 ≤ v4 → C_X2_putInRow_0 Z d τ2 0 l1 l2 v4 (yN K fun τ5 => C_X2_merge_50 Z (d + 1) τ5 l1 l2 v4 0 K)) ∧ (¬ 0 ≤ v4 → K (.inl (some (.int 0))) τ2))))) : C_X2_merge_18 Z (d + 1) σ l1 l2 K := by
  unfold C_X2_merge_18
  refine ab_fin.s2 (i := .iload_n 2) (k := 1) (pc' := 19) (lv' := [(0, .ref 2), (1, .int l1), (2, .int l2)]) (st' := [.int l2]) (by decide +kernel) rfl rfl ?_
  refine ab_fin.s2 (i := .aload_n 0) (k := 1) (pc' := 20) (lv' := [(0, .ref 2), (1, .int l1), (2, .int l2)]) (st' := [.ref 2, .int l2]) (by decide +kernel) rfl rfl ?_
  refine ab_fin.q_rA (b := 5) (ix := 19) (ci := 3) (k := 2) (pc' := 23) (by decide +kernel) rfl (c_rA (F.s t0_2) rfl (rC_3_2 F t0_2)) rfl ?_
  refine ab_fin.s2 (i := .iload_n 1) (k := 1) (pc' := 24) (lv' := [(0, .ref 2), (1, .int l1), (2, .int l2)]) (st' := [.int l1, .ref 5, .int l2]) (by decide +kernel) rfl rfl ?_
  obtain ⟨e1, w⟩ := w
  refine ab_fin.q_eI (x := (σ.i 5 l1.toNatClampNeg)) (pc' := 25) (by decide +kernel) (c_eI' (F.s t0_5) e1 rfl) rfl ?_
  refine ab_fin.br (c := (σ.i 5 l1.toNatClampNeg) ≤ l2) (i := .if_icmp .ge 90) (off := 90) (t := 115) (pc' := 28) (r := []) (by decide +kernel) rfl (by decide +kernel) rfl (fun q => ?_) (fun q => ?_)
  · replace w := w.1 q
    refine ab_fin.s1i (i := .iconst 1) (k := 1) (pc' := 116) (n := 1) (by decide +kernel) rfl (by decide +kernel) rfl ?_
    exact ab_fin.q_ret (i := .ireturn) (k := 1) (v := some (.int 1)) (by decide +kernel) rfl F w
  · replace w := w.2 q
    refine ab_fin.s2 (i := .aload_n 0) (k := 1) (pc' := 29) (lv' := [(0, .ref 2), (1, .int l1), (2, .int l2)]) (st' := [.ref 2]) (by decide +kernel) rfl rfl ?_
    refine ab_fin.q_yI (i := .invokevirtual 69) (k := 3) (y := 523) (As := [.ref 2]) (rest := []) (M' := (mX2_firstFreeHead, [])) (lv2 := [(0, .ref 2)]) (pc' := 32) (X := K) (by decide +kernel) (ab_cv rfl rfl (conc_get (σ := σ) (F.s t0_2)) ⟨(Nat.le_of_ble_eq_true rfl), (Nat.le_of_ble_eq_true rfl)⟩ rfl) rfl (Nat.le_of_ble_eq_true rfl) rfl rfl (hY_no fun E => rfl) w (fun v4 τ2 F3 w => ?_)
    refine ab_fin.s2 (i := .istore_n 3) (k := 1) (pc' := 33) (lv' := [(3, .int v4), (0, .ref 2), (1, .int l1), (2, .int l2)]) (st' := []) (by decide +kernel) rfl rfl ?_
    refine ab_fin.s2 (i := .iload_n 3) (k := 1) (pc' := 34) (lv' := [(3, .int v4), (0, .ref 2), (1, .int l1), (2, .int l2)]) (st' := [.int v4]) (by decide +kernel) rfl rfl ?_
    refine ab_fin.br (c := 0 ≤ v4) (i := .ifCond .ge 5) (off := 5) (t := 39) (pc' := 37) (r := []) (by decide +kernel) rfl (by decide +kernel) rfl (fun q => ?_) (fun q => ?_)
    · replace w := w.1 q
      refine ab_fin.s2 (i := .aload_n 0) (k := 1) (pc' := 40) (lv' := [(3, .int v4), (0, .ref 2), (1, .int l1), (2, .int l2)]) (st' := [.ref 2]) (by decide +kernel) rfl rfl ?_
      refine ab_fin.s1i (i := .iconst 0) (k := 1) (pc' := 41) (n := 0) (by decide +kernel) rfl (by decide +kernel) rfl ?_
      refine ab_fin.s2 (i := .iload_n 1) (k := 1) (pc' := 42) (lv' := [(3, .int v4), (0, .ref 2), (1, .int l1), (2, .int l2)]) (st' := [.int l1, .int 0, .ref 2]) (by decide +kernel) rfl rfl ?_
      refine ab_fin.s2 (i := .iload_n 2) (k := 1) (pc' := 43) (lv' := [(3, .int v4), (0, .ref 2), (1, .int l1), (2, .int l2)]) (st' := [.int l2, .int l1, .int 0, .ref 2]) (by decide +kernel) rfl rfl ?_
      refine ab_fin.s2 (i := .iload_n 3) (k := 1) (pc' := 44) (lv' := [(3, .int v4), (0, .ref 2), (1, .int l1), (2, .int l2)]) (st' := [.int v4, .int l2, .int l1, .int 0, .ref 2]) (by decide +kernel) rfl rfl ?_
      refine ab_fin.q_yN (i := .invokevirtual 65) (k := 3) (y := 519) (As := [.ref 2, .int 0, .int l1, .int l2, .int v4]) (rest := []) (M' := (mX2_putInRow, [])) (lv2 := [(0, .ref 2), (1, .int 0), (2, .int l1), (3, .int l2), (4, .int v4)]) (pc' := 47) (X := K) (by decide +kernel) (ab_cv rfl rfl (conc_get (σ := τ2) (F3.s t0_2)) ⟨(Nat.le_of_ble_eq_true rfl), (Nat.le_of_ble_eq_true rfl)⟩ rfl) rfl (Nat.le_of_ble_eq_true rfl) rfl rfl (hY_no fun E => rfl) w (fun τ5 F6 w => ?_)
      refine ab_fin.s1i (i := .iconst 0) (k := 1) (pc' := 48) (n := 0) (by decide +kernel) rfl (by decide +kernel) rfl ?_
      refine ab_fin.s2 (i := .istore 4) (k := 2) (pc' := 50) (lv' := [(4, .int 0), (3, .int v4), (0, .ref 2), (1, .int l1), (2, .int l2)]) (st' := []) (by decide +kernel) rfl rfl ?_
      exact ab_fin.lv ⟨(List.forall_mem_cons.mpr ⟨(List.Mem.tail _ (List.Mem.tail _ (List.Mem.head _))), (List.forall_mem_cons.mpr ⟨(List.Mem.tail _ (List.Mem.tail _ (List.Mem.tail _ (List.Mem.head _)))), (List.forall_mem_cons.mpr ⟨(List.Mem.tail _ (List.Mem.tail _ (List.Mem.tail _ (List.Mem.tail _ (List.Mem.head _))))), (List.forall_mem_cons.mpr ⟨(List.Mem.tail _ (List.Mem.head _)), (List.forall_mem_cons.mpr ⟨(List.Mem.head _), (fun _ h => absurd h List.not_mem_nil)⟩)⟩)⟩)⟩)⟩), (show ([4, 3, 0, 1, 2] : List Nat).Nodup from by decide)⟩ w
    · replace w := w.2 q
      refine ab_fin.s1i (i := .iconst 0) (k := 1) (pc' := 38) (n := 0) (by decide +kernel) rfl (by decide +kernel) rfl ?_
      exact ab_fin.q_ret (i := .ireturn) (k := 1) (v := some (.int 0)) (by decide +kernel) rfl F3 w
theorem T_X2_merge_50 {Z : zT} {d : Nat} {σ : Sg} {l1 : Int32} {l2 : Int32} {l3 : Int32} {l4 : Int32} {K : kS} (F : FX ΦC σ.sh σ.r) (w : ((σ.i 2 4) < l4 → C_X2_merge_18 Z (d + 1) σ l1 (l2 + 1) K) ∧ (¬ (σ.i 2 4) < l4 → ib l4 25 ∧ (C_X2_listLength_0 Z d σ l4 (yI K fun v4 τ2 => (v4 ≤ (σ.i 9 l4.toNatClampNeg) → C_X2_merge_50 Z (d + 1) τ2 l1 l2 l3 (l4 + 1) K) ∧ (¬ v4 ≤ (σ.i 9 l4.toNatClampNeg) → ib l4 25 ∧ (C_X2_inList_0 Z d τ2 l4 (τ2.i 9 l4.toNatClampNeg) (yI K fun v8 τ6 => (¬ v8 = l3 → C_X2_merge_50 Z (d + 1) τ6 l1 l2 l3 (l4 + 1) K) ∧ (v8 = l3 → ib l4 25 ∧ (ib l4 25 ∧ (C_X2_merge_50 Z (d + 1) (τ6.wi 9 l4.toNatClampNeg ((τ6.i 9 l4.toNatClampNeg) + (1 : Int32))) l1 l2 l3 (l4 + 1) K)))))))))) : C_X2_merge_50 Z (d + 1) σ l1 l2 l3 l4 K := by
  unfold C_X2_merge_50
  refine ab_fin.s2 (i := .iload 4) (k := 2) (pc' := 52) (lv' := [(0, .ref 2), (1, .int l1), (2, .int l2), (3, .int l3), (4, .int l4)]) (st' := [.int l4]) (by decide +kernel) rfl rfl ?_
  refine ab_fin.s2 (i := .aload_n 0) (k := 1) (pc' := 53) (lv' := [(0, .ref 2), (1, .int l1), (2, .int l2), (3, .int l3), (4, .int l4)]) (st' := [.ref 2, .int l4]) (by decide +kernel) rfl rfl ?_
  refine ab_fin.q_rI (x := (σ.i 2 4)) (ix := 34) (ci := 3) (k := 4) (pc' := 56) (by decide +kernel) rfl (c_rI (F.s t0_2) rfl) rfl ?_
  refine ab_fin.br (c := (σ.i 2 4) < l4) (i := .if_icmp .gt 53) (off := 53) (t := 109) (pc' := 59) (r := []) (by decide +kernel) rfl (by decide +kernel) rfl (fun q => ?_) (fun q => ?_)
  · replace w := w.1 q
    refine ab_fin.q_inc (n := 2) (c := 1) (pc' := 112) (lv' := [(2, .int (l2 + 1)), (0, .ref 2), (1, .int l1), (3, .int l3), (4, .int l4)]) (by decide +kernel) (by decide) rfl rfl rfl rfl ?_
    refine ab_fin.s3 (i := .goto (-94)) (k := 3) (t := 18) (st' := []) (by decide +kernel) (ab_gto (by decide +kernel)) ?_
    exact ab_fin.lv ⟨(List.forall_mem_cons.mpr ⟨(List.Mem.tail _ (List.Mem.head _)), (List.forall_mem_cons.mpr ⟨(List.Mem.tail _ (List.Mem.tail _ (List.Mem.head _))), (List.forall_mem_cons.mpr ⟨(List.Mem.head _), (fun _ h => absurd h List.not_mem_nil)⟩)⟩)⟩), (show ([2, 0, 1, 3, 4] : List Nat).Nodup from by decide)⟩ w
  · replace w := w.2 q
    refine ab_fin.s2 (i := .aload_n 0) (k := 1) (pc' := 60) (lv' := [(0, .ref 2), (1, .int l1), (2, .int l2), (3, .int l3), (4, .int l4)]) (st' := [.ref 2]) (by decide +kernel) rfl rfl ?_
    refine ab_fin.q_rA (b := 9) (ix := 31) (ci := 3) (k := 7) (pc' := 63) (by decide +kernel) rfl (c_rA (F.s t0_2) rfl (rC_3_7 F t0_2)) rfl ?_
    refine ab_fin.s2 (i := .iload 4) (k := 2) (pc' := 65) (lv' := [(0, .ref 2), (1, .int l1), (2, .int l2), (3, .int l3), (4, .int l4)]) (st' := [.int l4, .ref 9]) (by decide +kernel) rfl rfl ?_
    obtain ⟨e1, w⟩ := w
    refine ab_fin.q_eI (x := (σ.i 9 l4.toNatClampNeg)) (pc' := 66) (by decide +kernel) (c_eI' (F.s t0_9) e1 rfl) rfl ?_
    refine ab_fin.s2 (i := .aload_n 0) (k := 1) (pc' := 67) (lv' := [(0, .ref 2), (1, .int l1), (2, .int l2), (3, .int l3), (4, .int l4)]) (st' := [.ref 2, .int (σ.i 9 l4.toNatClampNeg)]) (by decide +kernel) rfl rfl ?_
    refine ab_fin.s2 (i := .iload 4) (k := 2) (pc' := 69) (lv' := [(0, .ref 2), (1, .int l1), (2, .int l2), (3, .int l3), (4, .int l4)]) (st' := [.int l4, .ref 2, .int (σ.i 9 l4.toNatClampNeg)]) (by decide +kernel) rfl rfl ?_
    refine ab_fin.q_yI (i := .invokevirtual 73) (k := 3) (y := 521) (As := [.ref 2, .int l4]) (rest := [.int (σ.i 9 l4.toNatClampNeg)]) (M' := (mX2_listLength, [])) (lv2 := [(0, .ref 2), (1, .int l4)]) (pc' := 72) (X := K) (by decide +kernel) (ab_cv rfl rfl (conc_get (σ := σ) (F.s t0_2)) ⟨(Nat.le_of_ble_eq_true rfl), (Nat.le_of_ble_eq_true rfl)⟩ rfl) rfl (Nat.le_of_ble_eq_true rfl) rfl rfl (hY_no fun E => rfl) w (fun v4 τ2 F3 w => ?_)
    refine ab_fin.br (c := v4 ≤ (σ.i 9 l4.toNatClampNeg)) (i := .if_icmp .ge 31) (off := 31) (t := 103) (pc' := 75) (r := []) (by decide +kernel) rfl (by decide +kernel) rfl (fun q => ?_) (fun q => ?_)
    · replace w := w.1 q
      refine ab_fin.q_inc (n := 4) (c := 1) (pc' := 106) (lv' := [(4, .int (l4 + 1)), (0, .ref 2), (1, .int l1), (2, .int l2), (3, .int l3)]) (by decide +kernel) (by decide) rfl rfl rfl rfl ?_
      refine ab_fin.s3 (i := .goto (-56)) (k := 3) (t := 50) (st' := []) (by decide +kernel) (ab_gto (by decide +kernel)) ?_
      exact ab_fin.lv ⟨(List.forall_mem_cons.mpr ⟨(List.Mem.tail _ (List.Mem.head _)), (List.forall_mem_cons.mpr ⟨(List.Mem.tail _ (List.Mem.tail _ (List.Mem.head _))), (List.forall_mem_cons.mpr ⟨(List.Mem.tail _ (List.Mem.tail _ (List.Mem.tail _ (List.Mem.head _)))), (List.forall_mem_cons.mpr ⟨(List.Mem.tail _ (List.Mem.tail _ (List.Mem.tail _ (List.Mem.tail _ (List.Mem.head _))))), (List.forall_mem_cons.mpr ⟨(List.Mem.head _), (fun _ h => absurd h List.not_mem_nil)⟩)⟩)⟩)⟩)⟩), (show ([4, 0, 1, 2, 3] : List Nat).Nodup from by decide)⟩ w
    · replace w := w.2 q
      refine ab_fin.s2 (i := .aload_n 0) (k := 1) (pc' := 76) (lv' := [(0, .ref 2), (1, .int l1), (2, .int l2), (3, .int l3), (4, .int l4)]) (st' := [.ref 2]) (by decide +kernel) rfl rfl ?_
      refine ab_fin.s2 (i := .iload 4) (k := 2) (pc' := 78) (lv' := [(0, .ref 2), (1, .int l1), (2, .int l2), (3, .int l3), (4, .int l4)]) (st' := [.int l4, .ref 2]) (by decide +kernel) rfl rfl ?_
      refine ab_fin.s2 (i := .aload_n 0) (k := 1) (pc' := 79) (lv' := [(0, .ref 2), (1, .int l1), (2, .int l2), (3, .int l3), (4, .int l4)]) (st' := [.ref 2, .int l4, .ref 2]) (by decide +kernel) rfl rfl ?_
      refine ab_fin.q_rA (b := 9) (ix := 31) (ci := 3) (k := 7) (pc' := 82) (by decide +kernel) rfl (c_rA (F3.s t0_2) rfl (rC_3_7 F3 t0_2)) rfl ?_
      refine ab_fin.s2 (i := .iload 4) (k := 2) (pc' := 84) (lv' := [(0, .ref 2), (1, .int l1), (2, .int l2), (3, .int l3), (4, .int l4)]) (st' := [.int l4, .ref 9, .int l4, .ref 2]) (by decide +kernel) rfl rfl ?_
      obtain ⟨e5, w⟩ := w
      refine ab_fin.q_eI (x := (τ2.i 9 l4.toNatClampNeg)) (pc' := 85) (by decide +kernel) (c_eI' (F3.s t0_9) e5 rfl) rfl ?_
      refine ab_fin.q_yI (i := .invokevirtual 76) (k := 3) (y := 522) (As := [.ref 2, .int l4, .int (τ2.i 9 l4.toNatClampNeg)]) (rest := []) (M' := (mX2_inList, [])) (lv2 := [(0, .ref 2), (1, .int l4), (2, .int (τ2.i 9 l4.toNatClampNeg))]) (pc' := 88) (X := K) (by decide +kernel) (ab_cv rfl rfl (conc_get (σ := τ2) (F3.s t0_2)) ⟨(Nat.le_of_ble_eq_true rfl), (Nat.le_of_ble_eq_true rfl)⟩ rfl) rfl (Nat.le_of_ble_eq_true rfl) rfl rfl (hY_no fun E => rfl) w (fun v8 τ6 F7 w => ?_)
      refine ab_fin.s2 (i := .iload_n 3) (k := 1) (pc' := 89) (lv' := [(0, .ref 2), (1, .int l1), (2, .int l2), (3, .int l3), (4, .int l4)]) (st' := [.int l3, .int v8]) (by decide +kernel) rfl rfl ?_
      refine ab_fin.br (c := ¬ v8 = l3) (i := .if_icmp .ne 14) (off := 14) (t := 103) (pc' := 92) (r := []) (by decide +kernel) rfl (by decide +kernel) rfl (fun q => ?_) (fun q => ?_)
      · replace w := w.1 q
        refine ab_fin.q_inc (n := 4) (c := 1) (pc' := 106) (lv' := [(4, .int (l4 + 1)), (0, .ref 2), (1, .int l1), (2, .int l2), (3, .int l3)]) (by decide +kernel) (by decide) rfl rfl rfl rfl ?_
        refine ab_fin.s3 (i := .goto (-56)) (k := 3) (t := 50) (st' := []) (by decide +kernel) (ab_gto (by decide +kernel)) ?_
        exact ab_fin.lv ⟨(List.forall_mem_cons.mpr ⟨(List.Mem.tail _ (List.Mem.head _)), (List.forall_mem_cons.mpr ⟨(List.Mem.tail _ (List.Mem.tail _ (List.Mem.head _))), (List.forall_mem_cons.mpr ⟨(List.Mem.tail _ (List.Mem.tail _ (List.Mem.tail _ (List.Mem.head _)))), (List.forall_mem_cons.mpr ⟨(List.Mem.tail _ (List.Mem.tail _ (List.Mem.tail _ (List.Mem.tail _ (List.Mem.head _))))), (List.forall_mem_cons.mpr ⟨(List.Mem.head _), (fun _ h => absurd h List.not_mem_nil)⟩)⟩)⟩)⟩)⟩), (show ([4, 0, 1, 2, 3] : List Nat).Nodup from by decide)⟩ w
      · replace w := w.2 (Decidable.of_not_not q)
        refine ab_fin.s2 (i := .aload_n 0) (k := 1) (pc' := 93) (lv' := [(0, .ref 2), (1, .int l1), (2, .int l2), (3, .int l3), (4, .int l4)]) (st' := [.ref 2]) (by decide +kernel) rfl rfl ?_
        refine ab_fin.q_rA (b := 9) (ix := 31) (ci := 3) (k := 7) (pc' := 96) (by decide +kernel) rfl (c_rA (F7.s t0_2) rfl (rC_3_7 F7 t0_2)) rfl ?_
        refine ab_fin.s2 (i := .iload 4) (k := 2) (pc' := 98) (lv' := [(0, .ref 2), (1, .int l1), (2, .int l2), (3, .int l3), (4, .int l4)]) (st' := [.int l4, .ref 9]) (by decide +kernel) rfl rfl ?_
        refine ab_fin.s1 (i := .dup2) (k := 1) (pc' := 99) (st' := [.int l4, .ref 9, .int l4, .ref 9]) (by decide +kernel) rfl rfl ?_
        obtain ⟨e9, w⟩ := w
        refine ab_fin.q_eI (x := (τ6.i 9 l4.toNatClampNeg)) (pc' := 100) (by decide +kernel) (c_eI' (F7.s t0_9) e9 rfl) rfl ?_
        refine ab_fin.s1i (i := .iconst 1) (k := 1) (pc' := 101) (n := 1) (by decide +kernel) rfl (by decide +kernel) rfl ?_
        refine ab_fin.s1 (i := .iadd) (k := 1) (pc' := 102) (st' := [.int ((τ6.i 9 l4.toNatClampNeg) + (1 : Int32)), .int l4, .ref 9]) (by decide +kernel) rfl rfl ?_
        obtain ⟨e10, w⟩ := w
        refine ab_fin.q_sI (h1 := conc (τ6.wi 9 l4.toNatClampNeg ((τ6.i 9 l4.toNatClampNeg) + (1 : Int32)))) (pc' := 103) (by decide +kernel) (c_sI' (F7.s t0_9) e10 rfl) rfl ?_
        refine ab_fin.q_inc (n := 4) (c := 1) (pc' := 106) (lv' := [(4, .int (l4 + 1)), (0, .ref 2), (1, .int l1), (2, .int l2), (3, .int l3)]) (by decide +kernel) (by decide) rfl rfl rfl rfl ?_
        refine ab_fin.s3 (i := .goto (-56)) (k := 3) (t := 50) (st' := []) (by decide +kernel) (ab_gto (by decide +kernel)) ?_
        exact ab_fin.lv ⟨(List.forall_mem_cons.mpr ⟨(List.Mem.tail _ (List.Mem.head _)), (List.forall_mem_cons.mpr ⟨(List.Mem.tail _ (List.Mem.tail _ (List.Mem.head _))), (List.forall_mem_cons.mpr ⟨(List.Mem.tail _ (List.Mem.tail _ (List.Mem.tail _ (List.Mem.head _)))), (List.forall_mem_cons.mpr ⟨(List.Mem.tail _ (List.Mem.tail _ (List.Mem.tail _ (List.Mem.tail _ (List.Mem.head _))))), (List.forall_mem_cons.mpr ⟨(List.Mem.head _), (fun _ h => absurd h List.not_mem_nil)⟩)⟩)⟩)⟩)⟩), (show ([4, 0, 1, 2, 3] : List Nat).Nodup from by decide)⟩ w
theorem T_X2_listLength_0 {Z : zT} {d : Nat} {σ : Sg} {l1 : Int32} {K : kS} (F : FX ΦC σ.sh σ.r) (w : ((σ.i 2 4) ≤ l1 → K (.inl (some (.int (σ.i 2 4)))) σ) ∧ (¬ (σ.i 2 4) ≤ l1 → ib l1 24 ∧ (ib (σ.i 6 l1.toNatClampNeg) 24 ∧ (K (.inl (some (.int (σ.i 5 ((σ.i 6 l1.toNatClampNeg).toNatClampNeg))))) σ)))) : C_X2_listLength_0 Z (d + 1) σ l1 K := by
  unfold C_X2_listLength_0
  refine ab_fin.s2 (i := .iload_n 1) (k := 1) (pc' := 1) (lv' := [(0, .ref 2), (1, .int l1)]) (st' := [.int l1]) (by decide +kernel) rfl rfl ?_
  refine ab_fin.s2 (i := .aload_n 0) (k := 1) (pc' := 2) (lv' := [(0, .ref 2), (1, .int l1)]) (st' := [.ref 2, .int l1]) (by decide +kernel) rfl rfl ?_
  refine ab_fin.q_rI (x := (σ.i 2 4)) (ix := 34) (ci := 3) (k := 4) (pc' := 5) (by decide +kernel) rfl (c_rI (F.s t0_2) rfl) rfl ?_
  refine ab_fin.br (c := (σ.i 2 4) ≤ l1) (i := .if_icmp .ge 17) (off := 17) (t := 22) (pc' := 8) (r := []) (by decide +kernel) rfl (by decide +kernel) rfl (fun q => ?_) (fun q => ?_)
  · replace w := w.1 q
    refine ab_fin.s2 (i := .aload_n 0) (k := 1) (pc' := 23) (lv' := [(0, .ref 2), (1, .int l1)]) (st' := [.ref 2]) (by decide +kernel) rfl rfl ?_
    refine ab_fin.q_rI (x := (σ.i 2 4)) (ix := 34) (ci := 3) (k := 4) (pc' := 26) (by decide +kernel) rfl (c_rI (F.s t0_2) rfl) rfl ?_
    exact ab_fin.q_ret (i := .ireturn) (k := 1) (v := some (.int (σ.i 2 4))) (by decide +kernel) rfl F w
  · replace w := w.2 q
    refine ab_fin.s2 (i := .aload_n 0) (k := 1) (pc' := 9) (lv' := [(0, .ref 2), (1, .int l1)]) (st' := [.ref 2]) (by decide +kernel) rfl rfl ?_
    refine ab_fin.q_rA (b := 5) (ix := 19) (ci := 3) (k := 2) (pc' := 12) (by decide +kernel) rfl (c_rA (F.s t0_2) rfl (rC_3_2 F t0_2)) rfl ?_
    refine ab_fin.s2 (i := .aload_n 0) (k := 1) (pc' := 13) (lv' := [(0, .ref 2), (1, .int l1)]) (st' := [.ref 2, .ref 5]) (by decide +kernel) rfl rfl ?_
    refine ab_fin.q_rA (b := 6) (ix := 22) (ci := 3) (k := 3) (pc' := 16) (by decide +kernel) rfl (c_rA (F.s t0_2) rfl (rC_3_3 F t0_2)) rfl ?_
    refine ab_fin.s2 (i := .iload_n 1) (k := 1) (pc' := 17) (lv' := [(0, .ref 2), (1, .int l1)]) (st' := [.int l1, .ref 6, .ref 5]) (by decide +kernel) rfl rfl ?_
    obtain ⟨e1, w⟩ := w
    refine ab_fin.q_eI (x := (σ.i 6 l1.toNatClampNeg)) (pc' := 18) (by decide +kernel) (c_eI' (F.s t0_6) e1 rfl) rfl ?_
    obtain ⟨e2, w⟩ := w
    refine ab_fin.q_eI (x := (σ.i 5 ((σ.i 6 l1.toNatClampNeg).toNatClampNeg))) (pc' := 19) (by decide +kernel) (c_eI' (F.s t0_5) e2 rfl) rfl ?_
    refine ab_fin.s3 (i := .goto 7) (k := 3) (t := 26) (st' := [.int (σ.i 5 ((σ.i 6 l1.toNatClampNeg).toNatClampNeg))]) (by decide +kernel) (ab_gto (by decide +kernel)) ?_
    exact ab_fin.q_ret (i := .ireturn) (k := 1) (v := some (.int (σ.i 5 ((σ.i 6 l1.toNatClampNeg).toNatClampNeg)))) (by decide +kernel) rfl F w
theorem T_X2_inList_0 {Z : zT} {d : Nat} {σ : Sg} {l1 : Int32} {l2 : Int32} {K : kS} (F : FX ΦC σ.sh σ.r) (w : ((σ.i 2 4) ≤ l1 → ib l2 24 ∧ (K (.inl (some (.int (σ.i 6 l2.toNatClampNeg)))) σ)) ∧ (¬ (σ.i 2 4) ≤ l1 → ib l1 24 ∧ (ib (((σ.i 6 l1.toNatClampNeg) * (24 : Int32)) + l2) 1728 ∧ (K (.inl (some (.int (σ.i 7 ((((σ.i 6 l1.toNatClampNeg) * (24 : Int32)) + l2).toNatClampNeg))))) σ)))) : C_X2_inList_0 Z (d + 1) σ l1 l2 K := by
  unfold C_X2_inList_0
  refine ab_fin.s2 (i := .iload_n 1) (k := 1) (pc' := 1) (lv' := [(0, .ref 2), (1, .int l1), (2, .int l2)]) (st' := [.int l1]) (by decide +kernel) rfl rfl ?_
  refine ab_fin.s2 (i := .aload_n 0) (k := 1) (pc' := 2) (lv' := [(0, .ref 2), (1, .int l1), (2, .int l2)]) (st' := [.ref 2, .int l1]) (by decide +kernel) rfl rfl ?_
  refine ab_fin.q_rI (x := (σ.i 2 4)) (ix := 34) (ci := 3) (k := 4) (pc' := 5) (by decide +kernel) rfl (c_rI (F.s t0_2) rfl) rfl ?_
  refine ab_fin.br (c := (σ.i 2 4) ≤ l1) (i := .if_icmp .ge 22) (off := 22) (t := 27) (pc' := 8) (r := []) (by decide +kernel) rfl (by decide +kernel) rfl (fun q => ?_) (fun q => ?_)
  · replace w := w.1 q
    refine ab_fin.s2 (i := .aload_n 0) (k := 1) (pc' := 28) (lv' := [(0, .ref 2), (1, .int l1), (2, .int l2)]) (st' := [.ref 2]) (by decide +kernel) rfl rfl ?_
    refine ab_fin.q_rA (b := 6) (ix := 22) (ci := 3) (k := 3) (pc' := 31) (by decide +kernel) rfl (c_rA (F.s t0_2) rfl (rC_3_3 F t0_2)) rfl ?_
    refine ab_fin.s2 (i := .iload_n 2) (k := 1) (pc' := 32) (lv' := [(0, .ref 2), (1, .int l1), (2, .int l2)]) (st' := [.int l2, .ref 6]) (by decide +kernel) rfl rfl ?_
    obtain ⟨e1, w⟩ := w
    refine ab_fin.q_eI (x := (σ.i 6 l2.toNatClampNeg)) (pc' := 33) (by decide +kernel) (c_eI' (F.s t0_6) e1 rfl) rfl ?_
    exact ab_fin.q_ret (i := .ireturn) (k := 1) (v := some (.int (σ.i 6 l2.toNatClampNeg))) (by decide +kernel) rfl F w
  · replace w := w.2 q
    refine ab_fin.s2 (i := .aload_n 0) (k := 1) (pc' := 9) (lv' := [(0, .ref 2), (1, .int l1), (2, .int l2)]) (st' := [.ref 2]) (by decide +kernel) rfl rfl ?_
    refine ab_fin.q_rA (b := 7) (ix := 25) (ci := 3) (k := 5) (pc' := 12) (by decide +kernel) rfl (c_rA (F.s t0_2) rfl (rC_3_5 F t0_2)) rfl ?_
    refine ab_fin.s2 (i := .aload_n 0) (k := 1) (pc' := 13) (lv' := [(0, .ref 2), (1, .int l1), (2, .int l2)]) (st' := [.ref 2, .ref 7]) (by decide +kernel) rfl rfl ?_
    refine ab_fin.q_rA (b := 6) (ix := 22) (ci := 3) (k := 3) (pc' := 16) (by decide +kernel) rfl (c_rA (F.s t0_2) rfl (rC_3_3 F t0_2)) rfl ?_
    refine ab_fin.s2 (i := .iload_n 1) (k := 1) (pc' := 17) (lv' := [(0, .ref 2), (1, .int l1), (2, .int l2)]) (st' := [.int l1, .ref 6, .ref 7]) (by decide +kernel) rfl rfl ?_
    obtain ⟨e2, w⟩ := w
    refine ab_fin.q_eI (x := (σ.i 6 l1.toNatClampNeg)) (pc' := 18) (by decide +kernel) (c_eI' (F.s t0_6) e2 rfl) rfl ?_
    refine ab_fin.s1i (i := .bipush 24) (k := 2) (pc' := 20) (n := 24) (by decide +kernel) rfl (by decide +kernel) rfl ?_
    refine ab_fin.s1 (i := .imul) (k := 1) (pc' := 21) (st' := [.int ((σ.i 6 l1.toNatClampNeg) * (24 : Int32)), .ref 7]) (by decide +kernel) rfl rfl ?_
    refine ab_fin.s2 (i := .iload_n 2) (k := 1) (pc' := 22) (lv' := [(0, .ref 2), (1, .int l1), (2, .int l2)]) (st' := [.int l2, .int ((σ.i 6 l1.toNatClampNeg) * (24 : Int32)), .ref 7]) (by decide +kernel) rfl rfl ?_
    refine ab_fin.s1 (i := .iadd) (k := 1) (pc' := 23) (st' := [.int (((σ.i 6 l1.toNatClampNeg) * (24 : Int32)) + l2), .ref 7]) (by decide +kernel) rfl rfl ?_
    obtain ⟨e3, w⟩ := w
    refine ab_fin.q_eI (x := (σ.i 7 ((((σ.i 6 l1.toNatClampNeg) * (24 : Int32)) + l2).toNatClampNeg))) (pc' := 24) (by decide +kernel) (c_eI' (F.s t0_7) e3 rfl) rfl ?_
    refine ab_fin.s3 (i := .goto 9) (k := 3) (t := 33) (st' := [.int (σ.i 7 ((((σ.i 6 l1.toNatClampNeg) * (24 : Int32)) + l2).toNatClampNeg))]) (by decide +kernel) (ab_gto (by decide +kernel)) ?_
    exact ab_fin.q_ret (i := .ireturn) (k := 1) (v := some (.int (σ.i 7 ((((σ.i 6 l1.toNatClampNeg) * (24 : Int32)) + l2).toNatClampNeg)))) (by decide +kernel) rfl F w
theorem T_X2_firstFreeHead_0 {Z : zT} {d : Nat} {σ : Sg}  {K : kS} (F : FX ΦC σ.sh σ.r) (w : C_X2_firstFreeHead_2 Z (d + 1) σ 0 K) : C_X2_firstFreeHead_0 Z (d + 1) σ  K := by
  unfold C_X2_firstFreeHead_0
  refine ab_fin.s1i (i := .iconst 0) (k := 1) (pc' := 1) (n := 0) (by decide +kernel) rfl (by decide +kernel) rfl ?_
  refine ab_fin.s2 (i := .istore_n 1) (k := 1) (pc' := 2) (lv' := [(1, .int 0), (0, .ref 2)]) (st' := []) (by decide +kernel) rfl rfl ?_
  exact ab_fin.lv ⟨(List.forall_mem_cons.mpr ⟨(List.Mem.tail _ (List.Mem.head _)), (List.forall_mem_cons.mpr ⟨(List.Mem.head _), (fun _ h => absurd h List.not_mem_nil)⟩)⟩), (show ([1, 0] : List Nat).Nodup from by decide)⟩ w
theorem T_X2_firstFreeHead_2 {Z : zT} {d : Nat} {σ : Sg} {l1 : Int32} {K : kS} (F : FX ΦC σ.sh σ.r) (w : ((σ.i 2 4) < l1 → K (.inl (some (.int (-1)))) σ) ∧ (¬ (σ.i 2 4) < l1 → ib l1 25 ∧ (C_X2_listLength_0 Z d σ l1 (yI K fun v4 τ2 => (v4 ≤ (σ.i 9 l1.toNatClampNeg) → C_X2_firstFreeHead_2 Z (d + 1) τ2 (l1 + 1) K) ∧ (¬ v4 ≤ (σ.i 9 l1.toNatClampNeg) → ib l1 25 ∧ (C_X2_inList_0 Z d τ2 l1 (τ2.i 9 l1.toNatClampNeg) (yI K fun v8 τ6 => C_X2_isBehindAHead_0 Z d τ6 v8 (yI K fun v11 τ9 => (¬ v11 = 0 → C_X2_firstFreeHead_2 Z (d + 1) τ9 (l1 + 1) K) ∧ (v11 = 0 → K (.inl (some (.int v8))) τ9))))))))) : C_X2_firstFreeHead_2 Z (d + 1) σ l1 K := by
  unfold C_X2_firstFreeHead_2
  refine ab_fin.s2 (i := .iload_n 1) (k := 1) (pc' := 3) (lv' := [(0, .ref 2), (1, .int l1)]) (st' := [.int l1]) (by decide +kernel) rfl rfl ?_
  refine ab_fin.s2 (i := .aload_n 0) (k := 1) (pc' := 4) (lv' := [(0, .ref 2), (1, .int l1)]) (st' := [.ref 2, .int l1]) (by decide +kernel) rfl rfl ?_
  refine ab_fin.q_rI (x := (σ.i 2 4)) (ix := 34) (ci := 3) (k := 4) (pc' := 7) (by decide +kernel) rfl (c_rI (F.s t0_2) rfl) rfl ?_
  refine ab_fin.br (c := (σ.i 2 4) < l1) (i := .if_icmp .gt 45) (off := 45) (t := 52) (pc' := 10) (r := []) (by decide +kernel) rfl (by decide +kernel) rfl (fun q => ?_) (fun q => ?_)
  · replace w := w.1 q
    refine ab_fin.s1i (i := .iconst (-1)) (k := 1) (pc' := 53) (n := (-1)) (by decide +kernel) rfl (by decide +kernel) rfl ?_
    exact ab_fin.q_ret (i := .ireturn) (k := 1) (v := some (.int (-1))) (by decide +kernel) rfl F w
  · replace w := w.2 q
    refine ab_fin.s2 (i := .aload_n 0) (k := 1) (pc' := 11) (lv' := [(0, .ref 2), (1, .int l1)]) (st' := [.ref 2]) (by decide +kernel) rfl rfl ?_
    refine ab_fin.q_rA (b := 9) (ix := 31) (ci := 3) (k := 7) (pc' := 14) (by decide +kernel) rfl (c_rA (F.s t0_2) rfl (rC_3_7 F t0_2)) rfl ?_
    refine ab_fin.s2 (i := .iload_n 1) (k := 1) (pc' := 15) (lv' := [(0, .ref 2), (1, .int l1)]) (st' := [.int l1, .ref 9]) (by decide +kernel) rfl rfl ?_
    obtain ⟨e1, w⟩ := w
    refine ab_fin.q_eI (x := (σ.i 9 l1.toNatClampNeg)) (pc' := 16) (by decide +kernel) (c_eI' (F.s t0_9) e1 rfl) rfl ?_
    refine ab_fin.s2 (i := .aload_n 0) (k := 1) (pc' := 17) (lv' := [(0, .ref 2), (1, .int l1)]) (st' := [.ref 2, .int (σ.i 9 l1.toNatClampNeg)]) (by decide +kernel) rfl rfl ?_
    refine ab_fin.s2 (i := .iload_n 1) (k := 1) (pc' := 18) (lv' := [(0, .ref 2), (1, .int l1)]) (st' := [.int l1, .ref 2, .int (σ.i 9 l1.toNatClampNeg)]) (by decide +kernel) rfl rfl ?_
    refine ab_fin.q_yI (i := .invokevirtual 73) (k := 3) (y := 521) (As := [.ref 2, .int l1]) (rest := [.int (σ.i 9 l1.toNatClampNeg)]) (M' := (mX2_listLength, [])) (lv2 := [(0, .ref 2), (1, .int l1)]) (pc' := 21) (X := K) (by decide +kernel) (ab_cv rfl rfl (conc_get (σ := σ) (F.s t0_2)) ⟨(Nat.le_of_ble_eq_true rfl), (Nat.le_of_ble_eq_true rfl)⟩ rfl) rfl (Nat.le_of_ble_eq_true rfl) rfl rfl (hY_no fun E => rfl) w (fun v4 τ2 F3 w => ?_)
    refine ab_fin.br (c := v4 ≤ (σ.i 9 l1.toNatClampNeg)) (i := .if_icmp .ge 25) (off := 25) (t := 46) (pc' := 24) (r := []) (by decide +kernel) rfl (by decide +kernel) rfl (fun q => ?_) (fun q => ?_)
    · replace w := w.1 q
      refine ab_fin.q_inc (n := 1) (c := 1) (pc' := 49) (lv' := [(1, .int (l1 + 1)), (0, .ref 2)]) (by decide +kernel) (by decide) rfl rfl rfl rfl ?_
      refine ab_fin.s3 (i := .goto (-47)) (k := 3) (t := 2) (st' := []) (by decide +kernel) (ab_gto (by decide +kernel)) ?_
      exact ab_fin.lv ⟨(List.forall_mem_cons.mpr ⟨(List.Mem.tail _ (List.Mem.head _)), (List.forall_mem_cons.mpr ⟨(List.Mem.head _), (fun _ h => absurd h List.not_mem_nil)⟩)⟩), (show ([1, 0] : List Nat).Nodup from by decide)⟩ w
    · replace w := w.2 q
      refine ab_fin.s2 (i := .aload_n 0) (k := 1) (pc' := 25) (lv' := [(0, .ref 2), (1, .int l1)]) (st' := [.ref 2]) (by decide +kernel) rfl rfl ?_
      refine ab_fin.s2 (i := .iload_n 1) (k := 1) (pc' := 26) (lv' := [(0, .ref 2), (1, .int l1)]) (st' := [.int l1, .ref 2]) (by decide +kernel) rfl rfl ?_
      refine ab_fin.s2 (i := .aload_n 0) (k := 1) (pc' := 27) (lv' := [(0, .ref 2), (1, .int l1)]) (st' := [.ref 2, .int l1, .ref 2]) (by decide +kernel) rfl rfl ?_
      refine ab_fin.q_rA (b := 9) (ix := 31) (ci := 3) (k := 7) (pc' := 30) (by decide +kernel) rfl (c_rA (F3.s t0_2) rfl (rC_3_7 F3 t0_2)) rfl ?_
      refine ab_fin.s2 (i := .iload_n 1) (k := 1) (pc' := 31) (lv' := [(0, .ref 2), (1, .int l1)]) (st' := [.int l1, .ref 9, .int l1, .ref 2]) (by decide +kernel) rfl rfl ?_
      obtain ⟨e5, w⟩ := w
      refine ab_fin.q_eI (x := (τ2.i 9 l1.toNatClampNeg)) (pc' := 32) (by decide +kernel) (c_eI' (F3.s t0_9) e5 rfl) rfl ?_
      refine ab_fin.q_yI (i := .invokevirtual 76) (k := 3) (y := 522) (As := [.ref 2, .int l1, .int (τ2.i 9 l1.toNatClampNeg)]) (rest := []) (M' := (mX2_inList, [])) (lv2 := [(0, .ref 2), (1, .int l1), (2, .int (τ2.i 9 l1.toNatClampNeg))]) (pc' := 35) (X := K) (by decide +kernel) (ab_cv rfl rfl (conc_get (σ := τ2) (F3.s t0_2)) ⟨(Nat.le_of_ble_eq_true rfl), (Nat.le_of_ble_eq_true rfl)⟩ rfl) rfl (Nat.le_of_ble_eq_true rfl) rfl rfl (hY_no fun E => rfl) w (fun v8 τ6 F7 w => ?_)
      refine ab_fin.s2 (i := .istore_n 2) (k := 1) (pc' := 36) (lv' := [(2, .int v8), (0, .ref 2), (1, .int l1)]) (st' := []) (by decide +kernel) rfl rfl ?_
      refine ab_fin.s2 (i := .aload_n 0) (k := 1) (pc' := 37) (lv' := [(2, .int v8), (0, .ref 2), (1, .int l1)]) (st' := [.ref 2]) (by decide +kernel) rfl rfl ?_
      refine ab_fin.s2 (i := .iload_n 2) (k := 1) (pc' := 38) (lv' := [(2, .int v8), (0, .ref 2), (1, .int l1)]) (st' := [.int v8, .ref 2]) (by decide +kernel) rfl rfl ?_
      refine ab_fin.q_yI (i := .invokevirtual 80) (k := 3) (y := 524) (As := [.ref 2, .int v8]) (rest := []) (M' := (mX2_isBehindAHead, [])) (lv2 := [(0, .ref 2), (1, .int v8)]) (pc' := 41) (X := K) (by decide +kernel) (ab_cv rfl rfl (conc_get (σ := τ6) (F7.s t0_2)) ⟨(Nat.le_of_ble_eq_true rfl), (Nat.le_of_ble_eq_true rfl)⟩ rfl) rfl (Nat.le_of_ble_eq_true rfl) rfl rfl (hY_no fun E => rfl) w (fun v11 τ9 F10 w => ?_)
      refine ab_fin.br (c := ¬ v11 = 0) (i := .ifCond .ne 5) (off := 5) (t := 46) (pc' := 44) (r := []) (by decide +kernel) rfl (by decide +kernel) rfl (fun q => ?_) (fun q => ?_)
      · replace w := w.1 q
        refine ab_fin.q_inc (n := 1) (c := 1) (pc' := 49) (lv' := [(1, .int (l1 + 1)), (2, .int v8), (0, .ref 2)]) (by decide +kernel) (by decide) rfl rfl rfl rfl ?_
        refine ab_fin.s3 (i := .goto (-47)) (k := 3) (t := 2) (st' := []) (by decide +kernel) (ab_gto (by decide +kernel)) ?_
        exact ab_fin.lv ⟨(List.forall_mem_cons.mpr ⟨(List.Mem.tail _ (List.Mem.tail _ (List.Mem.head _))), (List.forall_mem_cons.mpr ⟨(List.Mem.head _), (fun _ h => absurd h List.not_mem_nil)⟩)⟩), (show ([1, 2, 0] : List Nat).Nodup from by decide)⟩ w
      · replace w := w.2 (Decidable.of_not_not q)
        refine ab_fin.s2 (i := .iload_n 2) (k := 1) (pc' := 45) (lv' := [(2, .int v8), (0, .ref 2), (1, .int l1)]) (st' := [.int v8]) (by decide +kernel) rfl rfl ?_
        exact ab_fin.q_ret (i := .ireturn) (k := 1) (v := some (.int v8)) (by decide +kernel) rfl F10 w
theorem T_X2_isBehindAHead_0 {Z : zT} {d : Nat} {σ : Sg} {l1 : Int32} {K : kS} (F : FX ΦC σ.sh σ.r) (w : C_X2_isBehindAHead_2 Z (d + 1) σ l1 0 K) : C_X2_isBehindAHead_0 Z (d + 1) σ l1 K := by
  unfold C_X2_isBehindAHead_0
  refine ab_fin.s1i (i := .iconst 0) (k := 1) (pc' := 1) (n := 0) (by decide +kernel) rfl (by decide +kernel) rfl ?_
  refine ab_fin.s2 (i := .istore_n 2) (k := 1) (pc' := 2) (lv' := [(2, .int 0), (0, .ref 2), (1, .int l1)]) (st' := []) (by decide +kernel) rfl rfl ?_
  exact ab_fin.lv ⟨(List.forall_mem_cons.mpr ⟨(List.Mem.tail _ (List.Mem.head _)), (List.forall_mem_cons.mpr ⟨(List.Mem.tail _ (List.Mem.tail _ (List.Mem.head _))), (List.forall_mem_cons.mpr ⟨(List.Mem.head _), (fun _ h => absurd h List.not_mem_nil)⟩)⟩)⟩), (show ([2, 0, 1] : List Nat).Nodup from by decide)⟩ w
theorem T_X2_isBehindAHead_2 {Z : zT} {d : Nat} {σ : Sg} {l1 : Int32} {l2 : Int32} {K : kS} (F : FX ΦC σ.sh σ.r) (w : ((σ.i 2 4) < l2 → K (.inl (some (.int 0))) σ) ∧ (¬ (σ.i 2 4) < l2 → ib l2 25 ∧ (C_X2_isBehindAHead_19 Z (d + 1) σ l1 l2 ((σ.i 9 l2.toNatClampNeg) + (1 : Int32)) K))) : C_X2_isBehindAHead_2 Z (d + 1) σ l1 l2 K := by
  unfold C_X2_isBehindAHead_2
  refine ab_fin.s2 (i := .iload_n 2) (k := 1) (pc' := 3) (lv' := [(0, .ref 2), (1, .int l1), (2, .int l2)]) (st' := [.int l2]) (by decide +kernel) rfl rfl ?_
  refine ab_fin.s2 (i := .aload_n 0) (k := 1) (pc' := 4) (lv' := [(0, .ref 2), (1, .int l1), (2, .int l2)]) (st' := [.ref 2, .int l2]) (by decide +kernel) rfl rfl ?_
  refine ab_fin.q_rI (x := (σ.i 2 4)) (ix := 34) (ci := 3) (k := 4) (pc' := 7) (by decide +kernel) rfl (c_rI (F.s t0_2) rfl) rfl ?_
  refine ab_fin.br (c := (σ.i 2 4) < l2) (i := .if_icmp .gt 45) (off := 45) (t := 52) (pc' := 10) (r := []) (by decide +kernel) rfl (by decide +kernel) rfl (fun q => ?_) (fun q => ?_)
  · replace w := w.1 q
    refine ab_fin.s1i (i := .iconst 0) (k := 1) (pc' := 53) (n := 0) (by decide +kernel) rfl (by decide +kernel) rfl ?_
    exact ab_fin.q_ret (i := .ireturn) (k := 1) (v := some (.int 0)) (by decide +kernel) rfl F w
  · replace w := w.2 q
    refine ab_fin.s2 (i := .aload_n 0) (k := 1) (pc' := 11) (lv' := [(0, .ref 2), (1, .int l1), (2, .int l2)]) (st' := [.ref 2]) (by decide +kernel) rfl rfl ?_
    refine ab_fin.q_rA (b := 9) (ix := 31) (ci := 3) (k := 7) (pc' := 14) (by decide +kernel) rfl (c_rA (F.s t0_2) rfl (rC_3_7 F t0_2)) rfl ?_
    refine ab_fin.s2 (i := .iload_n 2) (k := 1) (pc' := 15) (lv' := [(0, .ref 2), (1, .int l1), (2, .int l2)]) (st' := [.int l2, .ref 9]) (by decide +kernel) rfl rfl ?_
    obtain ⟨e1, w⟩ := w
    refine ab_fin.q_eI (x := (σ.i 9 l2.toNatClampNeg)) (pc' := 16) (by decide +kernel) (c_eI' (F.s t0_9) e1 rfl) rfl ?_
    refine ab_fin.s1i (i := .iconst 1) (k := 1) (pc' := 17) (n := 1) (by decide +kernel) rfl (by decide +kernel) rfl ?_
    refine ab_fin.s1 (i := .iadd) (k := 1) (pc' := 18) (st' := [.int ((σ.i 9 l2.toNatClampNeg) + (1 : Int32))]) (by decide +kernel) rfl rfl ?_
    refine ab_fin.s2 (i := .istore_n 3) (k := 1) (pc' := 19) (lv' := [(3, .int ((σ.i 9 l2.toNatClampNeg) + (1 : Int32))), (0, .ref 2), (1, .int l1), (2, .int l2)]) (st' := []) (by decide +kernel) rfl rfl ?_
    exact ab_fin.lv ⟨(List.forall_mem_cons.mpr ⟨(List.Mem.tail _ (List.Mem.head _)), (List.forall_mem_cons.mpr ⟨(List.Mem.tail _ (List.Mem.tail _ (List.Mem.head _))), (List.forall_mem_cons.mpr ⟨(List.Mem.tail _ (List.Mem.tail _ (List.Mem.tail _ (List.Mem.head _)))), (List.forall_mem_cons.mpr ⟨(List.Mem.head _), (fun _ h => absurd h List.not_mem_nil)⟩)⟩)⟩)⟩), (show ([3, 0, 1, 2] : List Nat).Nodup from by decide)⟩ w
theorem T_X2_isBehindAHead_19 {Z : zT} {d : Nat} {σ : Sg} {l1 : Int32} {l2 : Int32} {l3 : Int32} {K : kS} (F : FX ΦC σ.sh σ.r) (w : C_X2_listLength_0 Z d σ l2 (yI K fun v3 τ1 => (v3 ≤ l3 → C_X2_isBehindAHead_2 Z (d + 1) τ1 l1 (l2 + 1) K) ∧ (¬ v3 ≤ l3 → C_X2_inList_0 Z d τ1 l2 l3 (yI K fun v6 τ4 => (¬ v6 = l1 → C_X2_isBehindAHead_19 Z (d + 1) τ4 l1 l2 (l3 + 1) K) ∧ (v6 = l1 → K (.inl (some (.int 1))) τ4))))) : C_X2_isBehindAHead_19 Z (d + 1) σ l1 l2 l3 K := by
  unfold C_X2_isBehindAHead_19
  refine ab_fin.s2 (i := .iload_n 3) (k := 1) (pc' := 20) (lv' := [(0, .ref 2), (1, .int l1), (2, .int l2), (3, .int l3)]) (st' := [.int l3]) (by decide +kernel) rfl rfl ?_
  refine ab_fin.s2 (i := .aload_n 0) (k := 1) (pc' := 21) (lv' := [(0, .ref 2), (1, .int l1), (2, .int l2), (3, .int l3)]) (st' := [.ref 2, .int l3]) (by decide +kernel) rfl rfl ?_
  refine ab_fin.s2 (i := .iload_n 2) (k := 1) (pc' := 22) (lv' := [(0, .ref 2), (1, .int l1), (2, .int l2), (3, .int l3)]) (st' := [.int l2, .ref 2, .int l3]) (by decide +kernel) rfl rfl ?_
  refine ab_fin.q_yI (i := .invokevirtual 73) (k := 3) (y := 521) (As := [.ref 2, .int l2]) (rest := [.int l3]) (M' := (mX2_listLength, [])) (lv2 := [(0, .ref 2), (1, .int l2)]) (pc' := 25) (X := K) (by decide +kernel) (ab_cv rfl rfl (conc_get (σ := σ) (F.s t0_2)) ⟨(Nat.le_of_ble_eq_true rfl), (Nat.le_of_ble_eq_true rfl)⟩ rfl) rfl (Nat.le_of_ble_eq_true rfl) rfl rfl (hY_no fun E => rfl) w (fun v3 τ1 F2 w => ?_)
  refine ab_fin.br (c := v3 ≤ l3) (i := .if_icmp .ge 21) (off := 21) (t := 46) (pc' := 28) (r := []) (by decide +kernel) rfl (by decide +kernel) rfl (fun q => ?_) (fun q => ?_)
  · replace w := w.1 q
    refine ab_fin.q_inc (n := 2) (c := 1) (pc' := 49) (lv' := [(2, .int (l2 + 1)), (0, .ref 2), (1, .int l1), (3, .int l3)]) (by decide +kernel) (by decide) rfl rfl rfl rfl ?_
    refine ab_fin.s3 (i := .goto (-47)) (k := 3) (t := 2) (st' := []) (by decide +kernel) (ab_gto (by decide +kernel)) ?_
    exact ab_fin.lv ⟨(List.forall_mem_cons.mpr ⟨(List.Mem.tail _ (List.Mem.head _)), (List.forall_mem_cons.mpr ⟨(List.Mem.tail _ (List.Mem.tail _ (List.Mem.head _))), (List.forall_mem_cons.mpr ⟨(List.Mem.head _), (fun _ h => absurd h List.not_mem_nil)⟩)⟩)⟩), (show ([2, 0, 1, 3] : List Nat).Nodup from by decide)⟩ w
  · replace w := w.2 q
    refine ab_fin.s2 (i := .aload_n 0) (k := 1) (pc' := 29) (lv' := [(0, .ref 2), (1, .int l1), (2, .int l2), (3, .int l3)]) (st' := [.ref 2]) (by decide +kernel) rfl rfl ?_
    refine ab_fin.s2 (i := .iload_n 2) (k := 1) (pc' := 30) (lv' := [(0, .ref 2), (1, .int l1), (2, .int l2), (3, .int l3)]) (st' := [.int l2, .ref 2]) (by decide +kernel) rfl rfl ?_
    refine ab_fin.s2 (i := .iload_n 3) (k := 1) (pc' := 31) (lv' := [(0, .ref 2), (1, .int l1), (2, .int l2), (3, .int l3)]) (st' := [.int l3, .int l2, .ref 2]) (by decide +kernel) rfl rfl ?_
    refine ab_fin.q_yI (i := .invokevirtual 76) (k := 3) (y := 522) (As := [.ref 2, .int l2, .int l3]) (rest := []) (M' := (mX2_inList, [])) (lv2 := [(0, .ref 2), (1, .int l2), (2, .int l3)]) (pc' := 34) (X := K) (by decide +kernel) (ab_cv rfl rfl (conc_get (σ := τ1) (F2.s t0_2)) ⟨(Nat.le_of_ble_eq_true rfl), (Nat.le_of_ble_eq_true rfl)⟩ rfl) rfl (Nat.le_of_ble_eq_true rfl) rfl rfl (hY_no fun E => rfl) w (fun v6 τ4 F5 w => ?_)
    refine ab_fin.s2 (i := .iload_n 1) (k := 1) (pc' := 35) (lv' := [(0, .ref 2), (1, .int l1), (2, .int l2), (3, .int l3)]) (st' := [.int l1, .int v6]) (by decide +kernel) rfl rfl ?_
    refine ab_fin.br (c := ¬ v6 = l1) (i := .if_icmp .ne 5) (off := 5) (t := 40) (pc' := 38) (r := []) (by decide +kernel) rfl (by decide +kernel) rfl (fun q => ?_) (fun q => ?_)
    · replace w := w.1 q
      refine ab_fin.q_inc (n := 3) (c := 1) (pc' := 43) (lv' := [(3, .int (l3 + 1)), (0, .ref 2), (1, .int l1), (2, .int l2)]) (by decide +kernel) (by decide) rfl rfl rfl rfl ?_
      refine ab_fin.s3 (i := .goto (-24)) (k := 3) (t := 19) (st' := []) (by decide +kernel) (ab_gto (by decide +kernel)) ?_
      exact ab_fin.lv ⟨(List.forall_mem_cons.mpr ⟨(List.Mem.tail _ (List.Mem.head _)), (List.forall_mem_cons.mpr ⟨(List.Mem.tail _ (List.Mem.tail _ (List.Mem.head _))), (List.forall_mem_cons.mpr ⟨(List.Mem.tail _ (List.Mem.tail _ (List.Mem.tail _ (List.Mem.head _)))), (List.forall_mem_cons.mpr ⟨(List.Mem.head _), (fun _ h => absurd h List.not_mem_nil)⟩)⟩)⟩)⟩), (show ([3, 0, 1, 2] : List Nat).Nodup from by decide)⟩ w
    · replace w := w.2 (Decidable.of_not_not q)
      refine ab_fin.s1i (i := .iconst 1) (k := 1) (pc' := 39) (n := 1) (by decide +kernel) rfl (by decide +kernel) rfl ?_
      exact ab_fin.q_ret (i := .ireturn) (k := 1) (v := some (.int 1)) (by decide +kernel) rfl F5 w
theorem T_X2_joinByFirst_0 {Z : zT} {d : Nat} {σ : Sg} {l1 : Int32} {K : kS} (F : FX ΦC σ.sh σ.r) (w : C_X2_putInRow_0 Z d σ 1 l1 0 l1 (yN K fun τ1 => C_X2_joinByFirst_17 Z (d + 1) τ1 l1 ((1 : Int32) <<< (l1 &&& 31)) 1 0 K)) : C_X2_joinByFirst_0 Z (d + 1) σ l1 K := by
  unfold C_X2_joinByFirst_0
  refine ab_fin.s2 (i := .aload_n 0) (k := 1) (pc' := 1) (lv' := [(0, .ref 2), (1, .int l1)]) (st' := [.ref 2]) (by decide +kernel) rfl rfl ?_
  refine ab_fin.s1i (i := .iconst 1) (k := 1) (pc' := 2) (n := 1) (by decide +kernel) rfl (by decide +kernel) rfl ?_
  refine ab_fin.s2 (i := .iload_n 1) (k := 1) (pc' := 3) (lv' := [(0, .ref 2), (1, .int l1)]) (st' := [.int l1, .int 1, .ref 2]) (by decide +kernel) rfl rfl ?_
  refine ab_fin.s1i (i := .iconst 0) (k := 1) (pc' := 4) (n := 0) (by decide +kernel) rfl (by decide +kernel) rfl ?_
  refine ab_fin.s2 (i := .iload_n 1) (k := 1) (pc' := 5) (lv' := [(0, .ref 2), (1, .int l1)]) (st' := [.int l1, .int 0, .int l1, .int 1, .ref 2]) (by decide +kernel) rfl rfl ?_
  refine ab_fin.q_yN (i := .invokevirtual 65) (k := 3) (y := 519) (As := [.ref 2, .int 1, .int l1, .int 0, .int l1]) (rest := []) (M' := (mX2_putInRow, [])) (lv2 := [(0, .ref 2), (1, .int 1), (2, .int l1), (3, .int 0), (4, .int l1)]) (pc' := 8) (X := K) (by decide +kernel) (ab_cv rfl rfl (conc_get (σ := σ) (F.s t0_2)) ⟨(Nat.le_of_ble_eq_true rfl), (Nat.le_of_ble_eq_true rfl)⟩ rfl) rfl (Nat.le_of_ble_eq_true rfl) rfl rfl (hY_no fun E => rfl) w (fun τ1 F2 w => ?_)
  refine ab_fin.s1i (i := .iconst 1) (k := 1) (pc' := 9) (n := 1) (by decide +kernel) rfl (by decide +kernel) rfl ?_
  refine ab_fin.s2 (i := .iload_n 1) (k := 1) (pc' := 10) (lv' := [(0, .ref 2), (1, .int l1)]) (st' := [.int l1, .int 1]) (by decide +kernel) rfl rfl ?_
  refine ab_fin.s1 (i := .ishl) (k := 1) (pc' := 11) (st' := [.int ((1 : Int32) <<< (l1 &&& 31))]) (by decide +kernel) rfl rfl ?_
  refine ab_fin.s2 (i := .istore_n 2) (k := 1) (pc' := 12) (lv' := [(2, .int ((1 : Int32) <<< (l1 &&& 31))), (0, .ref 2), (1, .int l1)]) (st' := []) (by decide +kernel) rfl rfl ?_
  refine ab_fin.s1i (i := .iconst 1) (k := 1) (pc' := 13) (n := 1) (by decide +kernel) rfl (by decide +kernel) rfl ?_
  refine ab_fin.s2 (i := .istore_n 3) (k := 1) (pc' := 14) (lv' := [(3, .int 1), (2, .int ((1 : Int32) <<< (l1 &&& 31))), (0, .ref 2), (1, .int l1)]) (st' := []) (by decide +kernel) rfl rfl ?_
  refine ab_fin.s1i (i := .iconst 0) (k := 1) (pc' := 15) (n := 0) (by decide +kernel) rfl (by decide +kernel) rfl ?_
  refine ab_fin.s2 (i := .istore 4) (k := 2) (pc' := 17) (lv' := [(4, .int 0), (3, .int 1), (2, .int ((1 : Int32) <<< (l1 &&& 31))), (0, .ref 2), (1, .int l1)]) (st' := []) (by decide +kernel) rfl rfl ?_
  exact ab_fin.lv ⟨(List.forall_mem_cons.mpr ⟨(List.Mem.tail _ (List.Mem.tail _ (List.Mem.tail _ (List.Mem.head _)))), (List.forall_mem_cons.mpr ⟨(List.Mem.tail _ (List.Mem.tail _ (List.Mem.tail _ (List.Mem.tail _ (List.Mem.head _))))), (List.forall_mem_cons.mpr ⟨(List.Mem.tail _ (List.Mem.tail _ (List.Mem.head _))), (List.forall_mem_cons.mpr ⟨(List.Mem.tail _ (List.Mem.head _)), (List.forall_mem_cons.mpr ⟨(List.Mem.head _), (fun _ h => absurd h List.not_mem_nil)⟩)⟩)⟩)⟩)⟩), (show ([4, 3, 2, 0, 1] : List Nat).Nodup from by decide)⟩ w
theorem T_X2_joinByFirst_17 {Z : zT} {d : Nat} {σ : Sg} {l1 : Int32} {l2 : Int32} {l3 : Int32} {l4 : Int32} {K : kS} (F : FX ΦC σ.sh σ.r) (w : ((σ.i 2 4) ≤ l4 → K (.inl none) σ) ∧ (¬ (σ.i 2 4) ≤ l4 → C_X2_joinByFirst_29 Z (d + 1) σ l1 l2 l3 l4 0 K)) : C_X2_joinByFirst_17 Z (d + 1) σ l1 l2 l3 l4 K := by
  unfold C_X2_joinByFirst_17
  refine ab_fin.s2 (i := .iload 4) (k := 2) (pc' := 19) (lv' := [(0, .ref 2), (1, .int l1), (2, .int l2), (3, .int l3), (4, .int l4)]) (st' := [.int l4]) (by decide +kernel) rfl rfl ?_
  refine ab_fin.s2 (i := .aload_n 0) (k := 1) (pc' := 20) (lv' := [(0, .ref 2), (1, .int l1), (2, .int l2), (3, .int l3), (4, .int l4)]) (st' := [.ref 2, .int l4]) (by decide +kernel) rfl rfl ?_
  refine ab_fin.q_rI (x := (σ.i 2 4)) (ix := 34) (ci := 3) (k := 4) (pc' := 23) (by decide +kernel) rfl (c_rI (F.s t0_2) rfl) rfl ?_
  refine ab_fin.br (c := (σ.i 2 4) ≤ l4) (i := .if_icmp .ge 79) (off := 79) (t := 102) (pc' := 26) (r := []) (by decide +kernel) rfl (by decide +kernel) rfl (fun q => ?_) (fun q => ?_)
  · replace w := w.1 q
    exact ab_fin.q_ret (i := .return_) (k := 1) (v := none) (by decide +kernel) rfl F w
  · replace w := w.2 q
    refine ab_fin.s1i (i := .iconst 0) (k := 1) (pc' := 27) (n := 0) (by decide +kernel) rfl (by decide +kernel) rfl ?_
    refine ab_fin.s2 (i := .istore 5) (k := 2) (pc' := 29) (lv' := [(5, .int 0), (0, .ref 2), (1, .int l1), (2, .int l2), (3, .int l3), (4, .int l4)]) (st' := []) (by decide +kernel) rfl rfl ?_
    exact ab_fin.lv ⟨(List.forall_mem_cons.mpr ⟨(List.Mem.tail _ (List.Mem.head _)), (List.forall_mem_cons.mpr ⟨(List.Mem.tail _ (List.Mem.tail _ (List.Mem.head _))), (List.forall_mem_cons.mpr ⟨(List.Mem.tail _ (List.Mem.tail _ (List.Mem.tail _ (List.Mem.head _)))), (List.forall_mem_cons.mpr ⟨(List.Mem.tail _ (List.Mem.tail _ (List.Mem.tail _ (List.Mem.tail _ (List.Mem.head _))))), (List.forall_mem_cons.mpr ⟨(List.Mem.tail _ (List.Mem.tail _ (List.Mem.tail _ (List.Mem.tail _ (List.Mem.tail _ (List.Mem.head _)))))), (List.forall_mem_cons.mpr ⟨(List.Mem.head _), (fun _ h => absurd h List.not_mem_nil)⟩)⟩)⟩)⟩)⟩)⟩), (show ([5, 0, 1, 2, 3, 4] : List Nat).Nodup from by decide)⟩ w
theorem T_X2_joinByFirst_29 {Z : zT} {d : Nat} {σ : Sg} {l1 : Int32} {l2 : Int32} {l3 : Int32} {l4 : Int32} {l5 : Int32} {K : kS} (F : FX ΦC σ.sh σ.r) (w : ib l4 24 ∧ (ib (σ.i 6 l4.toNatClampNeg) 24 ∧ (((σ.i 5 ((σ.i 6 l4.toNatClampNeg).toNatClampNeg)) ≤ l5 → C_X2_joinByFirst_17 Z (d + 1) σ l1 l2 l3 (l4 + 1) K) ∧ (¬ (σ.i 5 ((σ.i 6 l4.toNatClampNeg).toNatClampNeg)) ≤ l5 → ib l4 24 ∧ (C_X2_inRow_0 Z d σ 1 (σ.i 6 l4.toNatClampNeg) l5 (yI K fun v6 τ4 => (¬ ((l2 >>> (v6 &&& 31)) &&& (1 : Int32)) = 0 → C_X2_joinByFirst_29 Z (d + 1) τ4 l1 l2 l3 l4 (l5 + 1) K) ∧ (((l2 >>> (v6 &&& 31)) &&& (1 : Int32)) = 0 → C_X2_putInRow_0 Z d τ4 1 l1 l3 v6 (yN K fun τ7 => C_X2_joinByFirst_29 Z (d + 1) τ7 l1 (l2 ||| ((1 : Int32) <<< (v6 &&& 31))) (l3 + 1) l4 (l5 + 1) K)))))))) : C_X2_joinByFirst_29 Z (d + 1) σ l1 l2 l3 l4 l5 K := by
  unfold C_X2_joinByFirst_29
  refine ab_fin.s2 (i := .iload 5) (k := 2) (pc' := 31) (lv' := [(0, .ref 2), (1, .int l1), (2, .int l2), (3, .int l3), (4, .int l4), (5, .int l5)]) (st' := [.int l5]) (by decide +kernel) rfl rfl ?_
  refine ab_fin.s2 (i := .aload_n 0) (k := 1) (pc' := 32) (lv' := [(0, .ref 2), (1, .int l1), (2, .int l2), (3, .int l3), (4, .int l4), (5, .int l5)]) (st' := [.ref 2, .int l5]) (by decide +kernel) rfl rfl ?_
  refine ab_fin.q_rA (b := 5) (ix := 19) (ci := 3) (k := 2) (pc' := 35) (by decide +kernel) rfl (c_rA (F.s t0_2) rfl (rC_3_2 F t0_2)) rfl ?_
  refine ab_fin.s2 (i := .aload_n 0) (k := 1) (pc' := 36) (lv' := [(0, .ref 2), (1, .int l1), (2, .int l2), (3, .int l3), (4, .int l4), (5, .int l5)]) (st' := [.ref 2, .ref 5, .int l5]) (by decide +kernel) rfl rfl ?_
  refine ab_fin.q_rA (b := 6) (ix := 22) (ci := 3) (k := 3) (pc' := 39) (by decide +kernel) rfl (c_rA (F.s t0_2) rfl (rC_3_3 F t0_2)) rfl ?_
  refine ab_fin.s2 (i := .iload 4) (k := 2) (pc' := 41) (lv' := [(0, .ref 2), (1, .int l1), (2, .int l2), (3, .int l3), (4, .int l4), (5, .int l5)]) (st' := [.int l4, .ref 6, .ref 5, .int l5]) (by decide +kernel) rfl rfl ?_
  obtain ⟨e1, w⟩ := w
  refine ab_fin.q_eI (x := (σ.i 6 l4.toNatClampNeg)) (pc' := 42) (by decide +kernel) (c_eI' (F.s t0_6) e1 rfl) rfl ?_
  obtain ⟨e2, w⟩ := w
  refine ab_fin.q_eI (x := (σ.i 5 ((σ.i 6 l4.toNatClampNeg).toNatClampNeg))) (pc' := 43) (by decide +kernel) (c_eI' (F.s t0_5) e2 rfl) rfl ?_
  refine ab_fin.br (c := (σ.i 5 ((σ.i 6 l4.toNatClampNeg).toNatClampNeg)) ≤ l5) (i := .if_icmp .ge 53) (off := 53) (t := 96) (pc' := 46) (r := []) (by decide +kernel) rfl (by decide +kernel) rfl (fun q => ?_) (fun q => ?_)
  · replace w := w.1 q
    refine ab_fin.q_inc (n := 4) (c := 1) (pc' := 99) (lv' := [(4, .int (l4 + 1)), (0, .ref 2), (1, .int l1), (2, .int l2), (3, .int l3), (5, .int l5)]) (by decide +kernel) (by decide) rfl rfl rfl rfl ?_
    refine ab_fin.s3 (i := .goto (-82)) (k := 3) (t := 17) (st' := []) (by decide +kernel) (ab_gto (by decide +kernel)) ?_
    exact ab_fin.lv ⟨(List.forall_mem_cons.mpr ⟨(List.Mem.tail _ (List.Mem.head _)), (List.forall_mem_cons.mpr ⟨(List.Mem.tail _ (List.Mem.tail _ (List.Mem.head _))), (List.forall_mem_cons.mpr ⟨(List.Mem.tail _ (List.Mem.tail _ (List.Mem.tail _ (List.Mem.head _)))), (List.forall_mem_cons.mpr ⟨(List.Mem.tail _ (List.Mem.tail _ (List.Mem.tail _ (List.Mem.tail _ (List.Mem.head _))))), (List.forall_mem_cons.mpr ⟨(List.Mem.head _), (fun _ h => absurd h List.not_mem_nil)⟩)⟩)⟩)⟩)⟩), (show ([4, 0, 1, 2, 3, 5] : List Nat).Nodup from by decide)⟩ w
  · replace w := w.2 q
    refine ab_fin.s2 (i := .aload_n 0) (k := 1) (pc' := 47) (lv' := [(0, .ref 2), (1, .int l1), (2, .int l2), (3, .int l3), (4, .int l4), (5, .int l5)]) (st' := [.ref 2]) (by decide +kernel) rfl rfl ?_
    refine ab_fin.s1i (i := .iconst 1) (k := 1) (pc' := 48) (n := 1) (by decide +kernel) rfl (by decide +kernel) rfl ?_
    refine ab_fin.s2 (i := .aload_n 0) (k := 1) (pc' := 49) (lv' := [(0, .ref 2), (1, .int l1), (2, .int l2), (3, .int l3), (4, .int l4), (5, .int l5)]) (st' := [.ref 2, .int 1, .ref 2]) (by decide +kernel) rfl rfl ?_
    refine ab_fin.q_rA (b := 6) (ix := 22) (ci := 3) (k := 3) (pc' := 52) (by decide +kernel) rfl (c_rA (F.s t0_2) rfl (rC_3_3 F t0_2)) rfl ?_
    refine ab_fin.s2 (i := .iload 4) (k := 2) (pc' := 54) (lv' := [(0, .ref 2), (1, .int l1), (2, .int l2), (3, .int l3), (4, .int l4), (5, .int l5)]) (st' := [.int l4, .ref 6, .int 1, .ref 2]) (by decide +kernel) rfl rfl ?_
    obtain ⟨e3, w⟩ := w
    refine ab_fin.q_eI (x := (σ.i 6 l4.toNatClampNeg)) (pc' := 55) (by decide +kernel) (c_eI' (F.s t0_6) e3 rfl) rfl ?_
    refine ab_fin.s2 (i := .iload 5) (k := 2) (pc' := 57) (lv' := [(0, .ref 2), (1, .int l1), (2, .int l2), (3, .int l3), (4, .int l4), (5, .int l5)]) (st' := [.int l5, .int (σ.i 6 l4.toNatClampNeg), .int 1, .ref 2]) (by decide +kernel) rfl rfl ?_
    refine ab_fin.q_yI (i := .invokevirtual 55) (k := 3) (y := 514) (As := [.ref 2, .int 1, .int (σ.i 6 l4.toNatClampNeg), .int l5]) (rest := []) (M' := (mX2_inRow, [])) (lv2 := [(0, .ref 2), (1, .int 1), (2, .int (σ.i 6 l4.toNatClampNeg)), (3, .int l5)]) (pc' := 60) (X := K) (by decide +kernel) (ab_cv rfl rfl (conc_get (σ := σ) (F.s t0_2)) ⟨(Nat.le_of_ble_eq_true rfl), (Nat.le_of_ble_eq_true rfl)⟩ rfl) rfl (Nat.le_of_ble_eq_true rfl) rfl rfl (hY_no fun E => rfl) w (fun v6 τ4 F5 w => ?_)
    refine ab_fin.s2 (i := .istore 6) (k := 2) (pc' := 62) (lv' := [(6, .int v6), (0, .ref 2), (1, .int l1), (2, .int l2), (3, .int l3), (4, .int l4), (5, .int l5)]) (st' := []) (by decide +kernel) rfl rfl ?_
    refine ab_fin.s2 (i := .iload_n 2) (k := 1) (pc' := 63) (lv' := [(6, .int v6), (0, .ref 2), (1, .int l1), (2, .int l2), (3, .int l3), (4, .int l4), (5, .int l5)]) (st' := [.int l2]) (by decide +kernel) rfl rfl ?_
    refine ab_fin.s2 (i := .iload 6) (k := 2) (pc' := 65) (lv' := [(6, .int v6), (0, .ref 2), (1, .int l1), (2, .int l2), (3, .int l3), (4, .int l4), (5, .int l5)]) (st' := [.int v6, .int l2]) (by decide +kernel) rfl rfl ?_
    refine ab_fin.s1 (i := .ishr) (k := 1) (pc' := 66) (st' := [.int (l2 >>> (v6 &&& 31))]) (by decide +kernel) rfl rfl ?_
    refine ab_fin.s1i (i := .iconst 1) (k := 1) (pc' := 67) (n := 1) (by decide +kernel) rfl (by decide +kernel) rfl ?_
    refine ab_fin.s1 (i := .iand) (k := 1) (pc' := 68) (st' := [.int ((l2 >>> (v6 &&& 31)) &&& (1 : Int32))]) (by decide +kernel) rfl rfl ?_
    refine ab_fin.br (c := ¬ ((l2 >>> (v6 &&& 31)) &&& (1 : Int32)) = 0) (i := .ifCond .ne 22) (off := 22) (t := 90) (pc' := 71) (r := []) (by decide +kernel) rfl (by decide +kernel) rfl (fun q => ?_) (fun q => ?_)
    · replace w := w.1 q
      refine ab_fin.q_inc (n := 5) (c := 1) (pc' := 93) (lv' := [(5, .int (l5 + 1)), (6, .int v6), (0, .ref 2), (1, .int l1), (2, .int l2), (3, .int l3), (4, .int l4)]) (by decide +kernel) (by decide) rfl rfl rfl rfl ?_
      refine ab_fin.s3 (i := .goto (-64)) (k := 3) (t := 29) (st' := []) (by decide +kernel) (ab_gto (by decide +kernel)) ?_
      exact ab_fin.lv ⟨(List.forall_mem_cons.mpr ⟨(List.Mem.tail _ (List.Mem.tail _ (List.Mem.head _))), (List.forall_mem_cons.mpr ⟨(List.Mem.tail _ (List.Mem.tail _ (List.Mem.tail _ (List.Mem.head _)))), (List.forall_mem_cons.mpr ⟨(List.Mem.tail _ (List.Mem.tail _ (List.Mem.tail _ (List.Mem.tail _ (List.Mem.head _))))), (List.forall_mem_cons.mpr ⟨(List.Mem.tail _ (List.Mem.tail _ (List.Mem.tail _ (List.Mem.tail _ (List.Mem.tail _ (List.Mem.head _)))))), (List.forall_mem_cons.mpr ⟨(List.Mem.tail _ (List.Mem.tail _ (List.Mem.tail _ (List.Mem.tail _ (List.Mem.tail _ (List.Mem.tail _ (List.Mem.head _))))))), (List.forall_mem_cons.mpr ⟨(List.Mem.head _), (fun _ h => absurd h List.not_mem_nil)⟩)⟩)⟩)⟩)⟩)⟩), (show ([5, 6, 0, 1, 2, 3, 4] : List Nat).Nodup from by decide)⟩ w
    · replace w := w.2 (Decidable.of_not_not q)
      refine ab_fin.s2 (i := .iload_n 2) (k := 1) (pc' := 72) (lv' := [(6, .int v6), (0, .ref 2), (1, .int l1), (2, .int l2), (3, .int l3), (4, .int l4), (5, .int l5)]) (st' := [.int l2]) (by decide +kernel) rfl rfl ?_
      refine ab_fin.s1i (i := .iconst 1) (k := 1) (pc' := 73) (n := 1) (by decide +kernel) rfl (by decide +kernel) rfl ?_
      refine ab_fin.s2 (i := .iload 6) (k := 2) (pc' := 75) (lv' := [(6, .int v6), (0, .ref 2), (1, .int l1), (2, .int l2), (3, .int l3), (4, .int l4), (5, .int l5)]) (st' := [.int v6, .int 1, .int l2]) (by decide +kernel) rfl rfl ?_
      refine ab_fin.s1 (i := .ishl) (k := 1) (pc' := 76) (st' := [.int ((1 : Int32) <<< (v6 &&& 31)), .int l2]) (by decide +kernel) rfl rfl ?_
      refine ab_fin.s1 (i := .ior) (k := 1) (pc' := 77) (st' := [.int (l2 ||| ((1 : Int32) <<< (v6 &&& 31)))]) (by decide +kernel) rfl rfl ?_
      refine ab_fin.s2 (i := .istore_n 2) (k := 1) (pc' := 78) (lv' := [(2, .int (l2 ||| ((1 : Int32) <<< (v6 &&& 31)))), (6, .int v6), (0, .ref 2), (1, .int l1), (3, .int l3), (4, .int l4), (5, .int l5)]) (st' := []) (by decide +kernel) rfl rfl ?_
      refine ab_fin.s2 (i := .aload_n 0) (k := 1) (pc' := 79) (lv' := [(2, .int (l2 ||| ((1 : Int32) <<< (v6 &&& 31)))), (6, .int v6), (0, .ref 2), (1, .int l1), (3, .int l3), (4, .int l4), (5, .int l5)]) (st' := [.ref 2]) (by decide +kernel) rfl rfl ?_
      refine ab_fin.s1i (i := .iconst 1) (k := 1) (pc' := 80) (n := 1) (by decide +kernel) rfl (by decide +kernel) rfl ?_
      refine ab_fin.s2 (i := .iload_n 1) (k := 1) (pc' := 81) (lv' := [(2, .int (l2 ||| ((1 : Int32) <<< (v6 &&& 31)))), (6, .int v6), (0, .ref 2), (1, .int l1), (3, .int l3), (4, .int l4), (5, .int l5)]) (st' := [.int l1, .int 1, .ref 2]) (by decide +kernel) rfl rfl ?_
      refine ab_fin.s2 (i := .iload_n 3) (k := 1) (pc' := 82) (lv' := [(2, .int (l2 ||| ((1 : Int32) <<< (v6 &&& 31)))), (6, .int v6), (0, .ref 2), (1, .int l1), (3, .int l3), (4, .int l4), (5, .int l5)]) (st' := [.int l3, .int l1, .int 1, .ref 2]) (by decide +kernel) rfl rfl ?_
      refine ab_fin.s2 (i := .iload 6) (k := 2) (pc' := 84) (lv' := [(2, .int (l2 ||| ((1 : Int32) <<< (v6 &&& 31)))), (6, .int v6), (0, .ref 2), (1, .int l1), (3, .int l3), (4, .int l4), (5, .int l5)]) (st' := [.int v6, .int l3, .int l1, .int 1, .ref 2]) (by decide +kernel) rfl rfl ?_
      refine ab_fin.q_yN (i := .invokevirtual 65) (k := 3) (y := 519) (As := [.ref 2, .int 1, .int l1, .int l3, .int v6]) (rest := []) (M' := (mX2_putInRow, [])) (lv2 := [(0, .ref 2), (1, .int 1), (2, .int l1), (3, .int l3), (4, .int v6)]) (pc' := 87) (X := K) (by decide +kernel) (ab_cv rfl rfl (conc_get (σ := τ4) (F5.s t0_2)) ⟨(Nat.le_of_ble_eq_true rfl), (Nat.le_of_ble_eq_true rfl)⟩ rfl) rfl (Nat.le_of_ble_eq_true rfl) rfl rfl (hY_no fun E => rfl) w (fun τ7 F8 w => ?_)
      refine ab_fin.q_inc (n := 3) (c := 1) (pc' := 90) (lv' := [(3, .int (l3 + 1)), (2, .int (l2 ||| ((1 : Int32) <<< (v6 &&& 31)))), (6, .int v6), (0, .ref 2), (1, .int l1), (4, .int l4), (5, .int l5)]) (by decide +kernel) (by decide) rfl rfl rfl rfl ?_
      refine ab_fin.q_inc (n := 5) (c := 1) (pc' := 93) (lv' := [(5, .int (l5 + 1)), (3, .int (l3 + 1)), (2, .int (l2 ||| ((1 : Int32) <<< (v6 &&& 31)))), (6, .int v6), (0, .ref 2), (1, .int l1), (4, .int l4)]) (by decide +kernel) (by decide) rfl rfl rfl rfl ?_
      refine ab_fin.s3 (i := .goto (-64)) (k := 3) (t := 29) (st' := []) (by decide +kernel) (ab_gto (by decide +kernel)) ?_
      exact ab_fin.lv ⟨(List.forall_mem_cons.mpr ⟨(List.Mem.tail _ (List.Mem.tail _ (List.Mem.tail _ (List.Mem.tail _ (List.Mem.head _))))), (List.forall_mem_cons.mpr ⟨(List.Mem.tail _ (List.Mem.tail _ (List.Mem.tail _ (List.Mem.tail _ (List.Mem.tail _ (List.Mem.head _)))))), (List.forall_mem_cons.mpr ⟨(List.Mem.tail _ (List.Mem.tail _ (List.Mem.head _))), (List.forall_mem_cons.mpr ⟨(List.Mem.tail _ (List.Mem.head _)), (List.forall_mem_cons.mpr ⟨(List.Mem.tail _ (List.Mem.tail _ (List.Mem.tail _ (List.Mem.tail _ (List.Mem.tail _ (List.Mem.tail _ (List.Mem.head _))))))), (List.forall_mem_cons.mpr ⟨(List.Mem.head _), (fun _ h => absurd h List.not_mem_nil)⟩)⟩)⟩)⟩)⟩)⟩), (show ([5, 3, 2, 6, 0, 1, 4] : List Nat).Nodup from by decide)⟩ w
theorem T_X2_joinByLast_0 {Z : zT} {d : Nat} {σ : Sg} {l1 : Int32} {K : kS} (F : FX ΦC σ.sh σ.r) (w : C_X2_putInRow_0 Z d σ 2 l1 0 l1 (yN K fun τ1 => ib l1 24 ∧ (C_X2_joinByLast_29 Z (d + 1) τ1 l1 ((1 : Int32) <<< (l1 &&& 31)) ((τ1.i 5 l1.toNatClampNeg) - (1 : Int32)) ((τ1.i 2 4) - (1 : Int32)) K))) : C_X2_joinByLast_0 Z (d + 1) σ l1 K := by
  unfold C_X2_joinByLast_0
  refine ab_fin.s2 (i := .aload_n 0) (k := 1) (pc' := 1) (lv' := [(0, .ref 2), (1, .int l1)]) (st' := [.ref 2]) (by decide +kernel) rfl rfl ?_
  refine ab_fin.s1i (i := .iconst 2) (k := 1) (pc' := 2) (n := 2) (by decide +kernel) rfl (by decide +kernel) rfl ?_
  refine ab_fin.s2 (i := .iload_n 1) (k := 1) (pc' := 3) (lv' := [(0, .ref 2), (1, .int l1)]) (st' := [.int l1, .int 2, .ref 2]) (by decide +kernel) rfl rfl ?_
  refine ab_fin.s1i (i := .iconst 0) (k := 1) (pc' := 4) (n := 0) (by decide +kernel) rfl (by decide +kernel) rfl ?_
  refine ab_fin.s2 (i := .iload_n 1) (k := 1) (pc' := 5) (lv' := [(0, .ref 2), (1, .int l1)]) (st' := [.int l1, .int 0, .int l1, .int 2, .ref 2]) (by decide +kernel) rfl rfl ?_
  refine ab_fin.q_yN (i := .invokevirtual 65) (k := 3) (y := 519) (As := [.ref 2, .int 2, .int l1, .int 0, .int l1]) (rest := []) (M' := (mX2_putInRow, [])) (lv2 := [(0, .ref 2), (1, .int 2), (2, .int l1), (3, .int 0), (4, .int l1)]) (pc' := 8) (X := K) (by decide +kernel) (ab_cv rfl rfl (conc_get (σ := σ) (F.s t0_2)) ⟨(Nat.le_of_ble_eq_true rfl), (Nat.le_of_ble_eq_true rfl)⟩ rfl) rfl (Nat.le_of_ble_eq_true rfl) rfl rfl (hY_no fun E => rfl) w (fun τ1 F2 w => ?_)
  refine ab_fin.s1i (i := .iconst 1) (k := 1) (pc' := 9) (n := 1) (by decide +kernel) rfl (by decide +kernel) rfl ?_
  refine ab_fin.s2 (i := .iload_n 1) (k := 1) (pc' := 10) (lv' := [(0, .ref 2), (1, .int l1)]) (st' := [.int l1, .int 1]) (by decide +kernel) rfl rfl ?_
  refine ab_fin.s1 (i := .ishl) (k := 1) (pc' := 11) (st' := [.int ((1 : Int32) <<< (l1 &&& 31))]) (by decide +kernel) rfl rfl ?_
  refine ab_fin.s2 (i := .istore_n 2) (k := 1) (pc' := 12) (lv' := [(2, .int ((1 : Int32) <<< (l1 &&& 31))), (0, .ref 2), (1, .int l1)]) (st' := []) (by decide +kernel) rfl rfl ?_
  refine ab_fin.s2 (i := .aload_n 0) (k := 1) (pc' := 13) (lv' := [(2, .int ((1 : Int32) <<< (l1 &&& 31))), (0, .ref 2), (1, .int l1)]) (st' := [.ref 2]) (by decide +kernel) rfl rfl ?_
  refine ab_fin.q_rA (b := 5) (ix := 19) (ci := 3) (k := 2) (pc' := 16) (by decide +kernel) rfl (c_rA (F2.s t0_2) rfl (rC_3_2 F2 t0_2)) rfl ?_
  refine ab_fin.s2 (i := .iload_n 1) (k := 1) (pc' := 17) (lv' := [(2, .int ((1 : Int32) <<< (l1 &&& 31))), (0, .ref 2), (1, .int l1)]) (st' := [.int l1, .ref 5]) (by decide +kernel) rfl rfl ?_
  obtain ⟨e3, w⟩ := w
  refine ab_fin.q_eI (x := (τ1.i 5 l1.toNatClampNeg)) (pc' := 18) (by decide +kernel) (c_eI' (F2.s t0_5) e3 rfl) rfl ?_
  refine ab_fin.s1i (i := .iconst 1) (k := 1) (pc' := 19) (n := 1) (by decide +kernel) rfl (by decide +kernel) rfl ?_
  refine ab_fin.s1 (i := .isub) (k := 1) (pc' := 20) (st' := [.int ((τ1.i 5 l1.toNatClampNeg) - (1 : Int32))]) (by decide +kernel) rfl rfl ?_
  refine ab_fin.s2 (i := .istore_n 3) (k := 1) (pc' := 21) (lv' := [(3, .int ((τ1.i 5 l1.toNatClampNeg) - (1 : Int32))), (2, .int ((1 : Int32) <<< (l1 &&& 31))), (0, .ref 2), (1, .int l1)]) (st' := []) (by decide +kernel) rfl rfl ?_
  refine ab_fin.s2 (i := .aload_n 0) (k := 1) (pc' := 22) (lv' := [(3, .int ((τ1.i 5 l1.toNatClampNeg) - (1 : Int32))), (2, .int ((1 : Int32) <<< (l1 &&& 31))), (0, .ref 2), (1, .int l1)]) (st' := [.ref 2]) (by decide +kernel) rfl rfl ?_
  refine ab_fin.q_rI (x := (τ1.i 2 4)) (ix := 34) (ci := 3) (k := 4) (pc' := 25) (by decide +kernel) rfl (c_rI (F2.s t0_2) rfl) rfl ?_
  refine ab_fin.s1i (i := .iconst 1) (k := 1) (pc' := 26) (n := 1) (by decide +kernel) rfl (by decide +kernel) rfl ?_
  refine ab_fin.s1 (i := .isub) (k := 1) (pc' := 27) (st' := [.int ((τ1.i 2 4) - (1 : Int32))]) (by decide +kernel) rfl rfl ?_
  refine ab_fin.s2 (i := .istore 4) (k := 2) (pc' := 29) (lv' := [(4, .int ((τ1.i 2 4) - (1 : Int32))), (3, .int ((τ1.i 5 l1.toNatClampNeg) - (1 : Int32))), (2, .int ((1 : Int32) <<< (l1 &&& 31))), (0, .ref 2), (1, .int l1)]) (st' := []) (by decide +kernel) rfl rfl ?_
  exact ab_fin.lv ⟨(List.forall_mem_cons.mpr ⟨(List.Mem.tail _ (List.Mem.tail _ (List.Mem.tail _ (List.Mem.head _)))), (List.forall_mem_cons.mpr ⟨(List.Mem.tail _ (List.Mem.tail _ (List.Mem.tail _ (List.Mem.tail _ (List.Mem.head _))))), (List.forall_mem_cons.mpr ⟨(List.Mem.tail _ (List.Mem.tail _ (List.Mem.head _))), (List.forall_mem_cons.mpr ⟨(List.Mem.tail _ (List.Mem.head _)), (List.forall_mem_cons.mpr ⟨(List.Mem.head _), (fun _ h => absurd h List.not_mem_nil)⟩)⟩)⟩)⟩)⟩), (show ([4, 3, 2, 0, 1] : List Nat).Nodup from by decide)⟩ w
theorem T_X2_joinByLast_29 {Z : zT} {d : Nat} {σ : Sg} {l1 : Int32} {l2 : Int32} {l3 : Int32} {l4 : Int32} {K : kS} (F : FX ΦC σ.sh σ.r) (w : (l4 < 0 → K (.inl none) σ) ∧ (¬ l4 < 0 → ib l4 24 ∧ (ib (σ.i 6 l4.toNatClampNeg) 24 ∧ (C_X2_joinByLast_50 Z (d + 1) σ l1 l2 l3 l4 ((σ.i 5 ((σ.i 6 l4.toNatClampNeg).toNatClampNeg)) - (1 : Int32)) K)))) : C_X2_joinByLast_29 Z (d + 1) σ l1 l2 l3 l4 K := by
  unfold C_X2_joinByLast_29
  refine ab_fin.s2 (i := .iload 4) (k := 2) (pc' := 31) (lv' := [(0, .ref 2), (1, .int l1), (2, .int l2), (3, .int l3), (4, .int l4)]) (st' := [.int l4]) (by decide +kernel) rfl rfl ?_
  refine ab_fin.br (c := l4 < 0) (i := .ifCond .lt 80) (off := 80) (t := 111) (pc' := 34) (r := []) (by decide +kernel) rfl (by decide +kernel) rfl (fun q => ?_) (fun q => ?_)
  · replace w := w.1 q
    exact ab_fin.q_ret (i := .return_) (k := 1) (v := none) (by decide +kernel) rfl F w
  · replace w := w.2 q
    refine ab_fin.s2 (i := .aload_n 0) (k := 1) (pc' := 35) (lv' := [(0, .ref 2), (1, .int l1), (2, .int l2), (3, .int l3), (4, .int l4)]) (st' := [.ref 2]) (by decide +kernel) rfl rfl ?_
    refine ab_fin.q_rA (b := 5) (ix := 19) (ci := 3) (k := 2) (pc' := 38) (by decide +kernel) rfl (c_rA (F.s t0_2) rfl (rC_3_2 F t0_2)) rfl ?_
    refine ab_fin.s2 (i := .aload_n 0) (k := 1) (pc' := 39) (lv' := [(0, .ref 2), (1, .int l1), (2, .int l2), (3, .int l3), (4, .int l4)]) (st' := [.ref 2, .ref 5]) (by decide +kernel) rfl rfl ?_
    refine ab_fin.q_rA (b := 6) (ix := 22) (ci := 3) (k := 3) (pc' := 42) (by decide +kernel) rfl (c_rA (F.s t0_2) rfl (rC_3_3 F t0_2)) rfl ?_
    refine ab_fin.s2 (i := .iload 4) (k := 2) (pc' := 44) (lv' := [(0, .ref 2), (1, .int l1), (2, .int l2), (3, .int l3), (4, .int l4)]) (st' := [.int l4, .ref 6, .ref 5]) (by decide +kernel) rfl rfl ?_
    obtain ⟨e1, w⟩ := w
    refine ab_fin.q_eI (x := (σ.i 6 l4.toNatClampNeg)) (pc' := 45) (by decide +kernel) (c_eI' (F.s t0_6) e1 rfl) rfl ?_
    obtain ⟨e2, w⟩ := w
    refine ab_fin.q_eI (x := (σ.i 5 ((σ.i 6 l4.toNatClampNeg).toNatClampNeg))) (pc' := 46) (by decide +kernel) (c_eI' (F.s t0_5) e2 rfl) rfl ?_
    refine ab_fin.s1i (i := .iconst 1) (k := 1) (pc' := 47) (n := 1) (by decide +kernel) rfl (by decide +kernel) rfl ?_
    refine ab_fin.s1 (i := .isub) (k := 1) (pc' := 48) (st' := [.int ((σ.i 5 ((σ.i 6 l4.toNatClampNeg).toNatClampNeg)) - (1 : Int32))]) (by decide +kernel) rfl rfl ?_
    refine ab_fin.s2 (i := .istore 5) (k := 2) (pc' := 50) (lv' := [(5, .int ((σ.i 5 ((σ.i 6 l4.toNatClampNeg).toNatClampNeg)) - (1 : Int32))), (0, .ref 2), (1, .int l1), (2, .int l2), (3, .int l3), (4, .int l4)]) (st' := []) (by decide +kernel) rfl rfl ?_
    exact ab_fin.lv ⟨(List.forall_mem_cons.mpr ⟨(List.Mem.tail _ (List.Mem.head _)), (List.forall_mem_cons.mpr ⟨(List.Mem.tail _ (List.Mem.tail _ (List.Mem.head _))), (List.forall_mem_cons.mpr ⟨(List.Mem.tail _ (List.Mem.tail _ (List.Mem.tail _ (List.Mem.head _)))), (List.forall_mem_cons.mpr ⟨(List.Mem.tail _ (List.Mem.tail _ (List.Mem.tail _ (List.Mem.tail _ (List.Mem.head _))))), (List.forall_mem_cons.mpr ⟨(List.Mem.tail _ (List.Mem.tail _ (List.Mem.tail _ (List.Mem.tail _ (List.Mem.tail _ (List.Mem.head _)))))), (List.forall_mem_cons.mpr ⟨(List.Mem.head _), (fun _ h => absurd h List.not_mem_nil)⟩)⟩)⟩)⟩)⟩)⟩), (show ([5, 0, 1, 2, 3, 4] : List Nat).Nodup from by decide)⟩ w
theorem T_X2_joinByLast_50 {Z : zT} {d : Nat} {σ : Sg} {l1 : Int32} {l2 : Int32} {l3 : Int32} {l4 : Int32} {l5 : Int32} {K : kS} (F : FX ΦC σ.sh σ.r) (w : (l5 < 0 → C_X2_joinByLast_29 Z (d + 1) σ l1 l2 l3 (l4 + (-1)) K) ∧ (¬ l5 < 0 → ib l4 24 ∧ (C_X2_inRow_0 Z d σ 2 (σ.i 6 l4.toNatClampNeg) l5 (yI K fun v4 τ2 => (¬ ((l2 >>> (v4 &&& 31)) &&& (1 : Int32)) = 0 → C_X2_joinByLast_50 Z (d + 1) τ2 l1 l2 l3 l4 (l5 + (-1)) K) ∧ (((l2 >>> (v4 &&& 31)) &&& (1 : Int32)) = 0 → C_X2_putInRow_0 Z d τ2 2 l1 l3 v4 (yN K fun τ5 => C_X2_joinByLast_50 Z (d + 1) τ5 l1 (l2 ||| ((1 : Int32) <<< (v4 &&& 31))) (l3 + (-1)) l4 (l5 + (-1)) K)))))) : C_X2_joinByLast_50 Z (d + 1) σ l1 l2 l3 l4 l5 K := by
  unfold C_X2_joinByLast_50
  refine ab_fin.s2 (i := .iload 5) (k := 2) (pc' := 52) (lv' := [(0, .ref 2), (1, .int l1), (2, .int l2), (3, .int l3), (4, .int l4), (5, .int l5)]) (st' := [.int l5]) (by decide +kernel) rfl rfl ?_
  refine ab_fin.br (c := l5 < 0) (i := .ifCond .lt 53) (off := 53) (t := 105) (pc' := 55) (r := []) (by decide +kernel) rfl (by decide +kernel) rfl (fun q => ?_) (fun q => ?_)
  · replace w := w.1 q
    refine ab_fin.q_inc (n := 4) (c := (-1)) (pc' := 108) (lv' := [(4, .int (l4 + (-1))), (0, .ref 2), (1, .int l1), (2, .int l2), (3, .int l3), (5, .int l5)]) (by decide +kernel) (by decide) rfl rfl rfl rfl ?_
    refine ab_fin.s3 (i := .goto (-79)) (k := 3) (t := 29) (st' := []) (by decide +kernel) (ab_gto (by decide +kernel)) ?_
    exact ab_fin.lv ⟨(List.forall_mem_cons.mpr ⟨(List.Mem.tail _ (List.Mem.head _)), (List.forall_mem_cons.mpr ⟨(List.Mem.tail _ (List.Mem.tail _ (List.Mem.head _))), (List.forall_mem_cons.mpr ⟨(List.Mem.tail _ (List.Mem.tail _ (List.Mem.tail _ (List.Mem.head _)))), (List.forall_mem_cons.mpr ⟨(List.Mem.tail _ (List.Mem.tail _ (List.Mem.tail _ (List.Mem.tail _ (List.Mem.head _))))), (List.forall_mem_cons.mpr ⟨(List.Mem.head _), (fun _ h => absurd h List.not_mem_nil)⟩)⟩)⟩)⟩)⟩), (show ([4, 0, 1, 2, 3, 5] : List Nat).Nodup from by decide)⟩ w
  · replace w := w.2 q
    refine ab_fin.s2 (i := .aload_n 0) (k := 1) (pc' := 56) (lv' := [(0, .ref 2), (1, .int l1), (2, .int l2), (3, .int l3), (4, .int l4), (5, .int l5)]) (st' := [.ref 2]) (by decide +kernel) rfl rfl ?_
    refine ab_fin.s1i (i := .iconst 2) (k := 1) (pc' := 57) (n := 2) (by decide +kernel) rfl (by decide +kernel) rfl ?_
    refine ab_fin.s2 (i := .aload_n 0) (k := 1) (pc' := 58) (lv' := [(0, .ref 2), (1, .int l1), (2, .int l2), (3, .int l3), (4, .int l4), (5, .int l5)]) (st' := [.ref 2, .int 2, .ref 2]) (by decide +kernel) rfl rfl ?_
    refine ab_fin.q_rA (b := 6) (ix := 22) (ci := 3) (k := 3) (pc' := 61) (by decide +kernel) rfl (c_rA (F.s t0_2) rfl (rC_3_3 F t0_2)) rfl ?_
    refine ab_fin.s2 (i := .iload 4) (k := 2) (pc' := 63) (lv' := [(0, .ref 2), (1, .int l1), (2, .int l2), (3, .int l3), (4, .int l4), (5, .int l5)]) (st' := [.int l4, .ref 6, .int 2, .ref 2]) (by decide +kernel) rfl rfl ?_
    obtain ⟨e1, w⟩ := w
    refine ab_fin.q_eI (x := (σ.i 6 l4.toNatClampNeg)) (pc' := 64) (by decide +kernel) (c_eI' (F.s t0_6) e1 rfl) rfl ?_
    refine ab_fin.s2 (i := .iload 5) (k := 2) (pc' := 66) (lv' := [(0, .ref 2), (1, .int l1), (2, .int l2), (3, .int l3), (4, .int l4), (5, .int l5)]) (st' := [.int l5, .int (σ.i 6 l4.toNatClampNeg), .int 2, .ref 2]) (by decide +kernel) rfl rfl ?_
    refine ab_fin.q_yI (i := .invokevirtual 55) (k := 3) (y := 514) (As := [.ref 2, .int 2, .int (σ.i 6 l4.toNatClampNeg), .int l5]) (rest := []) (M' := (mX2_inRow, [])) (lv2 := [(0, .ref 2), (1, .int 2), (2, .int (σ.i 6 l4.toNatClampNeg)), (3, .int l5)]) (pc' := 69) (X := K) (by decide +kernel) (ab_cv rfl rfl (conc_get (σ := σ) (F.s t0_2)) ⟨(Nat.le_of_ble_eq_true rfl), (Nat.le_of_ble_eq_true rfl)⟩ rfl) rfl (Nat.le_of_ble_eq_true rfl) rfl rfl (hY_no fun E => rfl) w (fun v4 τ2 F3 w => ?_)
    refine ab_fin.s2 (i := .istore 6) (k := 2) (pc' := 71) (lv' := [(6, .int v4), (0, .ref 2), (1, .int l1), (2, .int l2), (3, .int l3), (4, .int l4), (5, .int l5)]) (st' := []) (by decide +kernel) rfl rfl ?_
    refine ab_fin.s2 (i := .iload_n 2) (k := 1) (pc' := 72) (lv' := [(6, .int v4), (0, .ref 2), (1, .int l1), (2, .int l2), (3, .int l3), (4, .int l4), (5, .int l5)]) (st' := [.int l2]) (by decide +kernel) rfl rfl ?_
    refine ab_fin.s2 (i := .iload 6) (k := 2) (pc' := 74) (lv' := [(6, .int v4), (0, .ref 2), (1, .int l1), (2, .int l2), (3, .int l3), (4, .int l4), (5, .int l5)]) (st' := [.int v4, .int l2]) (by decide +kernel) rfl rfl ?_
    refine ab_fin.s1 (i := .ishr) (k := 1) (pc' := 75) (st' := [.int (l2 >>> (v4 &&& 31))]) (by decide +kernel) rfl rfl ?_
    refine ab_fin.s1i (i := .iconst 1) (k := 1) (pc' := 76) (n := 1) (by decide +kernel) rfl (by decide +kernel) rfl ?_
    refine ab_fin.s1 (i := .iand) (k := 1) (pc' := 77) (st' := [.int ((l2 >>> (v4 &&& 31)) &&& (1 : Int32))]) (by decide +kernel) rfl rfl ?_
    refine ab_fin.br (c := ¬ ((l2 >>> (v4 &&& 31)) &&& (1 : Int32)) = 0) (i := .ifCond .ne 22) (off := 22) (t := 99) (pc' := 80) (r := []) (by decide +kernel) rfl (by decide +kernel) rfl (fun q => ?_) (fun q => ?_)
    · replace w := w.1 q
      refine ab_fin.q_inc (n := 5) (c := (-1)) (pc' := 102) (lv' := [(5, .int (l5 + (-1))), (6, .int v4), (0, .ref 2), (1, .int l1), (2, .int l2), (3, .int l3), (4, .int l4)]) (by decide +kernel) (by decide) rfl rfl rfl rfl ?_
      refine ab_fin.s3 (i := .goto (-52)) (k := 3) (t := 50) (st' := []) (by decide +kernel) (ab_gto (by decide +kernel)) ?_
      exact ab_fin.lv ⟨(List.forall_mem_cons.mpr ⟨(List.Mem.tail _ (List.Mem.tail _ (List.Mem.head _))), (List.forall_mem_cons.mpr ⟨(List.Mem.tail _ (List.Mem.tail _ (List.Mem.tail _ (List.Mem.head _)))), (List.forall_mem_cons.mpr ⟨(List.Mem.tail _ (List.Mem.tail _ (List.Mem.tail _ (List.Mem.tail _ (List.Mem.head _))))), (List.forall_mem_cons.mpr ⟨(List.Mem.tail _ (List.Mem.tail _ (List.Mem.tail _ (List.Mem.tail _ (List.Mem.tail _ (List.Mem.head _)))))), (List.forall_mem_cons.mpr ⟨(List.Mem.tail _ (List.Mem.tail _ (List.Mem.tail _ (List.Mem.tail _ (List.Mem.tail _ (List.Mem.tail _ (List.Mem.head _))))))), (List.forall_mem_cons.mpr ⟨(List.Mem.head _), (fun _ h => absurd h List.not_mem_nil)⟩)⟩)⟩)⟩)⟩)⟩), (show ([5, 6, 0, 1, 2, 3, 4] : List Nat).Nodup from by decide)⟩ w
    · replace w := w.2 (Decidable.of_not_not q)
      refine ab_fin.s2 (i := .iload_n 2) (k := 1) (pc' := 81) (lv' := [(6, .int v4), (0, .ref 2), (1, .int l1), (2, .int l2), (3, .int l3), (4, .int l4), (5, .int l5)]) (st' := [.int l2]) (by decide +kernel) rfl rfl ?_
      refine ab_fin.s1i (i := .iconst 1) (k := 1) (pc' := 82) (n := 1) (by decide +kernel) rfl (by decide +kernel) rfl ?_
      refine ab_fin.s2 (i := .iload 6) (k := 2) (pc' := 84) (lv' := [(6, .int v4), (0, .ref 2), (1, .int l1), (2, .int l2), (3, .int l3), (4, .int l4), (5, .int l5)]) (st' := [.int v4, .int 1, .int l2]) (by decide +kernel) rfl rfl ?_
      refine ab_fin.s1 (i := .ishl) (k := 1) (pc' := 85) (st' := [.int ((1 : Int32) <<< (v4 &&& 31)), .int l2]) (by decide +kernel) rfl rfl ?_
      refine ab_fin.s1 (i := .ior) (k := 1) (pc' := 86) (st' := [.int (l2 ||| ((1 : Int32) <<< (v4 &&& 31)))]) (by decide +kernel) rfl rfl ?_
      refine ab_fin.s2 (i := .istore_n 2) (k := 1) (pc' := 87) (lv' := [(2, .int (l2 ||| ((1 : Int32) <<< (v4 &&& 31)))), (6, .int v4), (0, .ref 2), (1, .int l1), (3, .int l3), (4, .int l4), (5, .int l5)]) (st' := []) (by decide +kernel) rfl rfl ?_
      refine ab_fin.s2 (i := .aload_n 0) (k := 1) (pc' := 88) (lv' := [(2, .int (l2 ||| ((1 : Int32) <<< (v4 &&& 31)))), (6, .int v4), (0, .ref 2), (1, .int l1), (3, .int l3), (4, .int l4), (5, .int l5)]) (st' := [.ref 2]) (by decide +kernel) rfl rfl ?_
      refine ab_fin.s1i (i := .iconst 2) (k := 1) (pc' := 89) (n := 2) (by decide +kernel) rfl (by decide +kernel) rfl ?_
      refine ab_fin.s2 (i := .iload_n 1) (k := 1) (pc' := 90) (lv' := [(2, .int (l2 ||| ((1 : Int32) <<< (v4 &&& 31)))), (6, .int v4), (0, .ref 2), (1, .int l1), (3, .int l3), (4, .int l4), (5, .int l5)]) (st' := [.int l1, .int 2, .ref 2]) (by decide +kernel) rfl rfl ?_
      refine ab_fin.s2 (i := .iload_n 3) (k := 1) (pc' := 91) (lv' := [(2, .int (l2 ||| ((1 : Int32) <<< (v4 &&& 31)))), (6, .int v4), (0, .ref 2), (1, .int l1), (3, .int l3), (4, .int l4), (5, .int l5)]) (st' := [.int l3, .int l1, .int 2, .ref 2]) (by decide +kernel) rfl rfl ?_
      refine ab_fin.s2 (i := .iload 6) (k := 2) (pc' := 93) (lv' := [(2, .int (l2 ||| ((1 : Int32) <<< (v4 &&& 31)))), (6, .int v4), (0, .ref 2), (1, .int l1), (3, .int l3), (4, .int l4), (5, .int l5)]) (st' := [.int v4, .int l3, .int l1, .int 2, .ref 2]) (by decide +kernel) rfl rfl ?_
      refine ab_fin.q_yN (i := .invokevirtual 65) (k := 3) (y := 519) (As := [.ref 2, .int 2, .int l1, .int l3, .int v4]) (rest := []) (M' := (mX2_putInRow, [])) (lv2 := [(0, .ref 2), (1, .int 2), (2, .int l1), (3, .int l3), (4, .int v4)]) (pc' := 96) (X := K) (by decide +kernel) (ab_cv rfl rfl (conc_get (σ := τ2) (F3.s t0_2)) ⟨(Nat.le_of_ble_eq_true rfl), (Nat.le_of_ble_eq_true rfl)⟩ rfl) rfl (Nat.le_of_ble_eq_true rfl) rfl rfl (hY_no fun E => rfl) w (fun τ5 F6 w => ?_)
      refine ab_fin.q_inc (n := 3) (c := (-1)) (pc' := 99) (lv' := [(3, .int (l3 + (-1))), (2, .int (l2 ||| ((1 : Int32) <<< (v4 &&& 31)))), (6, .int v4), (0, .ref 2), (1, .int l1), (4, .int l4), (5, .int l5)]) (by decide +kernel) (by decide) rfl rfl rfl rfl ?_
      refine ab_fin.q_inc (n := 5) (c := (-1)) (pc' := 102) (lv' := [(5, .int (l5 + (-1))), (3, .int (l3 + (-1))), (2, .int (l2 ||| ((1 : Int32) <<< (v4 &&& 31)))), (6, .int v4), (0, .ref 2), (1, .int l1), (4, .int l4)]) (by decide +kernel) (by decide) rfl rfl rfl rfl ?_
      refine ab_fin.s3 (i := .goto (-52)) (k := 3) (t := 50) (st' := []) (by decide +kernel) (ab_gto (by decide +kernel)) ?_
      exact ab_fin.lv ⟨(List.forall_mem_cons.mpr ⟨(List.Mem.tail _ (List.Mem.tail _ (List.Mem.tail _ (List.Mem.tail _ (List.Mem.head _))))), (List.forall_mem_cons.mpr ⟨(List.Mem.tail _ (List.Mem.tail _ (List.Mem.tail _ (List.Mem.tail _ (List.Mem.tail _ (List.Mem.head _)))))), (List.forall_mem_cons.mpr ⟨(List.Mem.tail _ (List.Mem.tail _ (List.Mem.head _))), (List.forall_mem_cons.mpr ⟨(List.Mem.tail _ (List.Mem.head _)), (List.forall_mem_cons.mpr ⟨(List.Mem.tail _ (List.Mem.tail _ (List.Mem.tail _ (List.Mem.tail _ (List.Mem.tail _ (List.Mem.tail _ (List.Mem.head _))))))), (List.forall_mem_cons.mpr ⟨(List.Mem.head _), (fun _ h => absurd h List.not_mem_nil)⟩)⟩)⟩)⟩)⟩)⟩), (show ([5, 3, 2, 6, 0, 1, 4] : List Nat).Nodup from by decide)⟩ w
theorem T_X3_countLists_0 {Z : zT} {d : Nat} {σ : Sg} {l1 : Int32} {K : kS} (F : FX ΦC σ.sh σ.r) (w : C_X3_plan_0 Z d σ l1 (yN K fun τ1 => ib l1 24 ∧ (C_X3_countSets_0 Z d τ1 l1 0 (τ1.i 31 l1.toNatClampNeg) (yI K fun v6 τ4 => K (.inl (some (.int v6))) τ4)))) : C_X3_countLists_0 Z (d + 1) σ l1 K := by
  unfold C_X3_countLists_0
  refine ab_fin.s2 (i := .aload_n 0) (k := 1) (pc' := 1) (lv' := [(0, .ref 56), (1, .int l1)]) (st' := [.ref 56]) (by decide +kernel) rfl rfl ?_
  refine ab_fin.s2 (i := .iload_n 1) (k := 1) (pc' := 2) (lv' := [(0, .ref 56), (1, .int l1)]) (st' := [.int l1, .ref 56]) (by decide +kernel) rfl rfl ?_
  refine ab_fin.q_yN (i := .invokevirtual 47) (k := 3) (y := 776) (As := [.ref 56, .int l1]) (rest := []) (M' := (mX3_plan, [])) (lv2 := [(0, .ref 56), (1, .int l1)]) (pc' := 5) (X := K) (by decide +kernel) (ab_cv rfl rfl (conc_get (σ := σ) (F.s t0_56)) ⟨(Nat.le_of_ble_eq_true rfl), (Nat.le_of_ble_eq_true rfl)⟩ rfl) rfl (Nat.le_of_ble_eq_true rfl) rfl rfl (hY_no fun E => rfl) w (fun τ1 F2 w => ?_)
  refine ab_fin.s2 (i := .aload_n 0) (k := 1) (pc' := 6) (lv' := [(0, .ref 56), (1, .int l1)]) (st' := [.ref 56]) (by decide +kernel) rfl rfl ?_
  refine ab_fin.s2 (i := .iload_n 1) (k := 1) (pc' := 7) (lv' := [(0, .ref 56), (1, .int l1)]) (st' := [.int l1, .ref 56]) (by decide +kernel) rfl rfl ?_
  refine ab_fin.s1i (i := .iconst 0) (k := 1) (pc' := 8) (n := 0) (by decide +kernel) rfl (by decide +kernel) rfl ?_
  refine ab_fin.s2 (i := .aload_n 0) (k := 1) (pc' := 9) (lv' := [(0, .ref 56), (1, .int l1)]) (st' := [.ref 56, .int 0, .int l1, .ref 56]) (by decide +kernel) rfl rfl ?_
  refine ab_fin.q_rA (b := 1) (ix := 43) (ci := 4) (k := 0) (pc' := 12) (by decide +kernel) rfl (c_rA (F2.s t0_56) rfl (rC_4_0 F2 t0_56)) rfl ?_
  refine ab_fin.q_rA (b := 31) (ix := 51) (ci := 12) (k := 6) (pc' := 15) (by decide +kernel) rfl (c_rA (F2.s t0_1) rfl (rC_12_6 F2 t0_1)) rfl ?_
  refine ab_fin.s2 (i := .iload_n 1) (k := 1) (pc' := 16) (lv' := [(0, .ref 56), (1, .int l1)]) (st' := [.int l1, .ref 31, .int 0, .int l1, .ref 56]) (by decide +kernel) rfl rfl ?_
  obtain ⟨e3, w⟩ := w
  refine ab_fin.q_eI (x := (τ1.i 31 l1.toNatClampNeg)) (pc' := 17) (by decide +kernel) (c_eI' (F2.s t0_31) e3 rfl) rfl ?_
  refine ab_fin.q_yI (i := .invokevirtual 56) (k := 3) (y := 779) (As := [.ref 56, .int l1, .int 0, .int (τ1.i 31 l1.toNatClampNeg)]) (rest := []) (M' := (mX3_countSets, [])) (lv2 := [(0, .ref 56), (1, .int l1), (2, .int 0), (3, .int (τ1.i 31 l1.toNatClampNeg))]) (pc' := 20) (X := K) (by decide +kernel) (ab_cv rfl rfl (conc_get (σ := τ1) (F2.s t0_56)) ⟨(Nat.le_of_ble_eq_true rfl), (Nat.le_of_ble_eq_true rfl)⟩ rfl) rfl (Nat.le_of_ble_eq_true rfl) rfl rfl (hY_no fun E => rfl) w (fun v6 τ4 F5 w => ?_)
  exact ab_fin.q_ret (i := .ireturn) (k := 1) (v := some (.int v6)) (by decide +kernel) rfl F5 w
theorem T_X3_countCells_0 {Z : zT} {d : Nat} {σ : Sg} {l1 : Int32} {K : kS} (F : FX ΦC σ.sh σ.r) (w : C_X3_countCells_4 Z (d + 1) σ l1 1 0 K) : C_X3_countCells_0 Z (d + 1) σ l1 K := by
  unfold C_X3_countCells_0
  refine ab_fin.s1i (i := .iconst 1) (k := 1) (pc' := 1) (n := 1) (by decide +kernel) rfl (by decide +kernel) rfl ?_
  refine ab_fin.s2 (i := .istore_n 2) (k := 1) (pc' := 2) (lv' := [(2, .int 1), (0, .ref 56), (1, .int l1)]) (st' := []) (by decide +kernel) rfl rfl ?_
  refine ab_fin.s1i (i := .iconst 0) (k := 1) (pc' := 3) (n := 0) (by decide +kernel) rfl (by decide +kernel) rfl ?_
  refine ab_fin.s2 (i := .istore_n 3) (k := 1) (pc' := 4) (lv' := [(3, .int 0), (2, .int 1), (0, .ref 56), (1, .int l1)]) (st' := []) (by decide +kernel) rfl rfl ?_
  exact ab_fin.lv ⟨(List.forall_mem_cons.mpr ⟨(List.Mem.tail _ (List.Mem.tail _ (List.Mem.head _))), (List.forall_mem_cons.mpr ⟨(List.Mem.tail _ (List.Mem.tail _ (List.Mem.tail _ (List.Mem.head _)))), (List.forall_mem_cons.mpr ⟨(List.Mem.tail _ (List.Mem.head _)), (List.forall_mem_cons.mpr ⟨(List.Mem.head _), (fun _ h => absurd h List.not_mem_nil)⟩)⟩)⟩)⟩), (show ([3, 2, 0, 1] : List Nat).Nodup from by decide)⟩ w
theorem T_X3_countCells_4 {Z : zT} {d : Nat} {σ : Sg} {l1 : Int32} {l2 : Int32} {l3 : Int32} {K : kS} (F : FX ΦC σ.sh σ.r) (w : ib l1 24 ∧ (((σ.i 31 l1.toNatClampNeg) ≤ l3 → K (.inl (some (.int l2))) σ) ∧ (¬ (σ.i 31 l1.toNatClampNeg) ≤ l3 → C_X3_countCells_4 Z (d + 1) σ l1 (l2 * (σ.i 1 14)) (l3 + 1) K))) : C_X3_countCells_4 Z (d + 1) σ l1 l2 l3 K := by
  unfold C_X3_countCells_4
  refine ab_fin.s2 (i := .iload_n 3) (k := 1) (pc' := 5) (lv' := [(0, .ref 56), (1, .int l1), (2, .int l2), (3, .int l3)]) (st' := [.int l3]) (by decide +kernel) rfl rfl ?_
  refine ab_fin.s2 (i := .aload_n 0) (k := 1) (pc' := 6) (lv' := [(0, .ref 56), (1, .int l1), (2, .int l2), (3, .int l3)]) (st' := [.ref 56, .int l3]) (by decide +kernel) rfl rfl ?_
  refine ab_fin.q_rA (b := 1) (ix := 43) (ci := 4) (k := 0) (pc' := 9) (by decide +kernel) rfl (c_rA (F.s t0_56) rfl (rC_4_0 F t0_56)) rfl ?_
  refine ab_fin.q_rA (b := 31) (ix := 51) (ci := 12) (k := 6) (pc' := 12) (by decide +kernel) rfl (c_rA (F.s t0_1) rfl (rC_12_6 F t0_1)) rfl ?_
  refine ab_fin.s2 (i := .iload_n 1) (k := 1) (pc' := 13) (lv' := [(0, .ref 56), (1, .int l1), (2, .int l2), (3, .int l3)]) (st' := [.int l1, .ref 31, .int l3]) (by decide +kernel) rfl rfl ?_
  obtain ⟨e1, w⟩ := w
  refine ab_fin.q_eI (x := (σ.i 31 l1.toNatClampNeg)) (pc' := 14) (by decide +kernel) (c_eI' (F.s t0_31) e1 rfl) rfl ?_
  refine ab_fin.br (c := (σ.i 31 l1.toNatClampNeg) ≤ l3) (i := .if_icmp .ge 19) (off := 19) (t := 33) (pc' := 17) (r := []) (by decide +kernel) rfl (by decide +kernel) rfl (fun q => ?_) (fun q => ?_)
  · replace w := w.1 q
    refine ab_fin.s2 (i := .iload_n 2) (k := 1) (pc' := 34) (lv' := [(0, .ref 56), (1, .int l1), (2, .int l2), (3, .int l3)]) (st' := [.int l2]) (by decide +kernel) rfl rfl ?_
    exact ab_fin.q_ret (i := .ireturn) (k := 1) (v := some (.int l2)) (by decide +kernel) rfl F w
  · replace w := w.2 q
    refine ab_fin.s2 (i := .iload_n 2) (k := 1) (pc' := 18) (lv' := [(0, .ref 56), (1, .int l1), (2, .int l2), (3, .int l3)]) (st' := [.int l2]) (by decide +kernel) rfl rfl ?_
    refine ab_fin.s2 (i := .aload_n 0) (k := 1) (pc' := 19) (lv' := [(0, .ref 56), (1, .int l1), (2, .int l2), (3, .int l3)]) (st' := [.ref 56, .int l2]) (by decide +kernel) rfl rfl ?_
    refine ab_fin.q_rA (b := 1) (ix := 43) (ci := 4) (k := 0) (pc' := 22) (by decide +kernel) rfl (c_rA (F.s t0_56) rfl (rC_4_0 F t0_56)) rfl ?_
    refine ab_fin.q_rI (x := (σ.i 1 14)) (ix := 60) (ci := 12) (k := 14) (pc' := 25) (by decide +kernel) rfl (c_rI (F.s t0_1) rfl) rfl ?_
    refine ab_fin.s1 (i := .imul) (k := 1) (pc' := 26) (st' := [.int (l2 * (σ.i 1 14))]) (by decide +kernel) rfl rfl ?_
    refine ab_fin.s2 (i := .istore_n 2) (k := 1) (pc' := 27) (lv' := [(2, .int (l2 * (σ.i 1 14))), (0, .ref 56), (1, .int l1), (3, .int l3)]) (st' := []) (by decide +kernel) rfl rfl ?_
    refine ab_fin.q_inc (n := 3) (c := 1) (pc' := 30) (lv' := [(3, .int (l3 + 1)), (2, .int (l2 * (σ.i 1 14))), (0, .ref 56), (1, .int l1)]) (by decide +kernel) (by decide) rfl rfl rfl rfl ?_
    refine ab_fin.s3 (i := .goto (-26)) (k := 3) (t := 4) (st' := []) (by decide +kernel) (ab_gto (by decide +kernel)) ?_
    exact ab_fin.lv ⟨(List.forall_mem_cons.mpr ⟨(List.Mem.tail _ (List.Mem.tail _ (List.Mem.head _))), (List.forall_mem_cons.mpr ⟨(List.Mem.tail _ (List.Mem.tail _ (List.Mem.tail _ (List.Mem.head _)))), (List.forall_mem_cons.mpr ⟨(List.Mem.tail _ (List.Mem.head _)), (List.forall_mem_cons.mpr ⟨(List.Mem.head _), (fun _ h => absurd h List.not_mem_nil)⟩)⟩)⟩)⟩), (show ([3, 2, 0, 1] : List Nat).Nodup from by decide)⟩ w
theorem T_X3_countPressed_0 {Z : zT} {d : Nat} {σ : Sg} {l1 : Int32} {K : kS} (F : FX ΦC σ.sh σ.r) (w : C_X3_plan_0 Z d σ l1 (yN K fun τ1 => C_X3_countPressed_9 Z (d + 1) τ1 l1 1 0 K)) : C_X3_countPressed_0 Z (d + 1) σ l1 K := by
  unfold C_X3_countPressed_0
  refine ab_fin.s2 (i := .aload_n 0) (k := 1) (pc' := 1) (lv' := [(0, .ref 56), (1, .int l1)]) (st' := [.ref 56]) (by decide +kernel) rfl rfl ?_
  refine ab_fin.s2 (i := .iload_n 1) (k := 1) (pc' := 2) (lv' := [(0, .ref 56), (1, .int l1)]) (st' := [.int l1, .ref 56]) (by decide +kernel) rfl rfl ?_
  refine ab_fin.q_yN (i := .invokevirtual 47) (k := 3) (y := 776) (As := [.ref 56, .int l1]) (rest := []) (M' := (mX3_plan, [])) (lv2 := [(0, .ref 56), (1, .int l1)]) (pc' := 5) (X := K) (by decide +kernel) (ab_cv rfl rfl (conc_get (σ := σ) (F.s t0_56)) ⟨(Nat.le_of_ble_eq_true rfl), (Nat.le_of_ble_eq_true rfl)⟩ rfl) rfl (Nat.le_of_ble_eq_true rfl) rfl rfl (hY_no fun E => rfl) w (fun τ1 F2 w => ?_)
  refine ab_fin.s1i (i := .iconst 1) (k := 1) (pc' := 6) (n := 1) (by decide +kernel) rfl (by decide +kernel) rfl ?_
  refine ab_fin.s2 (i := .istore_n 2) (k := 1) (pc' := 7) (lv' := [(2, .int 1), (0, .ref 56), (1, .int l1)]) (st' := []) (by decide +kernel) rfl rfl ?_
  refine ab_fin.s1i (i := .iconst 0) (k := 1) (pc' := 8) (n := 0) (by decide +kernel) rfl (by decide +kernel) rfl ?_
  refine ab_fin.s2 (i := .istore_n 3) (k := 1) (pc' := 9) (lv' := [(3, .int 0), (2, .int 1), (0, .ref 56), (1, .int l1)]) (st' := []) (by decide +kernel) rfl rfl ?_
  exact ab_fin.lv ⟨(List.forall_mem_cons.mpr ⟨(List.Mem.tail _ (List.Mem.tail _ (List.Mem.head _))), (List.forall_mem_cons.mpr ⟨(List.Mem.tail _ (List.Mem.tail _ (List.Mem.tail _ (List.Mem.head _)))), (List.forall_mem_cons.mpr ⟨(List.Mem.tail _ (List.Mem.head _)), (List.forall_mem_cons.mpr ⟨(List.Mem.head _), (fun _ h => absurd h List.not_mem_nil)⟩)⟩)⟩)⟩), (show ([3, 2, 0, 1] : List Nat).Nodup from by decide)⟩ w
theorem T_X3_countPressed_9 {Z : zT} {d : Nat} {σ : Sg} {l1 : Int32} {l2 : Int32} {l3 : Int32} {K : kS} (F : FX ΦC σ.sh σ.r) (w : ib l1 24 ∧ (((σ.i 31 l1.toNatClampNeg) ≤ l3 → K (.inl (some (.int l2))) σ) ∧ (¬ (σ.i 31 l1.toNatClampNeg) ≤ l3 → C_X3_emptySet_0 Z d σ  (yN K fun τ2 => C_X3_countPressed_29 Z (d + 1) τ2 l1 l2 l3 0 K)))) : C_X3_countPressed_9 Z (d + 1) σ l1 l2 l3 K := by
  unfold C_X3_countPressed_9
  refine ab_fin.s2 (i := .iload_n 3) (k := 1) (pc' := 10) (lv' := [(0, .ref 56), (1, .int l1), (2, .int l2), (3, .int l3)]) (st' := [.int l3]) (by decide +kernel) rfl rfl ?_
  refine ab_fin.s2 (i := .aload_n 0) (k := 1) (pc' := 11) (lv' := [(0, .ref 56), (1, .int l1), (2, .int l2), (3, .int l3)]) (st' := [.ref 56, .int l3]) (by decide +kernel) rfl rfl ?_
  refine ab_fin.q_rA (b := 1) (ix := 43) (ci := 4) (k := 0) (pc' := 14) (by decide +kernel) rfl (c_rA (F.s t0_56) rfl (rC_4_0 F t0_56)) rfl ?_
  refine ab_fin.q_rA (b := 31) (ix := 51) (ci := 12) (k := 6) (pc' := 17) (by decide +kernel) rfl (c_rA (F.s t0_1) rfl (rC_12_6 F t0_1)) rfl ?_
  refine ab_fin.s2 (i := .iload_n 1) (k := 1) (pc' := 18) (lv' := [(0, .ref 56), (1, .int l1), (2, .int l2), (3, .int l3)]) (st' := [.int l1, .ref 31, .int l3]) (by decide +kernel) rfl rfl ?_
  obtain ⟨e1, w⟩ := w
  refine ab_fin.q_eI (x := (σ.i 31 l1.toNatClampNeg)) (pc' := 19) (by decide +kernel) (c_eI' (F.s t0_31) e1 rfl) rfl ?_
  refine ab_fin.br (c := (σ.i 31 l1.toNatClampNeg) ≤ l3) (i := .if_icmp .ge 100) (off := 100) (t := 119) (pc' := 22) (r := []) (by decide +kernel) rfl (by decide +kernel) rfl (fun q => ?_) (fun q => ?_)
  · replace w := w.1 q
    refine ab_fin.s2 (i := .iload_n 2) (k := 1) (pc' := 120) (lv' := [(0, .ref 56), (1, .int l1), (2, .int l2), (3, .int l3)]) (st' := [.int l2]) (by decide +kernel) rfl rfl ?_
    exact ab_fin.q_ret (i := .ireturn) (k := 1) (v := some (.int l2)) (by decide +kernel) rfl F w
  · replace w := w.2 q
    refine ab_fin.s2 (i := .aload_n 0) (k := 1) (pc' := 23) (lv' := [(0, .ref 56), (1, .int l1), (2, .int l2), (3, .int l3)]) (st' := [.ref 56]) (by decide +kernel) rfl rfl ?_
    refine ab_fin.q_yN (i := .invokevirtual 64) (k := 3) (y := 780) (As := [.ref 56]) (rest := []) (M' := (mX3_emptySet, [])) (lv2 := [(0, .ref 56)]) (pc' := 26) (X := K) (by decide +kernel) (ab_cv rfl rfl (conc_get (σ := σ) (F.s t0_56)) ⟨(Nat.le_of_ble_eq_true rfl), (Nat.le_of_ble_eq_true rfl)⟩ rfl) rfl (Nat.le_of_ble_eq_true rfl) rfl rfl (hY_no fun E => rfl) w (fun τ2 F3 w => ?_)
    refine ab_fin.s1i (i := .iconst 0) (k := 1) (pc' := 27) (n := 0) (by decide +kernel) rfl (by decide +kernel) rfl ?_
    refine ab_fin.s2 (i := .istore 4) (k := 2) (pc' := 29) (lv' := [(4, .int 0), (0, .ref 56), (1, .int l1), (2, .int l2), (3, .int l3)]) (st' := []) (by decide +kernel) rfl rfl ?_
    exact ab_fin.lv ⟨(List.forall_mem_cons.mpr ⟨(List.Mem.tail _ (List.Mem.head _)), (List.forall_mem_cons.mpr ⟨(List.Mem.tail _ (List.Mem.tail _ (List.Mem.head _))), (List.forall_mem_cons.mpr ⟨(List.Mem.tail _ (List.Mem.tail _ (List.Mem.tail _ (List.Mem.head _)))), (List.forall_mem_cons.mpr ⟨(List.Mem.tail _ (List.Mem.tail _ (List.Mem.tail _ (List.Mem.tail _ (List.Mem.head _))))), (List.forall_mem_cons.mpr ⟨(List.Mem.head _), (fun _ h => absurd h List.not_mem_nil)⟩)⟩)⟩)⟩)⟩), (show ([4, 0, 1, 2, 3] : List Nat).Nodup from by decide)⟩ w
theorem T_X3_countPressed_29 {Z : zT} {d : Nat} {σ : Sg} {l1 : Int32} {l2 : Int32} {l3 : Int32} {l4 : Int32} {K : kS} (F : FX ΦC σ.sh σ.r) (w : ((σ.i 1 14) ≤ l4 → C_X3_countPressed_9 Z (d + 1) σ l1 (l2 * (σ.i 56 12)) (l3 + 1) K) ∧ (¬ (σ.i 1 14) ≤ l4 → ib l4 24 ∧ (C_X3_makeRoomInSet_0 Z d σ  (yN K fun τ2 => ib l1 24 ∧ (ib ((l3 * (24 : Int32)) + (σ.i 38 l4.toNatClampNeg)) 72 ∧ (ib l1 24 ∧ (ib ((l3 * (24 : Int32)) + (σ.i 38 l4.toNatClampNeg)) 72 ∧ (C_X3_addToSet_0 Z d τ2 ((τ2.l 58 l1.toNatClampNeg) &&& (τ2.l 36 (((l3 * (24 : Int32)) + (σ.i 38 l4.toNatClampNeg)).toNatClampNeg))) ((τ2.l 59 l1.toNatClampNeg) &&& (τ2.l 37 (((l3 * (24 : Int32)) + (σ.i 38 l4.toNatClampNeg)).toNatClampNeg))) (yN K fun τ8 => C_X3_countPressed_29 Z (d + 1) τ8 l1 l2 l3 (l4 + 1) K))))))))) : C_X3_countPressed_29 Z (d + 1) σ l1 l2 l3 l4 K := by
  unfold C_X3_countPressed_29
  refine ab_fin.s2 (i := .iload 4) (k := 2) (pc' := 31) (lv' := [(0, .ref 56), (1, .int l1), (2, .int l2), (3, .int l3), (4, .int l4)]) (st' := [.int l4]) (by decide +kernel) rfl rfl ?_
  refine ab_fin.s2 (i := .aload_n 0) (k := 1) (pc' := 32) (lv' := [(0, .ref 56), (1, .int l1), (2, .int l2), (3, .int l3), (4, .int l4)]) (st' := [.ref 56, .int l4]) (by decide +kernel) rfl rfl ?_
  refine ab_fin.q_rA (b := 1) (ix := 43) (ci := 4) (k := 0) (pc' := 35) (by decide +kernel) rfl (c_rA (F.s t0_56) rfl (rC_4_0 F t0_56)) rfl ?_
  refine ab_fin.q_rI (x := (σ.i 1 14)) (ix := 60) (ci := 12) (k := 14) (pc' := 38) (by decide +kernel) rfl (c_rI (F.s t0_1) rfl) rfl ?_
  refine ab_fin.br (c := (σ.i 1 14) ≤ l4) (i := .if_icmp .ge 68) (off := 68) (t := 106) (pc' := 41) (r := []) (by decide +kernel) rfl (by decide +kernel) rfl (fun q => ?_) (fun q => ?_)
  · replace w := w.1 q
    refine ab_fin.s2 (i := .iload_n 2) (k := 1) (pc' := 107) (lv' := [(0, .ref 56), (1, .int l1), (2, .int l2), (3, .int l3), (4, .int l4)]) (st' := [.int l2]) (by decide +kernel) rfl rfl ?_
    refine ab_fin.s2 (i := .aload_n 0) (k := 1) (pc' := 108) (lv' := [(0, .ref 56), (1, .int l1), (2, .int l2), (3, .int l3), (4, .int l4)]) (st' := [.ref 56, .int l2]) (by decide +kernel) rfl rfl ?_
    refine ab_fin.q_rI (x := (σ.i 56 12)) (ix := 83) (ci := 4) (k := 12) (pc' := 111) (by decide +kernel) rfl (c_rI (F.s t0_56) rfl) rfl ?_
    refine ab_fin.s1 (i := .imul) (k := 1) (pc' := 112) (st' := [.int (l2 * (σ.i 56 12))]) (by decide +kernel) rfl rfl ?_
    refine ab_fin.s2 (i := .istore_n 2) (k := 1) (pc' := 113) (lv' := [(2, .int (l2 * (σ.i 56 12))), (0, .ref 56), (1, .int l1), (3, .int l3), (4, .int l4)]) (st' := []) (by decide +kernel) rfl rfl ?_
    refine ab_fin.q_inc (n := 3) (c := 1) (pc' := 116) (lv' := [(3, .int (l3 + 1)), (2, .int (l2 * (σ.i 56 12))), (0, .ref 56), (1, .int l1), (4, .int l4)]) (by decide +kernel) (by decide) rfl rfl rfl rfl ?_
    refine ab_fin.s3 (i := .goto (-107)) (k := 3) (t := 9) (st' := []) (by decide +kernel) (ab_gto (by decide +kernel)) ?_
    exact ab_fin.lv ⟨(List.forall_mem_cons.mpr ⟨(List.Mem.tail _ (List.Mem.tail _ (List.Mem.head _))), (List.forall_mem_cons.mpr ⟨(List.Mem.tail _ (List.Mem.tail _ (List.Mem.tail _ (List.Mem.head _)))), (List.forall_mem_cons.mpr ⟨(List.Mem.tail _ (List.Mem.head _)), (List.forall_mem_cons.mpr ⟨(List.Mem.head _), (fun _ h => absurd h List.not_mem_nil)⟩)⟩)⟩)⟩), (show ([3, 2, 0, 1, 4] : List Nat).Nodup from by decide)⟩ w
  · replace w := w.2 q
    refine ab_fin.s2 (i := .iload_n 3) (k := 1) (pc' := 42) (lv' := [(0, .ref 56), (1, .int l1), (2, .int l2), (3, .int l3), (4, .int l4)]) (st' := [.int l3]) (by decide +kernel) rfl rfl ?_
    refine ab_fin.s1i (i := .bipush 24) (k := 2) (pc' := 44) (n := 24) (by decide +kernel) rfl (by decide +kernel) rfl ?_
    refine ab_fin.s1 (i := .imul) (k := 1) (pc' := 45) (st' := [.int (l3 * (24 : Int32))]) (by decide +kernel) rfl rfl ?_
    refine ab_fin.s2 (i := .aload_n 0) (k := 1) (pc' := 46) (lv' := [(0, .ref 56), (1, .int l1), (2, .int l2), (3, .int l3), (4, .int l4)]) (st' := [.ref 56, .int (l3 * (24 : Int32))]) (by decide +kernel) rfl rfl ?_
    refine ab_fin.q_rA (b := 1) (ix := 43) (ci := 4) (k := 0) (pc' := 49) (by decide +kernel) rfl (c_rA (F.s t0_56) rfl (rC_4_0 F t0_56)) rfl ?_
    refine ab_fin.q_rA (b := 38) (ix := 67) (ci := 12) (k := 13) (pc' := 52) (by decide +kernel) rfl (c_rA (F.s t0_1) rfl (rC_12_13 F t0_1)) rfl ?_
    refine ab_fin.s2 (i := .iload 4) (k := 2) (pc' := 54) (lv' := [(0, .ref 56), (1, .int l1), (2, .int l2), (3, .int l3), (4, .int l4)]) (st' := [.int l4, .ref 38, .int (l3 * (24 : Int32))]) (by decide +kernel) rfl rfl ?_
    obtain ⟨e1, w⟩ := w
    refine ab_fin.q_eI (x := (σ.i 38 l4.toNatClampNeg)) (pc' := 55) (by decide +kernel) (c_eI' (F.s t0_38) e1 rfl) rfl ?_
    refine ab_fin.s1 (i := .iadd) (k := 1) (pc' := 56) (st' := [.int ((l3 * (24 : Int32)) + (σ.i 38 l4.toNatClampNeg))]) (by decide +kernel) rfl rfl ?_
    refine ab_fin.s2 (i := .istore 5) (k := 2) (pc' := 58) (lv' := [(5, .int ((l3 * (24 : Int32)) + (σ.i 38 l4.toNatClampNeg))), (0, .ref 56), (1, .int l1), (2, .int l2), (3, .int l3), (4, .int l4)]) (st' := []) (by decide +kernel) rfl rfl ?_
    refine ab_fin.s2 (i := .aload_n 0) (k := 1) (pc' := 59) (lv' := [(5, .int ((l3 * (24 : Int32)) + (σ.i 38 l4.toNatClampNeg))), (0, .ref 56), (1, .int l1), (2, .int l2), (3, .int l3), (4, .int l4)]) (st' := [.ref 56]) (by decide +kernel) rfl rfl ?_
    refine ab_fin.q_yN (i := .invokevirtual 70) (k := 3) (y := 783) (As := [.ref 56]) (rest := []) (M' := (mX3_makeRoomInSet, [])) (lv2 := [(0, .ref 56)]) (pc' := 62) (X := K) (by decide +kernel) (ab_cv rfl rfl (conc_get (σ := σ) (F.s t0_56)) ⟨(Nat.le_of_ble_eq_true rfl), (Nat.le_of_ble_eq_true rfl)⟩ rfl) rfl (Nat.le_of_ble_eq_true rfl) rfl rfl (hY_no fun E => rfl) w (fun τ2 F3 w => ?_)
    refine ab_fin.s2 (i := .aload_n 0) (k := 1) (pc' := 63) (lv' := [(5, .int ((l3 * (24 : Int32)) + (σ.i 38 l4.toNatClampNeg))), (0, .ref 56), (1, .int l1), (2, .int l2), (3, .int l3), (4, .int l4)]) (st' := [.ref 56]) (by decide +kernel) rfl rfl ?_
    refine ab_fin.s2 (i := .aload_n 0) (k := 1) (pc' := 64) (lv' := [(5, .int ((l3 * (24 : Int32)) + (σ.i 38 l4.toNatClampNeg))), (0, .ref 56), (1, .int l1), (2, .int l2), (3, .int l3), (4, .int l4)]) (st' := [.ref 56, .ref 56]) (by decide +kernel) rfl rfl ?_
    refine ab_fin.q_rA (b := 58) (ix := 15) (ci := 4) (k := 2) (pc' := 67) (by decide +kernel) rfl (c_rA (F3.s t0_56) rfl (rC_4_2 F3 t0_56)) rfl ?_
    refine ab_fin.s2 (i := .iload_n 1) (k := 1) (pc' := 68) (lv' := [(5, .int ((l3 * (24 : Int32)) + (σ.i 38 l4.toNatClampNeg))), (0, .ref 56), (1, .int l1), (2, .int l2), (3, .int l3), (4, .int l4)]) (st' := [.int l1, .ref 58, .ref 56]) (by decide +kernel) rfl rfl ?_
    obtain ⟨e4, w⟩ := w
    refine ab_fin.q_eL (x := (τ2.l 58 l1.toNatClampNeg)) (pc' := 69) (by decide +kernel) (c_eL' (F3.s t0_58) e4 rfl) rfl ?_
    refine ab_fin.s2 (i := .aload_n 0) (k := 1) (pc' := 70) (lv' := [(5, .int ((l3 * (24 : Int32)) + (σ.i 38 l4.toNatClampNeg))), (0, .ref 56), (1, .int l1), (2, .int l2), (3, .int l3), (4, .int l4)]) (st' := [.ref 56, .long (τ2.l 58 l1.toNatClampNeg), .ref 56]) (by decide +kernel) rfl rfl ?_
    refine ab_fin.q_rA (b := 1) (ix := 43) (ci := 4) (k := 0) (pc' := 73) (by decide +kernel) rfl (c_rA (F3.s t0_56) rfl (rC_4_0 F3 t0_56)) rfl ?_
    refine ab_fin.q_rA (b := 36) (ix := 73) (ci := 12) (k := 11) (pc' := 76) (by decide +kernel) rfl (c_rA (F3.s t0_1) rfl (rC_12_11 F3 t0_1)) rfl ?_
    refine ab_fin.s2 (i := .iload 5) (k := 2) (pc' := 78) (lv' := [(5, .int ((l3 * (24 : Int32)) + (σ.i 38 l4.toNatClampNeg))), (0, .ref 56), (1, .int l1), (2, .int l2), (3, .int l3), (4, .int l4)]) (st' := [.int ((l3 * (24 : Int32)) + (σ.i 38 l4.toNatClampNeg)), .ref 36, .long (τ2.l 58 l1.toNatClampNeg), .ref 56]) (by decide +kernel) rfl rfl ?_
    obtain ⟨e5, w⟩ := w
    refine ab_fin.q_eL (x := (τ2.l 36 (((l3 * (24 : Int32)) + (σ.i 38 l4.toNatClampNeg)).toNatClampNeg))) (pc' := 79) (by decide +kernel) (c_eL' (F3.s t0_36) e5 rfl) rfl ?_
    refine ab_fin.s1 (i := .land) (k := 1) (pc' := 80) (st' := [.long ((τ2.l 58 l1.toNatClampNeg) &&& (τ2.l 36 (((l3 * (24 : Int32)) + (σ.i 38 l4.toNatClampNeg)).toNatClampNeg))), .ref 56]) (by decide +kernel) rfl rfl ?_
    refine ab_fin.s2 (i := .aload_n 0) (k := 1) (pc' := 81) (lv' := [(5, .int ((l3 * (24 : Int32)) + (σ.i 38 l4.toNatClampNeg))), (0, .ref 56), (1, .int l1), (2, .int l2), (3, .int l3), (4, .int l4)]) (st' := [.ref 56, .long ((τ2.l 58 l1.toNatClampNeg) &&& (τ2.l 36 (((l3 * (24 : Int32)) + (σ.i 38 l4.toNatClampNeg)).toNatClampNeg))), .ref 56]) (by decide +kernel) rfl rfl ?_
    refine ab_fin.q_rA (b := 59) (ix := 19) (ci := 4) (k := 3) (pc' := 84) (by decide +kernel) rfl (c_rA (F3.s t0_56) rfl (rC_4_3 F3 t0_56)) rfl ?_
    refine ab_fin.s2 (i := .iload_n 1) (k := 1) (pc' := 85) (lv' := [(5, .int ((l3 * (24 : Int32)) + (σ.i 38 l4.toNatClampNeg))), (0, .ref 56), (1, .int l1), (2, .int l2), (3, .int l3), (4, .int l4)]) (st' := [.int l1, .ref 59, .long ((τ2.l 58 l1.toNatClampNeg) &&& (τ2.l 36 (((l3 * (24 : Int32)) + (σ.i 38 l4.toNatClampNeg)).toNatClampNeg))), .ref 56]) (by decide +kernel) rfl rfl ?_
    obtain ⟨e6, w⟩ := w
    refine ab_fin.q_eL (x := (τ2.l 59 l1.toNatClampNeg)) (pc' := 86) (by decide +kernel) (c_eL' (F3.s t0_59) e6 rfl) rfl ?_
    refine ab_fin.s2 (i := .aload_n 0) (k := 1) (pc' := 87) (lv' := [(5, .int ((l3 * (24 : Int32)) + (σ.i 38 l4.toNatClampNeg))), (0, .ref 56), (1, .int l1), (2, .int l2), (3, .int l3), (4, .int l4)]) (st' := [.ref 56, .long (τ2.l 59 l1.toNatClampNeg), .long ((τ2.l 58 l1.toNatClampNeg) &&& (τ2.l 36 (((l3 * (24 : Int32)) + (σ.i 38 l4.toNatClampNeg)).toNatClampNeg))), .ref 56]) (by decide +kernel) rfl rfl ?_
    refine ab_fin.q_rA (b := 1) (ix := 43) (ci := 4) (k := 0) (pc' := 90) (by decide +kernel) rfl (c_rA (F3.s t0_56) rfl (rC_4_0 F3 t0_56)) rfl ?_
    refine ab_fin.q_rA (b := 37) (ix := 76) (ci := 12) (k := 12) (pc' := 93) (by decide +kernel) rfl (c_rA (F3.s t0_1) rfl (rC_12_12 F3 t0_1)) rfl ?_
    refine ab_fin.s2 (i := .iload 5) (k := 2) (pc' := 95) (lv' := [(5, .int ((l3 * (24 : Int32)) + (σ.i 38 l4.toNatClampNeg))), (0, .ref 56), (1, .int l1), (2, .int l2), (3, .int l3), (4, .int l4)]) (st' := [.int ((l3 * (24 : Int32)) + (σ.i 38 l4.toNatClampNeg)), .ref 37, .long (τ2.l 59 l1.toNatClampNeg), .long ((τ2.l 58 l1.toNatClampNeg) &&& (τ2.l 36 (((l3 * (24 : Int32)) + (σ.i 38 l4.toNatClampNeg)).toNatClampNeg))), .ref 56]) (by decide +kernel) rfl rfl ?_
    obtain ⟨e7, w⟩ := w
    refine ab_fin.q_eL (x := (τ2.l 37 (((l3 * (24 : Int32)) + (σ.i 38 l4.toNatClampNeg)).toNatClampNeg))) (pc' := 96) (by decide +kernel) (c_eL' (F3.s t0_37) e7 rfl) rfl ?_
    refine ab_fin.s1 (i := .land) (k := 1) (pc' := 97) (st' := [.long ((τ2.l 59 l1.toNatClampNeg) &&& (τ2.l 37 (((l3 * (24 : Int32)) + (σ.i 38 l4.toNatClampNeg)).toNatClampNeg))), .long ((τ2.l 58 l1.toNatClampNeg) &&& (τ2.l 36 (((l3 * (24 : Int32)) + (σ.i 38 l4.toNatClampNeg)).toNatClampNeg))), .ref 56]) (by decide +kernel) rfl rfl ?_
    refine ab_fin.q_yN (i := .invokevirtual 79) (k := 3) (y := 781) (As := [.ref 56, .long ((τ2.l 58 l1.toNatClampNeg) &&& (τ2.l 36 (((l3 * (24 : Int32)) + (σ.i 38 l4.toNatClampNeg)).toNatClampNeg))), .long ((τ2.l 59 l1.toNatClampNeg) &&& (τ2.l 37 (((l3 * (24 : Int32)) + (σ.i 38 l4.toNatClampNeg)).toNatClampNeg)))]) (rest := []) (M' := (mX3_addToSet, [])) (lv2 := [(0, .ref 56), (1, .long ((τ2.l 58 l1.toNatClampNeg) &&& (τ2.l 36 (((l3 * (24 : Int32)) + (σ.i 38 l4.toNatClampNeg)).toNatClampNeg)))), (3, .long ((τ2.l 59 l1.toNatClampNeg) &&& (τ2.l 37 (((l3 * (24 : Int32)) + (σ.i 38 l4.toNatClampNeg)).toNatClampNeg))))]) (pc' := 100) (X := K) (by decide +kernel) (ab_cv rfl rfl (conc_get (σ := τ2) (F3.s t0_56)) ⟨(Nat.le_of_ble_eq_true rfl), (Nat.le_of_ble_eq_true rfl)⟩ rfl) rfl (Nat.le_of_ble_eq_true rfl) rfl rfl (hY_no fun E => rfl) w (fun τ8 F9 w => ?_)
    refine ab_fin.q_inc (n := 4) (c := 1) (pc' := 103) (lv' := [(4, .int (l4 + 1)), (5, .int ((l3 * (24 : Int32)) + (σ.i 38 l4.toNatClampNeg))), (0, .ref 56), (1, .int l1), (2, .int l2), (3, .int l3)]) (by decide +kernel) (by decide) rfl rfl rfl rfl ?_
    refine ab_fin.s3 (i := .goto (-74)) (k := 3) (t := 29) (st' := []) (by decide +kernel) (ab_gto (by decide +kernel)) ?_
    exact ab_fin.lv ⟨(List.forall_mem_cons.mpr ⟨(List.Mem.tail _ (List.Mem.tail _ (List.Mem.head _))), (List.forall_mem_cons.mpr ⟨(List.Mem.tail _ (List.Mem.tail _ (List.Mem.tail _ (List.Mem.head _)))), (List.forall_mem_cons.mpr ⟨(List.Mem.tail _ (List.Mem.tail _ (List.Mem.tail _ (List.Mem.tail _ (List.Mem.head _))))), (List.forall_mem_cons.mpr ⟨(List.Mem.tail _ (List.Mem.tail _ (List.Mem.tail _ (List.Mem.tail _ (List.Mem.tail _ (List.Mem.head _)))))), (List.forall_mem_cons.mpr ⟨(List.Mem.head _), (fun _ h => absurd h List.not_mem_nil)⟩)⟩)⟩)⟩)⟩), (show ([4, 5, 0, 1, 2, 3] : List Nat).Nodup from by decide)⟩ w
theorem T_X3_countNodes_0 {Z : zT} {d : Nat} {σ : Sg} {l1 : Int32} {K : kS} (F : FX ΦC σ.sh σ.r) (w : C_X3_plan_0 Z d σ l1 (yN K fun τ1 => ib l1 24 ∧ (K (.inl (some (.int (τ1.i 63 l1.toNatClampNeg)))) τ1))) : C_X3_countNodes_0 Z (d + 1) σ l1 K := by
  unfold C_X3_countNodes_0
  refine ab_fin.s2 (i := .aload_n 0) (k := 1) (pc' := 1) (lv' := [(0, .ref 56), (1, .int l1)]) (st' := [.ref 56]) (by decide +kernel) rfl rfl ?_
  refine ab_fin.s2 (i := .iload_n 1) (k := 1) (pc' := 2) (lv' := [(0, .ref 56), (1, .int l1)]) (st' := [.int l1, .ref 56]) (by decide +kernel) rfl rfl ?_
  refine ab_fin.q_yN (i := .invokevirtual 47) (k := 3) (y := 776) (As := [.ref 56, .int l1]) (rest := []) (M' := (mX3_plan, [])) (lv2 := [(0, .ref 56), (1, .int l1)]) (pc' := 5) (X := K) (by decide +kernel) (ab_cv rfl rfl (conc_get (σ := σ) (F.s t0_56)) ⟨(Nat.le_of_ble_eq_true rfl), (Nat.le_of_ble_eq_true rfl)⟩ rfl) rfl (Nat.le_of_ble_eq_true rfl) rfl rfl (hY_no fun E => rfl) w (fun τ1 F2 w => ?_)
  refine ab_fin.s2 (i := .aload_n 0) (k := 1) (pc' := 6) (lv' := [(0, .ref 56), (1, .int l1)]) (st' := [.ref 56]) (by decide +kernel) rfl rfl ?_
  refine ab_fin.q_rA (b := 63) (ix := 31) (ci := 4) (k := 7) (pc' := 9) (by decide +kernel) rfl (c_rA (F2.s t0_56) rfl (rC_4_7 F2 t0_56)) rfl ?_
  refine ab_fin.s2 (i := .iload_n 1) (k := 1) (pc' := 10) (lv' := [(0, .ref 56), (1, .int l1)]) (st' := [.int l1, .ref 63]) (by decide +kernel) rfl rfl ?_
  obtain ⟨e3, w⟩ := w
  refine ab_fin.q_eI (x := (τ1.i 63 l1.toNatClampNeg)) (pc' := 11) (by decide +kernel) (c_eI' (F2.s t0_63) e3 rfl) rfl ?_
  exact ab_fin.q_ret (i := .ireturn) (k := 1) (v := some (.int (τ1.i 63 l1.toNatClampNeg))) (by decide +kernel) rfl F2 w
theorem T_X3_looksFor_0 {Z : zT} {d : Nat} {σ : Sg} {l1 : Int32} {l2 : Int32} {l3 : Nat} {K : kS} (F : FX ΦC σ.sh σ.r) (w : (l2 = 0 → C_X11_methodsOf_0 Z d σ l1 (yI K fun v3 τ1 => K (.inl (some (.int v3))) τ1)) ∧ (l2 = 1 → K (.inl (some (.int 1))) σ) ∧ (l2 = 2 → ib l1 24 ∧ (K (.inl (some (.int ((σ.i 31 l1.toNatClampNeg) + (1 : Int32))))) σ)) ∧ (¬ l2 = 0 → ¬ l2 = 1 → ¬ l2 = 2 → C_X3_plan_0 Z d σ l1 (yN K fun τ5 => C_X3_looksInTree_0 Z d τ5 l1 l3 (yI K fun v9 τ7 => K (.inl (some (.int v9))) τ7)))) : C_X3_looksFor_0 Z (d + 1) σ l1 l2 l3 K := by
  unfold C_X3_looksFor_0
  refine ab_fin.s2 (i := .iload_n 2) (k := 1) (pc' := 1) (lv' := [(0, .ref 56), (1, .int l1), (2, .int l2), (3, .ref l3)]) (st' := [.int l2]) (by decide +kernel) rfl rfl ?_
  by_cases q0 : l2 = 0
  · refine ab_fin.s3 (i := .tableswitch 50 0 2 #[27, 36, 38]) (k := 27) (t := 28) (st' := []) (by decide +kernel) (by rw [q0]; exact ab_swI (off := 27) (by decide +kernel) (by decide +kernel) (by decide +kernel)) ?_
    replace w := w.1 q0
    refine ab_fin.s2 (i := .aload_n 0) (k := 1) (pc' := 29) (lv' := [(0, .ref 56), (1, .int l1), (2, .int l2), (3, .ref l3)]) (st' := [.ref 56]) (by decide +kernel) rfl rfl ?_
    refine ab_fin.q_rA (b := 1) (ix := 43) (ci := 4) (k := 0) (pc' := 32) (by decide +kernel) rfl (c_rA (F.s t0_56) rfl (rC_4_0 F t0_56)) rfl ?_
    refine ab_fin.s2 (i := .iload_n 1) (k := 1) (pc' := 33) (lv' := [(0, .ref 56), (1, .int l1), (2, .int l2), (3, .ref l3)]) (st' := [.int l1, .ref 1]) (by decide +kernel) rfl rfl ?_
    refine ab_fin.q_yI (i := .invokevirtual 86) (k := 3) (y := 2827) (As := [.ref 1, .int l1]) (rest := []) (M' := (mX11_methodsOf, [])) (lv2 := [(0, .ref 1), (1, .int l1)]) (pc' := 36) (X := K) (by decide +kernel) (ab_cv rfl rfl (conc_get (σ := σ) (F.s t0_1)) ⟨(Nat.le_of_ble_eq_true rfl), (Nat.le_of_ble_eq_true rfl)⟩ rfl) rfl (Nat.le_of_ble_eq_true rfl) rfl rfl (hY_no fun E => rfl) w (fun v3 τ1 F2 w => ?_)
    exact ab_fin.q_ret (i := .ireturn) (k := 1) (v := some (.int v3)) (by decide +kernel) rfl F2 w
  by_cases q1 : l2 = 1
  · refine ab_fin.s3 (i := .tableswitch 50 0 2 #[27, 36, 38]) (k := 27) (t := 37) (st' := []) (by decide +kernel) (by rw [q1]; exact ab_swI (off := 36) (by decide +kernel) (by decide +kernel) (by decide +kernel)) ?_
    replace w := w.2.1 q1
    refine ab_fin.s1i (i := .iconst 1) (k := 1) (pc' := 38) (n := 1) (by decide +kernel) rfl (by decide +kernel) rfl ?_
    exact ab_fin.q_ret (i := .ireturn) (k := 1) (v := some (.int 1)) (by decide +kernel) rfl F w
  by_cases q2 : l2 = 2
  · refine ab_fin.s3 (i := .tableswitch 50 0 2 #[27, 36, 38]) (k := 27) (t := 39) (st' := []) (by decide +kernel) (by rw [q2]; exact ab_swI (off := 38) (by decide +kernel) (by decide +kernel) (by decide +kernel)) ?_
    replace w := w.2.2.1 q2
    refine ab_fin.s2 (i := .aload_n 0) (k := 1) (pc' := 40) (lv' := [(0, .ref 56), (1, .int l1), (2, .int l2), (3, .ref l3)]) (st' := [.ref 56]) (by decide +kernel) rfl rfl ?_
    refine ab_fin.q_rA (b := 1) (ix := 43) (ci := 4) (k := 0) (pc' := 43) (by decide +kernel) rfl (c_rA (F.s t0_56) rfl (rC_4_0 F t0_56)) rfl ?_
    refine ab_fin.q_rA (b := 31) (ix := 51) (ci := 12) (k := 6) (pc' := 46) (by decide +kernel) rfl (c_rA (F.s t0_1) rfl (rC_12_6 F t0_1)) rfl ?_
    refine ab_fin.s2 (i := .iload_n 1) (k := 1) (pc' := 47) (lv' := [(0, .ref 56), (1, .int l1), (2, .int l2), (3, .ref l3)]) (st' := [.int l1, .ref 31]) (by decide +kernel) rfl rfl ?_
    obtain ⟨e4, w⟩ := w
    refine ab_fin.q_eI (x := (σ.i 31 l1.toNatClampNeg)) (pc' := 48) (by decide +kernel) (c_eI' (F.s t0_31) e4 rfl) rfl ?_
    refine ab_fin.s1i (i := .iconst 1) (k := 1) (pc' := 49) (n := 1) (by decide +kernel) rfl (by decide +kernel) rfl ?_
    refine ab_fin.s1 (i := .iadd) (k := 1) (pc' := 50) (st' := [.int ((σ.i 31 l1.toNatClampNeg) + (1 : Int32))]) (by decide +kernel) rfl rfl ?_
    exact ab_fin.q_ret (i := .ireturn) (k := 1) (v := some (.int ((σ.i 31 l1.toNatClampNeg) + (1 : Int32)))) (by decide +kernel) rfl F w
  have hsw : ab_s3 (.tableswitch 50 0 2 #[27, 36, 38]) 27 1 (.int l2 :: []) = some (51, []) := by
    clear w
    have qd : Int32.toInt l2 < 0 ∨ 2 < Int32.toInt l2 := by
      simp only [← Int32.toInt_inj, show (0 : Int32).toInt = 0 from rfl, show (1 : Int32).toInt = 1 from rfl, show (2 : Int32).toInt = 2 from rfl] at q0 q1 q2 
      omega
    exact ab_swD qd (by decide +kernel)
  refine ab_fin.s3 (i := .tableswitch 50 0 2 #[27, 36, 38]) (k := 27) (t := 51) (st' := []) (by decide +kernel) hsw ?_
  replace w := w.2.2.2 q0 q1 q2
  refine ab_fin.s2 (i := .aload_n 0) (k := 1) (pc' := 52) (lv' := [(0, .ref 56), (1, .int l1), (2, .int l2), (3, .ref l3)]) (st' := [.ref 56]) (by decide +kernel) rfl rfl ?_
  refine ab_fin.s2 (i := .iload_n 1) (k := 1) (pc' := 53) (lv' := [(0, .ref 56), (1, .int l1), (2, .int l2), (3, .ref l3)]) (st' := [.int l1, .ref 56]) (by decide +kernel) rfl rfl ?_
  refine ab_fin.q_yN (i := .invokevirtual 47) (k := 3) (y := 776) (As := [.ref 56, .int l1]) (rest := []) (M' := (mX3_plan, [])) (lv2 := [(0, .ref 56), (1, .int l1)]) (pc' := 56) (X := K) (by decide +kernel) (ab_cv rfl rfl (conc_get (σ := σ) (F.s t0_56)) ⟨(Nat.le_of_ble_eq_true rfl), (Nat.le_of_ble_eq_true rfl)⟩ rfl) rfl (Nat.le_of_ble_eq_true rfl) rfl rfl (hY_no fun E => rfl) w (fun τ5 F6 w => ?_)
  refine ab_fin.s2 (i := .aload_n 0) (k := 1) (pc' := 57) (lv' := [(0, .ref 56), (1, .int l1), (2, .int l2), (3, .ref l3)]) (st' := [.ref 56]) (by decide +kernel) rfl rfl ?_
  refine ab_fin.s2 (i := .iload_n 1) (k := 1) (pc' := 58) (lv' := [(0, .ref 56), (1, .int l1), (2, .int l2), (3, .ref l3)]) (st' := [.int l1, .ref 56]) (by decide +kernel) rfl rfl ?_
  refine ab_fin.s2 (i := .aload_n 3) (k := 1) (pc' := 59) (lv' := [(0, .ref 56), (1, .int l1), (2, .int l2), (3, .ref l3)]) (st' := [.ref l3, .int l1, .ref 56]) (by decide +kernel) rfl rfl ?_
  refine ab_fin.q_yI (i := .invokevirtual 90) (k := 3) (y := 774) (As := [.ref 56, .int l1, .ref l3]) (rest := []) (M' := (mX3_looksInTree, [])) (lv2 := [(0, .ref 56), (1, .int l1), (2, .ref l3)]) (pc' := 62) (X := K) (by decide +kernel) (ab_cv rfl rfl (conc_get (σ := τ5) (F6.s t0_56)) ⟨(Nat.le_of_ble_eq_true rfl), (Nat.le_of_ble_eq_true rfl)⟩ rfl) rfl (Nat.le_of_ble_eq_true rfl) rfl rfl (hY_no fun E => rfl) w (fun v9 τ7 F8 w => ?_)
  exact ab_fin.q_ret (i := .ireturn) (k := 1) (v := some (.int v9)) (by decide +kernel) rfl F8 w
theorem T_X3_looksInTree_0 {Z : zT} {d : Nat} {σ : Sg} {l1 : Int32} {l2 : Nat} {K : kS} (F : FX ΦC σ.sh σ.r) (w : ib l1 24 ∧ (ib l1 24 ∧ (C_X3_looksInTree_21 Z (d + 1) σ l1 l2 1 (σ.l 58 l1.toNatClampNeg) (σ.l 59 l1.toNatClampNeg) 0 K))) : C_X3_looksInTree_0 Z (d + 1) σ l1 l2 K := by
  unfold C_X3_looksInTree_0
  refine ab_fin.s1i (i := .iconst 1) (k := 1) (pc' := 1) (n := 1) (by decide +kernel) rfl (by decide +kernel) rfl ?_
  refine ab_fin.s2 (i := .istore_n 3) (k := 1) (pc' := 2) (lv' := [(3, .int 1), (0, .ref 56), (1, .int l1), (2, .ref l2)]) (st' := []) (by decide +kernel) rfl rfl ?_
  refine ab_fin.s2 (i := .aload_n 0) (k := 1) (pc' := 3) (lv' := [(3, .int 1), (0, .ref 56), (1, .int l1), (2, .ref l2)]) (st' := [.ref 56]) (by decide +kernel) rfl rfl ?_
  refine ab_fin.q_rA (b := 58) (ix := 15) (ci := 4) (k := 2) (pc' := 6) (by decide +kernel) rfl (c_rA (F.s t0_56) rfl (rC_4_2 F t0_56)) rfl ?_
  refine ab_fin.s2 (i := .iload_n 1) (k := 1) (pc' := 7) (lv' := [(3, .int 1), (0, .ref 56), (1, .int l1), (2, .ref l2)]) (st' := [.int l1, .ref 58]) (by decide +kernel) rfl rfl ?_
  obtain ⟨e1, w⟩ := w
  refine ab_fin.q_eL (x := (σ.l 58 l1.toNatClampNeg)) (pc' := 8) (by decide +kernel) (c_eL' (F.s t0_58) e1 rfl) rfl ?_
  refine ab_fin.s2 (i := .lstore 4) (k := 2) (pc' := 10) (lv' := [(4, .long (σ.l 58 l1.toNatClampNeg)), (3, .int 1), (0, .ref 56), (1, .int l1), (2, .ref l2)]) (st' := []) (by decide +kernel) rfl rfl ?_
  refine ab_fin.s2 (i := .aload_n 0) (k := 1) (pc' := 11) (lv' := [(4, .long (σ.l 58 l1.toNatClampNeg)), (3, .int 1), (0, .ref 56), (1, .int l1), (2, .ref l2)]) (st' := [.ref 56]) (by decide +kernel) rfl rfl ?_
  refine ab_fin.q_rA (b := 59) (ix := 19) (ci := 4) (k := 3) (pc' := 14) (by decide +kernel) rfl (c_rA (F.s t0_56) rfl (rC_4_3 F t0_56)) rfl ?_
  refine ab_fin.s2 (i := .iload_n 1) (k := 1) (pc' := 15) (lv' := [(4, .long (σ.l 58 l1.toNatClampNeg)), (3, .int 1), (0, .ref 56), (1, .int l1), (2, .ref l2)]) (st' := [.int l1, .ref 59]) (by decide +kernel) rfl rfl ?_
  obtain ⟨e2, w⟩ := w
  refine ab_fin.q_eL (x := (σ.l 59 l1.toNatClampNeg)) (pc' := 16) (by decide +kernel) (c_eL' (F.s t0_59) e2 rfl) rfl ?_
  refine ab_fin.s2 (i := .lstore 6) (k := 2) (pc' := 18) (lv' := [(6, .long (σ.l 59 l1.toNatClampNeg)), (4, .long (σ.l 58 l1.toNatClampNeg)), (3, .int 1), (0, .ref 56), (1, .int l1), (2, .ref l2)]) (st' := []) (by decide +kernel) rfl rfl ?_
  refine ab_fin.s1i (i := .iconst 0) (k := 1) (pc' := 19) (n := 0) (by decide +kernel) rfl (by decide +kernel) rfl ?_
  refine ab_fin.s2 (i := .istore 8) (k := 2) (pc' := 21) (lv' := [(8, .int 0), (6, .long (σ.l 59 l1.toNatClampNeg)), (4, .long (σ.l 58 l1.toNatClampNeg)), (3, .int 1), (0, .ref 56), (1, .int l1), (2, .ref l2)]) (st' := []) (by decide +kernel) rfl rfl ?_
  exact ab_fin.lv ⟨(List.forall_mem_cons.mpr ⟨(List.Mem.tail _ (List.Mem.tail _ (List.Mem.tail _ (List.Mem.tail _ (List.Mem.head _))))), (List.forall_mem_cons.mpr ⟨(List.Mem.tail _ (List.Mem.tail _ (List.Mem.tail _ (List.Mem.tail _ (List.Mem.tail _ (List.Mem.head _)))))), (List.forall_mem_cons.mpr ⟨(List.Mem.tail _ (List.Mem.tail _ (List.Mem.tail _ (List.Mem.tail _ (List.Mem.tail _ (List.Mem.tail _ (List.Mem.head _))))))), (List.forall_mem_cons.mpr ⟨(List.Mem.tail _ (List.Mem.tail _ (List.Mem.tail _ (List.Mem.head _)))), (List.forall_mem_cons.mpr ⟨(List.Mem.tail _ (List.Mem.tail _ (List.Mem.head _))), (List.forall_mem_cons.mpr ⟨(List.Mem.tail _ (List.Mem.head _)), (List.forall_mem_cons.mpr ⟨(List.Mem.head _), (fun _ h => absurd h List.not_mem_nil)⟩)⟩)⟩)⟩)⟩)⟩)⟩), (show ([8, 6, 4, 3, 0, 1, 2] : List Nat).Nodup from by decide)⟩ w
theorem T_X3_looksInTree_21 {Z : zT} {d : Nat} {σ : Sg} {l1 : Int32} {l2 : Nat} {l3 : Int32} {l4 : Int64} {l6 : Int64} {l8 : Int32} {K : kS} (F : FX ΦC σ.sh σ.r) (w : ib l1 24 ∧ (((σ.i 31 l1.toNatClampNeg) ≤ l8 → K (.inl (some (.int l3))) σ) ∧ (¬ (σ.i 31 l1.toNatClampNeg) ≤ l8 → ib l1 24 ∧ (∃ v3, xJ0 3 ((σ.i 62 l1.toNatClampNeg) + l8) v3 ∧ (C_X3_matters_0 Z d σ l1 v3 l4 l6 (yI K fun v7 τ5 => (v7 = 0 → C_X3_looksInTree_67 Z (d + 1) τ5 l1 l2 l3 l4 l6 l8 v3 K) ∧ (¬ v7 = 0 → C_X3_looksInTree_67 Z (d + 1) τ5 l1 l2 (l3 + 1) l4 l6 l8 v3 K))))))) : C_X3_looksInTree_21 Z (d + 1) σ l1 l2 l3 l4 l6 l8 K := by
  unfold C_X3_looksInTree_21
  refine ab_fin.s2 (i := .iload 8) (k := 2) (pc' := 23) (lv' := [(0, .ref 56), (1, .int l1), (2, .ref l2), (3, .int l3), (4, .long l4), (6, .long l6), (8, .int l8)]) (st' := [.int l8]) (by decide +kernel) rfl rfl ?_
  refine ab_fin.s2 (i := .aload_n 0) (k := 1) (pc' := 24) (lv' := [(0, .ref 56), (1, .int l1), (2, .ref l2), (3, .int l3), (4, .long l4), (6, .long l6), (8, .int l8)]) (st' := [.ref 56, .int l8]) (by decide +kernel) rfl rfl ?_
  refine ab_fin.q_rA (b := 1) (ix := 43) (ci := 4) (k := 0) (pc' := 27) (by decide +kernel) rfl (c_rA (F.s t0_56) rfl (rC_4_0 F t0_56)) rfl ?_
  refine ab_fin.q_rA (b := 31) (ix := 51) (ci := 12) (k := 6) (pc' := 30) (by decide +kernel) rfl (c_rA (F.s t0_1) rfl (rC_12_6 F t0_1)) rfl ?_
  refine ab_fin.s2 (i := .iload_n 1) (k := 1) (pc' := 31) (lv' := [(0, .ref 56), (1, .int l1), (2, .ref l2), (3, .int l3), (4, .long l4), (6, .long l6), (8, .int l8)]) (st' := [.int l1, .ref 31, .int l8]) (by decide +kernel) rfl rfl ?_
  obtain ⟨e1, w⟩ := w
  refine ab_fin.q_eI (x := (σ.i 31 l1.toNatClampNeg)) (pc' := 32) (by decide +kernel) (c_eI' (F.s t0_31) e1 rfl) rfl ?_
  refine ab_fin.br (c := (σ.i 31 l1.toNatClampNeg) ≤ l8) (i := .if_icmp .ge 87) (off := 87) (t := 119) (pc' := 35) (r := []) (by decide +kernel) rfl (by decide +kernel) rfl (fun q => ?_) (fun q => ?_)
  · replace w := w.1 q
    refine ab_fin.s2 (i := .iload_n 3) (k := 1) (pc' := 120) (lv' := [(0, .ref 56), (1, .int l1), (2, .ref l2), (3, .int l3), (4, .long l4), (6, .long l6), (8, .int l8)]) (st' := [.int l3]) (by decide +kernel) rfl rfl ?_
    exact ab_fin.q_ret (i := .ireturn) (k := 1) (v := some (.int l3)) (by decide +kernel) rfl F w
  · replace w := w.2 q
    refine ab_fin.s8 (i := .getstatic 94) (k := 3) (pc' := 38) (st' := [.retAddr 3]) (by decide +kernel) rfl rfl rfl rfl ?_
    refine ab_fin.s2 (i := .aload_n 0) (k := 1) (pc' := 39) (lv' := [(0, .ref 56), (1, .int l1), (2, .ref l2), (3, .int l3), (4, .long l4), (6, .long l6), (8, .int l8)]) (st' := [.ref 56, .retAddr 3]) (by decide +kernel) rfl rfl ?_
    refine ab_fin.q_rA (b := 62) (ix := 28) (ci := 4) (k := 6) (pc' := 42) (by decide +kernel) rfl (c_rA (F.s t0_56) rfl (rC_4_6 F t0_56)) rfl ?_
    refine ab_fin.s2 (i := .iload_n 1) (k := 1) (pc' := 43) (lv' := [(0, .ref 56), (1, .int l1), (2, .ref l2), (3, .int l3), (4, .long l4), (6, .long l6), (8, .int l8)]) (st' := [.int l1, .ref 62, .retAddr 3]) (by decide +kernel) rfl rfl ?_
    obtain ⟨e2, w⟩ := w
    refine ab_fin.q_eI (x := (σ.i 62 l1.toNatClampNeg)) (pc' := 44) (by decide +kernel) (c_eI' (F.s t0_62) e2 rfl) rfl ?_
    refine ab_fin.s2 (i := .iload 8) (k := 2) (pc' := 46) (lv' := [(0, .ref 56), (1, .int l1), (2, .ref l2), (3, .int l3), (4, .long l4), (6, .long l6), (8, .int l8)]) (st' := [.int l8, .int (σ.i 62 l1.toNatClampNeg), .retAddr 3]) (by decide +kernel) rfl rfl ?_
    refine ab_fin.s1 (i := .iadd) (k := 1) (pc' := 47) (st' := [.int ((σ.i 62 l1.toNatClampNeg) + l8), .retAddr 3]) (by decide +kernel) rfl rfl ?_
    obtain ⟨v3, e4, w⟩ := w
    refine ab_fin.q_x0 (pc' := 48) (by decide +kernel) e4 rfl ?_
    refine ab_fin.s2 (i := .istore 9) (k := 2) (pc' := 50) (lv' := [(9, .int v3), (0, .ref 56), (1, .int l1), (2, .ref l2), (3, .int l3), (4, .long l4), (6, .long l6), (8, .int l8)]) (st' := []) (by decide +kernel) rfl rfl ?_
    refine ab_fin.s2 (i := .aload_n 0) (k := 1) (pc' := 51) (lv' := [(9, .int v3), (0, .ref 56), (1, .int l1), (2, .ref l2), (3, .int l3), (4, .long l4), (6, .long l6), (8, .int l8)]) (st' := [.ref 56]) (by decide +kernel) rfl rfl ?_
    refine ab_fin.s2 (i := .iload_n 1) (k := 1) (pc' := 52) (lv' := [(9, .int v3), (0, .ref 56), (1, .int l1), (2, .ref l2), (3, .int l3), (4, .long l4), (6, .long l6), (8, .int l8)]) (st' := [.int l1, .ref 56]) (by decide +kernel) rfl rfl ?_
    refine ab_fin.s2 (i := .iload 9) (k := 2) (pc' := 54) (lv' := [(9, .int v3), (0, .ref 56), (1, .int l1), (2, .ref l2), (3, .int l3), (4, .long l4), (6, .long l6), (8, .int l8)]) (st' := [.int v3, .int l1, .ref 56]) (by decide +kernel) rfl rfl ?_
    refine ab_fin.s2 (i := .lload 4) (k := 2) (pc' := 56) (lv' := [(9, .int v3), (0, .ref 56), (1, .int l1), (2, .ref l2), (3, .int l3), (4, .long l4), (6, .long l6), (8, .int l8)]) (st' := [.long l4, .int v3, .int l1, .ref 56]) (by decide +kernel) rfl rfl ?_
    refine ab_fin.s2 (i := .lload 6) (k := 2) (pc' := 58) (lv' := [(9, .int v3), (0, .ref 56), (1, .int l1), (2, .ref l2), (3, .int l3), (4, .long l4), (6, .long l6), (8, .int l8)]) (st' := [.long l6, .long l4, .int v3, .int l1, .ref 56]) (by decide +kernel) rfl rfl ?_
    refine ab_fin.q_yI (i := .invokevirtual 97) (k := 3) (y := 775) (As := [.ref 56, .int l1, .int v3, .long l4, .long l6]) (rest := []) (M' := (mX3_matters, [])) (lv2 := [(0, .ref 56), (1, .int l1), (2, .int v3), (3, .long l4), (5, .long l6)]) (pc' := 61) (X := K) (by decide +kernel) (ab_cv rfl rfl (conc_get (σ := σ) (F.s t0_56)) ⟨(Nat.le_of_ble_eq_true rfl), (Nat.le_of_ble_eq_true rfl)⟩ rfl) rfl (Nat.le_of_ble_eq_true rfl) rfl rfl (hY_no fun E => rfl) w (fun v7 τ5 F6 w => ?_)
    refine ab_fin.br (c := v7 = 0) (i := .ifCond .eq 6) (off := 6) (t := 67) (pc' := 64) (r := []) (by decide +kernel) rfl (by decide +kernel) rfl (fun q => ?_) (fun q => ?_)
    · replace w := w.1 q
      exact ab_fin.lv ⟨(List.forall_mem_cons.mpr ⟨(List.Mem.tail _ (List.Mem.head _)), (List.forall_mem_cons.mpr ⟨(List.Mem.tail _ (List.Mem.tail _ (List.Mem.head _))), (List.forall_mem_cons.mpr ⟨(List.Mem.tail _ (List.Mem.tail _ (List.Mem.tail _ (List.Mem.head _)))), (List.forall_mem_cons.mpr ⟨(List.Mem.tail _ (List.Mem.tail _ (List.Mem.tail _ (List.Mem.tail _ (List.Mem.head _))))), (List.forall_mem_cons.mpr ⟨(List.Mem.tail _ (List.Mem.tail _ (List.Mem.tail _ (List.Mem.tail _ (List.Mem.tail _ (List.Mem.head _)))))), (List.forall_mem_cons.mpr ⟨(List.Mem.tail _ (List.Mem.tail _ (List.Mem.tail _ (List.Mem.tail _ (List.Mem.tail _ (List.Mem.tail _ (List.Mem.head _))))))), (List.forall_mem_cons.mpr ⟨(List.Mem.tail _ (List.Mem.tail _ (List.Mem.tail _ (List.Mem.tail _ (List.Mem.tail _ (List.Mem.tail _ (List.Mem.tail _ (List.Mem.head _)))))))), (List.forall_mem_cons.mpr ⟨(List.Mem.head _), (fun _ h => absurd h List.not_mem_nil)⟩)⟩)⟩)⟩)⟩)⟩)⟩)⟩), (show ([9, 0, 1, 2, 3, 4, 6, 8] : List Nat).Nodup from by decide)⟩ w
    · replace w := w.2 q
      refine ab_fin.q_inc (n := 3) (c := 1) (pc' := 67) (lv' := [(3, .int (l3 + 1)), (9, .int v3), (0, .ref 56), (1, .int l1), (2, .ref l2), (4, .long l4), (6, .long l6), (8, .int l8)]) (by decide +kernel) (by decide) rfl rfl rfl rfl ?_
      exact ab_fin.lv ⟨(List.forall_mem_cons.mpr ⟨(List.Mem.tail _ (List.Mem.tail _ (List.Mem.head _))), (List.forall_mem_cons.mpr ⟨(List.Mem.tail _ (List.Mem.tail _ (List.Mem.tail _ (List.Mem.head _)))), (List.forall_mem_cons.mpr ⟨(List.Mem.tail _ (List.Mem.tail _ (List.Mem.tail _ (List.Mem.tail _ (List.Mem.head _))))), (List.forall_mem_cons.mpr ⟨(List.Mem.head _), (List.forall_mem_cons.mpr ⟨(List.Mem.tail _ (List.Mem.tail _ (List.Mem.tail _ (List.Mem.tail _ (List.Mem.tail _ (List.Mem.head _)))))), (List.forall_mem_cons.mpr ⟨(List.Mem.tail _ (List.Mem.tail _ (List.Mem.tail _ (List.Mem.tail _ (List.Mem.tail _ (List.Mem.tail _ (List.Mem.head _))))))), (List.forall_mem_cons.mpr ⟨(List.Mem.tail _ (List.Mem.tail _ (List.Mem.tail _ (List.Mem.tail _ (List.Mem.tail _ (List.Mem.tail _ (List.Mem.tail _ (List.Mem.head _)))))))), (List.forall_mem_cons.mpr ⟨(List.Mem.tail _ (List.Mem.head _)), (fun _ h => absurd h List.not_mem_nil)⟩)⟩)⟩)⟩)⟩)⟩)⟩)⟩), (show ([3, 9, 0, 1, 2, 4, 6, 8] : List Nat).Nodup from by decide)⟩ w
theorem T_X3_looksInTree_67 {Z : zT} {d : Nat} {σ : Sg} {l1 : Int32} {l2 : Nat} {l3 : Int32} {l4 : Int64} {l6 : Int64} {l8 : Int32} {l9 : Int32} {K : kS} (F : FX ΦC σ.sh σ.r) (w : ∃ n2, σ.sh[l2]? = some (Sh.arr 0 n2) ∧ (ib l9 n2 ∧ (ib ((l9 * (24 : Int32)) + (σ.i l2 l9.toNatClampNeg)) 72 ∧ (ib l9 n2 ∧ (ib ((l9 * (24 : Int32)) + (σ.i l2 l9.toNatClampNeg)) 72 ∧ (C_X3_looksInTree_21 Z (d + 1) σ l1 l2 l3 (l4 &&& (σ.l 36 (((l9 * (24 : Int32)) + (σ.i l2 l9.toNatClampNeg)).toNatClampNeg))) (l6 &&& (σ.l 37 (((l9 * (24 : Int32)) + (σ.i l2 l9.toNatClampNeg)).toNatClampNeg))) (l8 + 1) K)))))) : C_X3_looksInTree_67 Z (d + 1) σ l1 l2 l3 l4 l6 l8 l9 K := by
  unfold C_X3_looksInTree_67
  refine ab_fin.s2 (i := .lload 4) (k := 2) (pc' := 69) (lv' := [(0, .ref 56), (1, .int l1), (2, .ref l2), (3, .int l3), (4, .long l4), (6, .long l6), (8, .int l8), (9, .int l9)]) (st' := [.long l4]) (by decide +kernel) rfl rfl ?_
  refine ab_fin.s2 (i := .aload_n 0) (k := 1) (pc' := 70) (lv' := [(0, .ref 56), (1, .int l1), (2, .ref l2), (3, .int l3), (4, .long l4), (6, .long l6), (8, .int l8), (9, .int l9)]) (st' := [.ref 56, .long l4]) (by decide +kernel) rfl rfl ?_
  refine ab_fin.q_rA (b := 1) (ix := 43) (ci := 4) (k := 0) (pc' := 73) (by decide +kernel) rfl (c_rA (F.s t0_56) rfl (rC_4_0 F t0_56)) rfl ?_
  refine ab_fin.q_rA (b := 36) (ix := 73) (ci := 12) (k := 11) (pc' := 76) (by decide +kernel) rfl (c_rA (F.s t0_1) rfl (rC_12_11 F t0_1)) rfl ?_
  refine ab_fin.s2 (i := .iload 9) (k := 2) (pc' := 78) (lv' := [(0, .ref 56), (1, .int l1), (2, .ref l2), (3, .int l3), (4, .long l4), (6, .long l6), (8, .int l8), (9, .int l9)]) (st' := [.int l9, .ref 36, .long l4]) (by decide +kernel) rfl rfl ?_
  refine ab_fin.s1i (i := .bipush 24) (k := 2) (pc' := 80) (n := 24) (by decide +kernel) rfl (by decide +kernel) rfl ?_
  refine ab_fin.s1 (i := .imul) (k := 1) (pc' := 81) (st' := [.int (l9 * (24 : Int32)), .ref 36, .long l4]) (by decide +kernel) rfl rfl ?_
  refine ab_fin.s2 (i := .aload_n 2) (k := 1) (pc' := 82) (lv' := [(0, .ref 56), (1, .int l1), (2, .ref l2), (3, .int l3), (4, .long l4), (6, .long l6), (8, .int l8), (9, .int l9)]) (st' := [.ref l2, .int (l9 * (24 : Int32)), .ref 36, .long l4]) (by decide +kernel) rfl rfl ?_
  refine ab_fin.s2 (i := .iload 9) (k := 2) (pc' := 84) (lv' := [(0, .ref 56), (1, .int l1), (2, .ref l2), (3, .int l3), (4, .long l4), (6, .long l6), (8, .int l8), (9, .int l9)]) (st' := [.int l9, .ref l2, .int (l9 * (24 : Int32)), .ref 36, .long l4]) (by decide +kernel) rfl rfl ?_
  obtain ⟨n2, e1, w⟩ := w
  obtain ⟨e3, w⟩ := w
  refine ab_fin.q_eI (x := (σ.i l2 l9.toNatClampNeg)) (pc' := 85) (by decide +kernel) (c_eI' e1 e3 rfl) rfl ?_
  refine ab_fin.s1 (i := .iadd) (k := 1) (pc' := 86) (st' := [.int ((l9 * (24 : Int32)) + (σ.i l2 l9.toNatClampNeg)), .ref 36, .long l4]) (by decide +kernel) rfl rfl ?_
  obtain ⟨e4, w⟩ := w
  refine ab_fin.q_eL (x := (σ.l 36 (((l9 * (24 : Int32)) + (σ.i l2 l9.toNatClampNeg)).toNatClampNeg))) (pc' := 87) (by decide +kernel) (c_eL' (F.s t0_36) e4 rfl) rfl ?_
  refine ab_fin.s1 (i := .land) (k := 1) (pc' := 88) (st' := [.long (l4 &&& (σ.l 36 (((l9 * (24 : Int32)) + (σ.i l2 l9.toNatClampNeg)).toNatClampNeg)))]) (by decide +kernel) rfl rfl ?_
  refine ab_fin.s2 (i := .lstore 4) (k := 2) (pc' := 90) (lv' := [(4, .long (l4 &&& (σ.l 36 (((l9 * (24 : Int32)) + (σ.i l2 l9.toNatClampNeg)).toNatClampNeg)))), (0, .ref 56), (1, .int l1), (2, .ref l2), (3, .int l3), (6, .long l6), (8, .int l8), (9, .int l9)]) (st' := []) (by decide +kernel) rfl rfl ?_
  refine ab_fin.s2 (i := .lload 6) (k := 2) (pc' := 92) (lv' := [(4, .long (l4 &&& (σ.l 36 (((l9 * (24 : Int32)) + (σ.i l2 l9.toNatClampNeg)).toNatClampNeg)))), (0, .ref 56), (1, .int l1), (2, .ref l2), (3, .int l3), (6, .long l6), (8, .int l8), (9, .int l9)]) (st' := [.long l6]) (by decide +kernel) rfl rfl ?_
  refine ab_fin.s2 (i := .aload_n 0) (k := 1) (pc' := 93) (lv' := [(4, .long (l4 &&& (σ.l 36 (((l9 * (24 : Int32)) + (σ.i l2 l9.toNatClampNeg)).toNatClampNeg)))), (0, .ref 56), (1, .int l1), (2, .ref l2), (3, .int l3), (6, .long l6), (8, .int l8), (9, .int l9)]) (st' := [.ref 56, .long l6]) (by decide +kernel) rfl rfl ?_
  refine ab_fin.q_rA (b := 1) (ix := 43) (ci := 4) (k := 0) (pc' := 96) (by decide +kernel) rfl (c_rA (F.s t0_56) rfl (rC_4_0 F t0_56)) rfl ?_
  refine ab_fin.q_rA (b := 37) (ix := 76) (ci := 12) (k := 12) (pc' := 99) (by decide +kernel) rfl (c_rA (F.s t0_1) rfl (rC_12_12 F t0_1)) rfl ?_
  refine ab_fin.s2 (i := .iload 9) (k := 2) (pc' := 101) (lv' := [(4, .long (l4 &&& (σ.l 36 (((l9 * (24 : Int32)) + (σ.i l2 l9.toNatClampNeg)).toNatClampNeg)))), (0, .ref 56), (1, .int l1), (2, .ref l2), (3, .int l3), (6, .long l6), (8, .int l8), (9, .int l9)]) (st' := [.int l9, .ref 37, .long l6]) (by decide +kernel) rfl rfl ?_
  refine ab_fin.s1i (i := .bipush 24) (k := 2) (pc' := 103) (n := 24) (by decide +kernel) rfl (by decide +kernel) rfl ?_
  refine ab_fin.s1 (i := .imul) (k := 1) (pc' := 104) (st' := [.int (l9 * (24 : Int32)), .ref 37, .long l6]) (by decide +kernel) rfl rfl ?_
  refine ab_fin.s2 (i := .aload_n 2) (k := 1) (pc' := 105) (lv' := [(4, .long (l4 &&& (σ.l 36 (((l9 * (24 : Int32)) + (σ.i l2 l9.toNatClampNeg)).toNatClampNeg)))), (0, .ref 56), (1, .int l1), (2, .ref l2), (3, .int l3), (6, .long l6), (8, .int l8), (9, .int l9)]) (st' := [.ref l2, .int (l9 * (24 : Int32)), .ref 37, .long l6]) (by decide +kernel) rfl rfl ?_
  refine ab_fin.s2 (i := .iload 9) (k := 2) (pc' := 107) (lv' := [(4, .long (l4 &&& (σ.l 36 (((l9 * (24 : Int32)) + (σ.i l2 l9.toNatClampNeg)).toNatClampNeg)))), (0, .ref 56), (1, .int l1), (2, .ref l2), (3, .int l3), (6, .long l6), (8, .int l8), (9, .int l9)]) (st' := [.int l9, .ref l2, .int (l9 * (24 : Int32)), .ref 37, .long l6]) (by decide +kernel) rfl rfl ?_
  obtain ⟨e5, w⟩ := w
  refine ab_fin.q_eI (x := (σ.i l2 l9.toNatClampNeg)) (pc' := 108) (by decide +kernel) (c_eI' e1 e5 rfl) rfl ?_
  refine ab_fin.s1 (i := .iadd) (k := 1) (pc' := 109) (st' := [.int ((l9 * (24 : Int32)) + (σ.i l2 l9.toNatClampNeg)), .ref 37, .long l6]) (by decide +kernel) rfl rfl ?_
  obtain ⟨e6, w⟩ := w
  refine ab_fin.q_eL (x := (σ.l 37 (((l9 * (24 : Int32)) + (σ.i l2 l9.toNatClampNeg)).toNatClampNeg))) (pc' := 110) (by decide +kernel) (c_eL' (F.s t0_37) e6 rfl) rfl ?_
  refine ab_fin.s1 (i := .land) (k := 1) (pc' := 111) (st' := [.long (l6 &&& (σ.l 37 (((l9 * (24 : Int32)) + (σ.i l2 l9.toNatClampNeg)).toNatClampNeg)))]) (by decide +kernel) rfl rfl ?_
  refine ab_fin.s2 (i := .lstore 6) (k := 2) (pc' := 113) (lv' := [(6, .long (l6 &&& (σ.l 37 (((l9 * (24 : Int32)) + (σ.i l2 l9.toNatClampNeg)).toNatClampNeg)))), (4, .long (l4 &&& (σ.l 36 (((l9 * (24 : Int32)) + (σ.i l2 l9.toNatClampNeg)).toNatClampNeg)))), (0, .ref 56), (1, .int l1), (2, .ref l2), (3, .int l3), (8, .int l8), (9, .int l9)]) (st' := []) (by decide +kernel) rfl rfl ?_
  refine ab_fin.q_inc (n := 8) (c := 1) (pc' := 116) (lv' := [(8, .int (l8 + 1)), (6, .long (l6 &&& (σ.l 37 (((l9 * (24 : Int32)) + (σ.i l2 l9.toNatClampNeg)).toNatClampNeg)))), (4, .long (l4 &&& (σ.l 36 (((l9 * (24 : Int32)) + (σ.i l2 l9.toNatClampNeg)).toNatClampNeg)))), (0, .ref 56), (1, .int l1), (2, .ref l2), (3, .int l3), (9, .int l9)]) (by decide +kernel) (by decide) rfl rfl rfl rfl ?_
  refine ab_fin.s3 (i := .goto (-95)) (k := 3) (t := 21) (st' := []) (by decide +kernel) (ab_gto (by decide +kernel)) ?_
  exact ab_fin.lv ⟨(List.forall_mem_cons.mpr ⟨(List.Mem.tail _ (List.Mem.tail _ (List.Mem.tail _ (List.Mem.head _)))), (List.forall_mem_cons.mpr ⟨(List.Mem.tail _ (List.Mem.tail _ (List.Mem.tail _ (List.Mem.tail _ (List.Mem.head _))))), (List.forall_mem_cons.mpr ⟨(List.Mem.tail _ (List.Mem.tail _ (List.Mem.tail _ (List.Mem.tail _ (List.Mem.tail _ (List.Mem.head _)))))), (List.forall_mem_cons.mpr ⟨(List.Mem.tail _ (List.Mem.tail _ (List.Mem.tail _ (List.Mem.tail _ (List.Mem.tail _ (List.Mem.tail _ (List.Mem.head _))))))), (List.forall_mem_cons.mpr ⟨(List.Mem.tail _ (List.Mem.tail _ (List.Mem.head _))), (List.forall_mem_cons.mpr ⟨(List.Mem.tail _ (List.Mem.head _)), (List.forall_mem_cons.mpr ⟨(List.Mem.head _), (fun _ h => absurd h List.not_mem_nil)⟩)⟩)⟩)⟩)⟩)⟩)⟩), (show ([8, 6, 4, 0, 1, 2, 3, 9] : List Nat).Nodup from by decide)⟩ w
theorem T_X3_matters_0 {Z : zT} {d : Nat} {σ : Sg} {l1 : Int32} {l2 : Int32} {l3 : Int64} {l5 : Int64} {K : kS} (F : FX ΦC σ.sh σ.r) (w : ib ((l1 * (3 : Int32)) + l2) 72 ∧ ((¬ (lg_cmp (l3 &&& ((σ.l 60 (((l1 * (3 : Int32)) + l2).toNatClampNeg)) ^^^ (-1 : Int64))) (0 : Int64)) = 0 → K (.inl (some (.int 1))) σ) ∧ ((lg_cmp (l3 &&& ((σ.l 60 (((l1 * (3 : Int32)) + l2).toNatClampNeg)) ^^^ (-1 : Int64))) (0 : Int64)) = 0 → ib ((l1 * (3 : Int32)) + l2) 72 ∧ (((lg_cmp (l5 &&& ((σ.l 61 (((l1 * (3 : Int32)) + l2).toNatClampNeg)) ^^^ (-1 : Int64))) (0 : Int64)) = 0 → K (.inl (some (.int 0))) σ) ∧ (¬ (lg_cmp (l5 &&& ((σ.l 61 (((l1 * (3 : Int32)) + l2).toNatClampNeg)) ^^^ (-1 : Int64))) (0 : Int64)) = 0 → K (.inl (some (.int 1))) σ))))) : C_X3_matters_0 Z (d + 1) σ l1 l2 l3 l5 K := by
  unfold C_X3_matters_0
  refine ab_fin.s2 (i := .iload_n 1) (k := 1) (pc' := 1) (lv' := [(0, .ref 56), (1, .int l1), (2, .int l2), (3, .long l3), (5, .long l5)]) (st' := [.int l1]) (by decide +kernel) rfl rfl ?_
  refine ab_fin.s1i (i := .iconst 3) (k := 1) (pc' := 2) (n := 3) (by decide +kernel) rfl (by decide +kernel) rfl ?_
  refine ab_fin.s1 (i := .imul) (k := 1) (pc' := 3) (st' := [.int (l1 * (3 : Int32))]) (by decide +kernel) rfl rfl ?_
  refine ab_fin.s2 (i := .iload_n 2) (k := 1) (pc' := 4) (lv' := [(0, .ref 56), (1, .int l1), (2, .int l2), (3, .long l3), (5, .long l5)]) (st' := [.int l2, .int (l1 * (3 : Int32))]) (by decide +kernel) rfl rfl ?_
  refine ab_fin.s1 (i := .iadd) (k := 1) (pc' := 5) (st' := [.int ((l1 * (3 : Int32)) + l2)]) (by decide +kernel) rfl rfl ?_
  refine ab_fin.s2 (i := .istore 7) (k := 2) (pc' := 7) (lv' := [(7, .int ((l1 * (3 : Int32)) + l2)), (0, .ref 56), (1, .int l1), (2, .int l2), (3, .long l3), (5, .long l5)]) (st' := []) (by decide +kernel) rfl rfl ?_
  refine ab_fin.s2 (i := .lload_n 3) (k := 1) (pc' := 8) (lv' := [(7, .int ((l1 * (3 : Int32)) + l2)), (0, .ref 56), (1, .int l1), (2, .int l2), (3, .long l3), (5, .long l5)]) (st' := [.long l3]) (by decide +kernel) rfl rfl ?_
  refine ab_fin.s2 (i := .aload_n 0) (k := 1) (pc' := 9) (lv' := [(7, .int ((l1 * (3 : Int32)) + l2)), (0, .ref 56), (1, .int l1), (2, .int l2), (3, .long l3), (5, .long l5)]) (st' := [.ref 56, .long l3]) (by decide +kernel) rfl rfl ?_
  refine ab_fin.q_rA (b := 60) (ix := 22) (ci := 4) (k := 4) (pc' := 12) (by decide +kernel) rfl (c_rA (F.s t0_56) rfl (rC_4_4 F t0_56)) rfl ?_
  refine ab_fin.s2 (i := .iload 7) (k := 2) (pc' := 14) (lv' := [(7, .int ((l1 * (3 : Int32)) + l2)), (0, .ref 56), (1, .int l1), (2, .int l2), (3, .long l3), (5, .long l5)]) (st' := [.int ((l1 * (3 : Int32)) + l2), .ref 60, .long l3]) (by decide +kernel) rfl rfl ?_
  obtain ⟨e1, w⟩ := w
  refine ab_fin.q_eL (x := (σ.l 60 (((l1 * (3 : Int32)) + l2).toNatClampNeg))) (pc' := 15) (by decide +kernel) (c_eL' (F.s t0_60) e1 rfl) rfl ?_
  refine ab_fin.s7 (i := .ldc2_w 101) (k := 3) (pc' := 18) (st' := [.long (-1), .long (σ.l 60 (((l1 * (3 : Int32)) + l2).toNatClampNeg)), .long l3]) (by decide +kernel) rfl rfl ?_
  refine ab_fin.s1 (i := .lxor) (k := 1) (pc' := 19) (st' := [.long ((σ.l 60 (((l1 * (3 : Int32)) + l2).toNatClampNeg)) ^^^ (-1 : Int64)), .long l3]) (by decide +kernel) rfl rfl ?_
  refine ab_fin.s1 (i := .land) (k := 1) (pc' := 20) (st' := [.long (l3 &&& ((σ.l 60 (((l1 * (3 : Int32)) + l2).toNatClampNeg)) ^^^ (-1 : Int64)))]) (by decide +kernel) rfl rfl ?_
  refine ab_fin.s1l (i := .lconst 0) (k := 1) (pc' := 21) (n := 0) (by decide +kernel) rfl (by decide +kernel) rfl ?_
  refine ab_fin.s1 (i := .lcmp) (k := 1) (pc' := 22) (st' := [.int (lg_cmp (l3 &&& ((σ.l 60 (((l1 * (3 : Int32)) + l2).toNatClampNeg)) ^^^ (-1 : Int64))) (0 : Int64))]) (by decide +kernel) rfl rfl ?_
  refine ab_fin.br (c := ¬ (lg_cmp (l3 &&& ((σ.l 60 (((l1 * (3 : Int32)) + l2).toNatClampNeg)) ^^^ (-1 : Int64))) (0 : Int64)) = 0) (i := .ifCond .ne 22) (off := 22) (t := 44) (pc' := 25) (r := []) (by decide +kernel) rfl (by decide +kernel) rfl (fun q => ?_) (fun q => ?_)
  · replace w := w.1 q
    refine ab_fin.s1i (i := .iconst 1) (k := 1) (pc' := 45) (n := 1) (by decide +kernel) rfl (by decide +kernel) rfl ?_
    refine ab_fin.s3 (i := .goto 4) (k := 3) (t := 49) (st' := [.int 1]) (by decide +kernel) (ab_gto (by decide +kernel)) ?_
    exact ab_fin.q_ret (i := .ireturn) (k := 1) (v := some (.int 1)) (by decide +kernel) rfl F w
  · replace w := w.2 (Decidable.of_not_not q)
    refine ab_fin.s2 (i := .lload 5) (k := 2) (pc' := 27) (lv' := [(7, .int ((l1 * (3 : Int32)) + l2)), (0, .ref 56), (1, .int l1), (2, .int l2), (3, .long l3), (5, .long l5)]) (st' := [.long l5]) (by decide +kernel) rfl rfl ?_
    refine ab_fin.s2 (i := .aload_n 0) (k := 1) (pc' := 28) (lv' := [(7, .int ((l1 * (3 : Int32)) + l2)), (0, .ref 56), (1, .int l1), (2, .int l2), (3, .long l3), (5, .long l5)]) (st' := [.ref 56, .long l5]) (by decide +kernel) rfl rfl ?_
    refine ab_fin.q_rA (b := 61) (ix := 25) (ci := 4) (k := 5) (pc' := 31) (by decide +kernel) rfl (c_rA (F.s t0_56) rfl (rC_4_5 F t0_56)) rfl ?_
    refine ab_fin.s2 (i := .iload 7) (k := 2) (pc' := 33) (lv' := [(7, .int ((l1 * (3 : Int32)) + l2)), (0, .ref 56), (1, .int l1), (2, .int l2), (3, .long l3), (5, .long l5)]) (st' := [.int ((l1 * (3 : Int32)) + l2), .ref 61, .long l5]) (by decide +kernel) rfl rfl ?_
    obtain ⟨e2, w⟩ := w
    refine ab_fin.q_eL (x := (σ.l 61 (((l1 * (3 : Int32)) + l2).toNatClampNeg))) (pc' := 34) (by decide +kernel) (c_eL' (F.s t0_61) e2 rfl) rfl ?_
    refine ab_fin.s7 (i := .ldc2_w 101) (k := 3) (pc' := 37) (st' := [.long (-1), .long (σ.l 61 (((l1 * (3 : Int32)) + l2).toNatClampNeg)), .long l5]) (by decide +kernel) rfl rfl ?_
    refine ab_fin.s1 (i := .lxor) (k := 1) (pc' := 38) (st' := [.long ((σ.l 61 (((l1 * (3 : Int32)) + l2).toNatClampNeg)) ^^^ (-1 : Int64)), .long l5]) (by decide +kernel) rfl rfl ?_
    refine ab_fin.s1 (i := .land) (k := 1) (pc' := 39) (st' := [.long (l5 &&& ((σ.l 61 (((l1 * (3 : Int32)) + l2).toNatClampNeg)) ^^^ (-1 : Int64)))]) (by decide +kernel) rfl rfl ?_
    refine ab_fin.s1l (i := .lconst 0) (k := 1) (pc' := 40) (n := 0) (by decide +kernel) rfl (by decide +kernel) rfl ?_
    refine ab_fin.s1 (i := .lcmp) (k := 1) (pc' := 41) (st' := [.int (lg_cmp (l5 &&& ((σ.l 61 (((l1 * (3 : Int32)) + l2).toNatClampNeg)) ^^^ (-1 : Int64))) (0 : Int64))]) (by decide +kernel) rfl rfl ?_
    refine ab_fin.br (c := (lg_cmp (l5 &&& ((σ.l 61 (((l1 * (3 : Int32)) + l2).toNatClampNeg)) ^^^ (-1 : Int64))) (0 : Int64)) = 0) (i := .ifCond .eq 7) (off := 7) (t := 48) (pc' := 44) (r := []) (by decide +kernel) rfl (by decide +kernel) rfl (fun q => ?_) (fun q => ?_)
    · replace w := w.1 q
      refine ab_fin.s1i (i := .iconst 0) (k := 1) (pc' := 49) (n := 0) (by decide +kernel) rfl (by decide +kernel) rfl ?_
      exact ab_fin.q_ret (i := .ireturn) (k := 1) (v := some (.int 0)) (by decide +kernel) rfl F w
    · replace w := w.2 q
      refine ab_fin.s1i (i := .iconst 1) (k := 1) (pc' := 45) (n := 1) (by decide +kernel) rfl (by decide +kernel) rfl ?_
      refine ab_fin.s3 (i := .goto 4) (k := 3) (t := 49) (st' := [.int 1]) (by decide +kernel) (ab_gto (by decide +kernel)) ?_
      exact ab_fin.q_ret (i := .ireturn) (k := 1) (v := some (.int 1)) (by decide +kernel) rfl F w
theorem T_X3_plan_0 {Z : zT} {d : Nat} {σ : Sg} {l1 : Int32} {K : kS} (F : FX ΦC σ.sh σ.r) (w : ib l1 24 ∧ ((¬ (σ.i 57 l1.toNatClampNeg) = (σ.i 1 16) → ib l1 24 ∧ (C_X3_findLive_0 Z d (σ.wi 57 l1.toNatClampNeg (σ.i 1 16)) l1 (yN K fun τ3 => ib l1 24 ∧ (C_X3_plan_45 Z (d + 1) (τ3.wi 63 l1.toNatClampNeg (2147483647 : Int32)) l1 0 K)))) ∧ ((σ.i 57 l1.toNatClampNeg) = (σ.i 1 16) → K (.inl none) σ))) : C_X3_plan_0 Z (d + 1) σ l1 K := by
  unfold C_X3_plan_0
  refine ab_fin.s2 (i := .aload_n 0) (k := 1) (pc' := 1) (lv' := [(0, .ref 56), (1, .int l1)]) (st' := [.ref 56]) (by decide +kernel) rfl rfl ?_
  refine ab_fin.q_rA (b := 57) (ix := 9) (ci := 4) (k := 1) (pc' := 4) (by decide +kernel) rfl (c_rA (F.s t0_56) rfl (rC_4_1 F t0_56)) rfl ?_
  refine ab_fin.s2 (i := .iload_n 1) (k := 1) (pc' := 5) (lv' := [(0, .ref 56), (1, .int l1)]) (st' := [.int l1, .ref 57]) (by decide +kernel) rfl rfl ?_
  obtain ⟨e1, w⟩ := w
  refine ab_fin.q_eI (x := (σ.i 57 l1.toNatClampNeg)) (pc' := 6) (by decide +kernel) (c_eI' (F.s t0_57) e1 rfl) rfl ?_
  refine ab_fin.s2 (i := .aload_n 0) (k := 1) (pc' := 7) (lv' := [(0, .ref 56), (1, .int l1)]) (st' := [.ref 56, .int (σ.i 57 l1.toNatClampNeg)]) (by decide +kernel) rfl rfl ?_
  refine ab_fin.q_rA (b := 1) (ix := 43) (ci := 4) (k := 0) (pc' := 10) (by decide +kernel) rfl (c_rA (F.s t0_56) rfl (rC_4_0 F t0_56)) rfl ?_
  refine ab_fin.q_rI (x := (σ.i 1 16)) (ix := 103) (ci := 12) (k := 16) (pc' := 13) (by decide +kernel) rfl (c_rI (F.s t0_1) rfl) rfl ?_
  refine ab_fin.br (c := ¬ (σ.i 57 l1.toNatClampNeg) = (σ.i 1 16)) (i := .if_icmp .ne 4) (off := 4) (t := 17) (pc' := 16) (r := []) (by decide +kernel) rfl (by decide +kernel) rfl (fun q => ?_) (fun q => ?_)
  · replace w := w.1 q
    refine ab_fin.s2 (i := .aload_n 0) (k := 1) (pc' := 18) (lv' := [(0, .ref 56), (1, .int l1)]) (st' := [.ref 56]) (by decide +kernel) rfl rfl ?_
    refine ab_fin.q_rA (b := 57) (ix := 9) (ci := 4) (k := 1) (pc' := 21) (by decide +kernel) rfl (c_rA (F.s t0_56) rfl (rC_4_1 F t0_56)) rfl ?_
    refine ab_fin.s2 (i := .iload_n 1) (k := 1) (pc' := 22) (lv' := [(0, .ref 56), (1, .int l1)]) (st' := [.int l1, .ref 57]) (by decide +kernel) rfl rfl ?_
    refine ab_fin.s2 (i := .aload_n 0) (k := 1) (pc' := 23) (lv' := [(0, .ref 56), (1, .int l1)]) (st' := [.ref 56, .int l1, .ref 57]) (by decide +kernel) rfl rfl ?_
    refine ab_fin.q_rA (b := 1) (ix := 43) (ci := 4) (k := 0) (pc' := 26) (by decide +kernel) rfl (c_rA (F.s t0_56) rfl (rC_4_0 F t0_56)) rfl ?_
    refine ab_fin.q_rI (x := (σ.i 1 16)) (ix := 103) (ci := 12) (k := 16) (pc' := 29) (by decide +kernel) rfl (c_rI (F.s t0_1) rfl) rfl ?_
    obtain ⟨e2, w⟩ := w
    refine ab_fin.q_sI (h1 := conc (σ.wi 57 l1.toNatClampNeg (σ.i 1 16))) (pc' := 30) (by decide +kernel) (c_sI' (F.s t0_57) e2 rfl) rfl ?_
    refine ab_fin.s2 (i := .aload_n 0) (k := 1) (pc' := 31) (lv' := [(0, .ref 56), (1, .int l1)]) (st' := [.ref 56]) (by decide +kernel) rfl rfl ?_
    refine ab_fin.s2 (i := .iload_n 1) (k := 1) (pc' := 32) (lv' := [(0, .ref 56), (1, .int l1)]) (st' := [.int l1, .ref 56]) (by decide +kernel) rfl rfl ?_
    refine ab_fin.q_yN (i := .invokevirtual 106) (k := 3) (y := 778) (As := [.ref 56, .int l1]) (rest := []) (M' := (mX3_findLive, [])) (lv2 := [(0, .ref 56), (1, .int l1)]) (pc' := 35) (X := K) (by decide +kernel) (ab_cv rfl rfl (conc_get (σ := (σ.wi 57 l1.toNatClampNeg (σ.i 1 16))) (F.s t0_56)) ⟨(Nat.le_of_ble_eq_true rfl), (Nat.le_of_ble_eq_true rfl)⟩ rfl) rfl (Nat.le_of_ble_eq_true rfl) rfl rfl (hY_no fun E => rfl) w (fun τ3 F4 w => ?_)
    refine ab_fin.s2 (i := .aload_n 0) (k := 1) (pc' := 36) (lv' := [(0, .ref 56), (1, .int l1)]) (st' := [.ref 56]) (by decide +kernel) rfl rfl ?_
    refine ab_fin.q_rA (b := 63) (ix := 31) (ci := 4) (k := 7) (pc' := 39) (by decide +kernel) rfl (c_rA (F4.s t0_56) rfl (rC_4_7 F4 t0_56)) rfl ?_
    refine ab_fin.s2 (i := .iload_n 1) (k := 1) (pc' := 40) (lv' := [(0, .ref 56), (1, .int l1)]) (st' := [.int l1, .ref 63]) (by decide +kernel) rfl rfl ?_
    refine ab_fin.s7 (i := .ldc 111) (k := 2) (pc' := 42) (st' := [.int 2147483647, .int l1, .ref 63]) (by decide +kernel) rfl rfl ?_
    obtain ⟨e5, w⟩ := w
    refine ab_fin.q_sI (h1 := conc (τ3.wi 63 l1.toNatClampNeg (2147483647 : Int32))) (pc' := 43) (by decide +kernel) (c_sI' (F4.s t0_63) e5 rfl) rfl ?_
    refine ab_fin.s1i (i := .iconst 0) (k := 1) (pc' := 44) (n := 0) (by decide +kernel) rfl (by decide +kernel) rfl ?_
    refine ab_fin.s2 (i := .istore_n 2) (k := 1) (pc' := 45) (lv' := [(2, .int 0), (0, .ref 56), (1, .int l1)]) (st' := []) (by decide +kernel) rfl rfl ?_
    exact ab_fin.lv ⟨(List.forall_mem_cons.mpr ⟨(List.Mem.tail _ (List.Mem.head _)), (List.forall_mem_cons.mpr ⟨(List.Mem.tail _ (List.Mem.tail _ (List.Mem.head _))), (List.forall_mem_cons.mpr ⟨(List.Mem.head _), (fun _ h => absurd h List.not_mem_nil)⟩)⟩)⟩), (show ([2, 0, 1] : List Nat).Nodup from by decide)⟩ w
  · replace w := w.2 (Decidable.of_not_not q)
    exact ab_fin.q_ret (i := .return_) (k := 1) (v := none) (by decide +kernel) rfl F w
theorem T_X3_plan_45 {Z : zT} {d : Nat} {σ : Sg} {l1 : Int32} {l2 : Int32} {K : kS} (F : FX ΦC σ.sh σ.r) (w : (18 ≤ l2 → K (.inl none) σ) ∧ (¬ 18 ≤ l2 → ib l1 24 ∧ (C_X3_isOrderOf_0 Z d σ l2 (σ.i 31 l1.toNatClampNeg) (yI K fun v4 τ2 => (v4 = 0 → C_X3_plan_45 Z (d + 1) τ2 l1 (l2 + 3) K) ∧ (¬ v4 = 0 → C_X3_plan_74 Z (d + 1) τ2 l1 l2 0 0 K))))) : C_X3_plan_45 Z (d + 1) σ l1 l2 K := by
  unfold C_X3_plan_45
  refine ab_fin.s2 (i := .iload_n 2) (k := 1) (pc' := 46) (lv' := [(0, .ref 56), (1, .int l1), (2, .int l2)]) (st' := [.int l2]) (by decide +kernel) rfl rfl ?_
  refine ab_fin.s8 (i := .getstatic 94) (k := 3) (pc' := 49) (st' := [.retAddr 3, .int l2]) (by decide +kernel) rfl rfl rfl rfl ?_
  refine ab_fin.s8 (i := .arraylength) (k := 1) (pc' := 50) (st' := [.int 18, .int l2]) (by decide +kernel) rfl rfl rfl rfl ?_
  refine ab_fin.br (c := 18 ≤ l2) (i := .if_icmp .ge 85) (off := 85) (t := 135) (pc' := 53) (r := []) (by decide +kernel) rfl (by decide +kernel) rfl (fun q => ?_) (fun q => ?_)
  · replace w := w.1 q
    exact ab_fin.q_ret (i := .return_) (k := 1) (v := none) (by decide +kernel) rfl F w
  · replace w := w.2 q
    refine ab_fin.s2 (i := .iload_n 2) (k := 1) (pc' := 54) (lv' := [(0, .ref 56), (1, .int l1), (2, .int l2)]) (st' := [.int l2]) (by decide +kernel) rfl rfl ?_
    refine ab_fin.s2 (i := .aload_n 0) (k := 1) (pc' := 55) (lv' := [(0, .ref 56), (1, .int l1), (2, .int l2)]) (st' := [.ref 56, .int l2]) (by decide +kernel) rfl rfl ?_
    refine ab_fin.q_rA (b := 1) (ix := 43) (ci := 4) (k := 0) (pc' := 58) (by decide +kernel) rfl (c_rA (F.s t0_56) rfl (rC_4_0 F t0_56)) rfl ?_
    refine ab_fin.q_rA (b := 31) (ix := 51) (ci := 12) (k := 6) (pc' := 61) (by decide +kernel) rfl (c_rA (F.s t0_1) rfl (rC_12_6 F t0_1)) rfl ?_
    refine ab_fin.s2 (i := .iload_n 1) (k := 1) (pc' := 62) (lv' := [(0, .ref 56), (1, .int l1), (2, .int l2)]) (st' := [.int l1, .ref 31, .int l2]) (by decide +kernel) rfl rfl ?_
    obtain ⟨e1, w⟩ := w
    refine ab_fin.q_eI (x := (σ.i 31 l1.toNatClampNeg)) (pc' := 63) (by decide +kernel) (c_eI' (F.s t0_31) e1 rfl) rfl ?_
    refine ab_fin.q_yI (i := .invokestatic 112) (k := 3) (y := 777) (As := [.int l2, .int (σ.i 31 l1.toNatClampNeg)]) (rest := []) (M' := (mX3_isOrderOf, [])) (lv2 := [(0, .int l2), (1, .int (σ.i 31 l1.toNatClampNeg))]) (pc' := 66) (X := K) (by decide +kernel) (ab_cs rfl rfl ⟨(Nat.le_of_ble_eq_true rfl), (Nat.le_of_ble_eq_true rfl)⟩ rfl) rfl (Nat.le_of_ble_eq_true rfl) rfl rfl (hY_no fun E => rfl) w (fun v4 τ2 F3 w => ?_)
    refine ab_fin.br (c := v4 = 0) (i := .ifCond .eq 63) (off := 63) (t := 129) (pc' := 69) (r := []) (by decide +kernel) rfl (by decide +kernel) rfl (fun q => ?_) (fun q => ?_)
    · replace w := w.1 q
      refine ab_fin.q_inc (n := 2) (c := 3) (pc' := 132) (lv' := [(2, .int (l2 + 3)), (0, .ref 56), (1, .int l1)]) (by decide +kernel) (by decide) rfl rfl rfl rfl ?_
      refine ab_fin.s3 (i := .goto (-87)) (k := 3) (t := 45) (st' := []) (by decide +kernel) (ab_gto (by decide +kernel)) ?_
      exact ab_fin.lv ⟨(List.forall_mem_cons.mpr ⟨(List.Mem.tail _ (List.Mem.head _)), (List.forall_mem_cons.mpr ⟨(List.Mem.tail _ (List.Mem.tail _ (List.Mem.head _))), (List.forall_mem_cons.mpr ⟨(List.Mem.head _), (fun _ h => absurd h List.not_mem_nil)⟩)⟩)⟩), (show ([2, 0, 1] : List Nat).Nodup from by decide)⟩ w
    · replace w := w.2 q
      refine ab_fin.s1i (i := .iconst 0) (k := 1) (pc' := 70) (n := 0) (by decide +kernel) rfl (by decide +kernel) rfl ?_
      refine ab_fin.s2 (i := .istore_n 3) (k := 1) (pc' := 71) (lv' := [(3, .int 0), (0, .ref 56), (1, .int l1), (2, .int l2)]) (st' := []) (by decide +kernel) rfl rfl ?_
      refine ab_fin.s1i (i := .iconst 0) (k := 1) (pc' := 72) (n := 0) (by decide +kernel) rfl (by decide +kernel) rfl ?_
      refine ab_fin.s2 (i := .istore 4) (k := 2) (pc' := 74) (lv' := [(4, .int 0), (3, .int 0), (0, .ref 56), (1, .int l1), (2, .int l2)]) (st' := []) (by decide +kernel) rfl rfl ?_
      exact ab_fin.lv ⟨(List.forall_mem_cons.mpr ⟨(List.Mem.tail _ (List.Mem.tail _ (List.Mem.head _))), (List.forall_mem_cons.mpr ⟨(List.Mem.tail _ (List.Mem.tail _ (List.Mem.tail _ (List.Mem.head _)))), (List.forall_mem_cons.mpr ⟨(List.Mem.tail _ (List.Mem.tail _ (List.Mem.tail _ (List.Mem.tail _ (List.Mem.head _))))), (List.forall_mem_cons.mpr ⟨(List.Mem.tail _ (List.Mem.head _)), (List.forall_mem_cons.mpr ⟨(List.Mem.head _), (fun _ h => absurd h List.not_mem_nil)⟩)⟩)⟩)⟩)⟩), (show ([4, 3, 0, 1, 2] : List Nat).Nodup from by decide)⟩ w
theorem T_X3_plan_74 {Z : zT} {d : Nat} {σ : Sg} {l1 : Int32} {l2 : Int32} {l3 : Int32} {l4 : Int32} {K : kS} (F : FX ΦC σ.sh σ.r) (w : ib l1 24 ∧ (((σ.i 31 l1.toNatClampNeg) ≤ l4 → ib l1 24 ∧ (((σ.i 63 l1.toNatClampNeg) ≤ l3 → C_X3_plan_45 Z (d + 1) σ l1 (l2 + 3) K) ∧ (¬ (σ.i 63 l1.toNatClampNeg) ≤ l3 → ib l1 24 ∧ (ib l1 24 ∧ (C_X3_plan_45 Z (d + 1) ((σ.wi 63 l1.toNatClampNeg l3).wi 62 l1.toNatClampNeg l2) l1 (l2 + 3) K))))) ∧ (¬ (σ.i 31 l1.toNatClampNeg) ≤ l4 → C_X3_countSets_0 Z d σ l1 l2 l4 (yI K fun v7 τ5 => C_X3_plan_74 Z (d + 1) τ5 l1 l2 (l3 + v7) (l4 + 1) K)))) : C_X3_plan_74 Z (d + 1) σ l1 l2 l3 l4 K := by
  unfold C_X3_plan_74
  refine ab_fin.s2 (i := .iload 4) (k := 2) (pc' := 76) (lv' := [(0, .ref 56), (1, .int l1), (2, .int l2), (3, .int l3), (4, .int l4)]) (st' := [.int l4]) (by decide +kernel) rfl rfl ?_
  refine ab_fin.s2 (i := .aload_n 0) (k := 1) (pc' := 77) (lv' := [(0, .ref 56), (1, .int l1), (2, .int l2), (3, .int l3), (4, .int l4)]) (st' := [.ref 56, .int l4]) (by decide +kernel) rfl rfl ?_
  refine ab_fin.q_rA (b := 1) (ix := 43) (ci := 4) (k := 0) (pc' := 80) (by decide +kernel) rfl (c_rA (F.s t0_56) rfl (rC_4_0 F t0_56)) rfl ?_
  refine ab_fin.q_rA (b := 31) (ix := 51) (ci := 12) (k := 6) (pc' := 83) (by decide +kernel) rfl (c_rA (F.s t0_1) rfl (rC_12_6 F t0_1)) rfl ?_
  refine ab_fin.s2 (i := .iload_n 1) (k := 1) (pc' := 84) (lv' := [(0, .ref 56), (1, .int l1), (2, .int l2), (3, .int l3), (4, .int l4)]) (st' := [.int l1, .ref 31, .int l4]) (by decide +kernel) rfl rfl ?_
  obtain ⟨e1, w⟩ := w
  refine ab_fin.q_eI (x := (σ.i 31 l1.toNatClampNeg)) (pc' := 85) (by decide +kernel) (c_eI' (F.s t0_31) e1 rfl) rfl ?_
  refine ab_fin.br (c := (σ.i 31 l1.toNatClampNeg) ≤ l4) (i := .if_icmp .ge 20) (off := 20) (t := 105) (pc' := 88) (r := []) (by decide +kernel) rfl (by decide +kernel) rfl (fun q => ?_) (fun q => ?_)
  · replace w := w.1 q
    refine ab_fin.s2 (i := .iload_n 3) (k := 1) (pc' := 106) (lv' := [(0, .ref 56), (1, .int l1), (2, .int l2), (3, .int l3), (4, .int l4)]) (st' := [.int l3]) (by decide +kernel) rfl rfl ?_
    refine ab_fin.s2 (i := .aload_n 0) (k := 1) (pc' := 107) (lv' := [(0, .ref 56), (1, .int l1), (2, .int l2), (3, .int l3), (4, .int l4)]) (st' := [.ref 56, .int l3]) (by decide +kernel) rfl rfl ?_
    refine ab_fin.q_rA (b := 63) (ix := 31) (ci := 4) (k := 7) (pc' := 110) (by decide +kernel) rfl (c_rA (F.s t0_56) rfl (rC_4_7 F t0_56)) rfl ?_
    refine ab_fin.s2 (i := .iload_n 1) (k := 1) (pc' := 111) (lv' := [(0, .ref 56), (1, .int l1), (2, .int l2), (3, .int l3), (4, .int l4)]) (st' := [.int l1, .ref 63, .int l3]) (by decide +kernel) rfl rfl ?_
    obtain ⟨e2, w⟩ := w
    refine ab_fin.q_eI (x := (σ.i 63 l1.toNatClampNeg)) (pc' := 112) (by decide +kernel) (c_eI' (F.s t0_63) e2 rfl) rfl ?_
    refine ab_fin.br (c := (σ.i 63 l1.toNatClampNeg) ≤ l3) (i := .if_icmp .ge 17) (off := 17) (t := 129) (pc' := 115) (r := []) (by decide +kernel) rfl (by decide +kernel) rfl (fun q => ?_) (fun q => ?_)
    · replace w := w.1 q
      refine ab_fin.q_inc (n := 2) (c := 3) (pc' := 132) (lv' := [(2, .int (l2 + 3)), (0, .ref 56), (1, .int l1), (3, .int l3), (4, .int l4)]) (by decide +kernel) (by decide) rfl rfl rfl rfl ?_
      refine ab_fin.s3 (i := .goto (-87)) (k := 3) (t := 45) (st' := []) (by decide +kernel) (ab_gto (by decide +kernel)) ?_
      exact ab_fin.lv ⟨(List.forall_mem_cons.mpr ⟨(List.Mem.tail _ (List.Mem.head _)), (List.forall_mem_cons.mpr ⟨(List.Mem.tail _ (List.Mem.tail _ (List.Mem.head _))), (List.forall_mem_cons.mpr ⟨(List.Mem.head _), (fun _ h => absurd h List.not_mem_nil)⟩)⟩)⟩), (show ([2, 0, 1, 3, 4] : List Nat).Nodup from by decide)⟩ w
    · replace w := w.2 q
      refine ab_fin.s2 (i := .aload_n 0) (k := 1) (pc' := 116) (lv' := [(0, .ref 56), (1, .int l1), (2, .int l2), (3, .int l3), (4, .int l4)]) (st' := [.ref 56]) (by decide +kernel) rfl rfl ?_
      refine ab_fin.q_rA (b := 63) (ix := 31) (ci := 4) (k := 7) (pc' := 119) (by decide +kernel) rfl (c_rA (F.s t0_56) rfl (rC_4_7 F t0_56)) rfl ?_
      refine ab_fin.s2 (i := .iload_n 1) (k := 1) (pc' := 120) (lv' := [(0, .ref 56), (1, .int l1), (2, .int l2), (3, .int l3), (4, .int l4)]) (st' := [.int l1, .ref 63]) (by decide +kernel) rfl rfl ?_
      refine ab_fin.s2 (i := .iload_n 3) (k := 1) (pc' := 121) (lv' := [(0, .ref 56), (1, .int l1), (2, .int l2), (3, .int l3), (4, .int l4)]) (st' := [.int l3, .int l1, .ref 63]) (by decide +kernel) rfl rfl ?_
      obtain ⟨e3, w⟩ := w
      refine ab_fin.q_sI (h1 := conc (σ.wi 63 l1.toNatClampNeg l3)) (pc' := 122) (by decide +kernel) (c_sI' (F.s t0_63) e3 rfl) rfl ?_
      refine ab_fin.s2 (i := .aload_n 0) (k := 1) (pc' := 123) (lv' := [(0, .ref 56), (1, .int l1), (2, .int l2), (3, .int l3), (4, .int l4)]) (st' := [.ref 56]) (by decide +kernel) rfl rfl ?_
      refine ab_fin.q_rA (b := 62) (ix := 28) (ci := 4) (k := 6) (pc' := 126) (by decide +kernel) rfl (c_rA (F.s t0_56) rfl (rC_4_6 F t0_56)) rfl ?_
      refine ab_fin.s2 (i := .iload_n 1) (k := 1) (pc' := 127) (lv' := [(0, .ref 56), (1, .int l1), (2, .int l2), (3, .int l3), (4, .int l4)]) (st' := [.int l1, .ref 62]) (by decide +kernel) rfl rfl ?_
      refine ab_fin.s2 (i := .iload_n 2) (k := 1) (pc' := 128) (lv' := [(0, .ref 56), (1, .int l1), (2, .int l2), (3, .int l3), (4, .int l4)]) (st' := [.int l2, .int l1, .ref 62]) (by decide +kernel) rfl rfl ?_
      obtain ⟨e4, w⟩ := w
      refine ab_fin.q_sI (h1 := conc ((σ.wi 63 l1.toNatClampNeg l3).wi 62 l1.toNatClampNeg l2)) (pc' := 129) (by decide +kernel) (c_sI' (F.s t0_62) e4 rfl) rfl ?_
      refine ab_fin.q_inc (n := 2) (c := 3) (pc' := 132) (lv' := [(2, .int (l2 + 3)), (0, .ref 56), (1, .int l1), (3, .int l3), (4, .int l4)]) (by decide +kernel) (by decide) rfl rfl rfl rfl ?_
      refine ab_fin.s3 (i := .goto (-87)) (k := 3) (t := 45) (st' := []) (by decide +kernel) (ab_gto (by decide +kernel)) ?_
      exact ab_fin.lv ⟨(List.forall_mem_cons.mpr ⟨(List.Mem.tail _ (List.Mem.head _)), (List.forall_mem_cons.mpr ⟨(List.Mem.tail _ (List.Mem.tail _ (List.Mem.head _))), (List.forall_mem_cons.mpr ⟨(List.Mem.head _), (fun _ h => absurd h List.not_mem_nil)⟩)⟩)⟩), (show ([2, 0, 1, 3, 4] : List Nat).Nodup from by decide)⟩ w
  · replace w := w.2 q
    refine ab_fin.s2 (i := .iload_n 3) (k := 1) (pc' := 89) (lv' := [(0, .ref 56), (1, .int l1), (2, .int l2), (3, .int l3), (4, .int l4)]) (st' := [.int l3]) (by decide +kernel) rfl rfl ?_
    refine ab_fin.s2 (i := .aload_n 0) (k := 1) (pc' := 90) (lv' := [(0, .ref 56), (1, .int l1), (2, .int l2), (3, .int l3), (4, .int l4)]) (st' := [.ref 56, .int l3]) (by decide +kernel) rfl rfl ?_
    refine ab_fin.s2 (i := .iload_n 1) (k := 1) (pc' := 91) (lv' := [(0, .ref 56), (1, .int l1), (2, .int l2), (3, .int l3), (4, .int l4)]) (st' := [.int l1, .ref 56, .int l3]) (by decide +kernel) rfl rfl ?_
    refine ab_fin.s2 (i := .iload_n 2) (k := 1) (pc' := 92) (lv' := [(0, .ref 56), (1, .int l1), (2, .int l2), (3, .int l3), (4, .int l4)]) (st' := [.int l2, .int l1, .ref 56, .int l3]) (by decide +kernel) rfl rfl ?_
    refine ab_fin.s2 (i := .iload 4) (k := 2) (pc' := 94) (lv' := [(0, .ref 56), (1, .int l1), (2, .int l2), (3, .int l3), (4, .int l4)]) (st' := [.int l4, .int l2, .int l1, .ref 56, .int l3]) (by decide +kernel) rfl rfl ?_
    refine ab_fin.q_yI (i := .invokevirtual 56) (k := 3) (y := 779) (As := [.ref 56, .int l1, .int l2, .int l4]) (rest := [.int l3]) (M' := (mX3_countSets, [])) (lv2 := [(0, .ref 56), (1, .int l1), (2, .int l2), (3, .int l4)]) (pc' := 97) (X := K) (by decide +kernel) (ab_cv rfl rfl (conc_get (σ := σ) (F.s t0_56)) ⟨(Nat.le_of_ble_eq_true rfl), (Nat.le_of_ble_eq_true rfl)⟩ rfl) rfl (Nat.le_of_ble_eq_true rfl) rfl rfl (hY_no fun E => rfl) w (fun v7 τ5 F6 w => ?_)
    refine ab_fin.s1 (i := .iadd) (k := 1) (pc' := 98) (st' := [.int (l3 + v7)]) (by decide +kernel) rfl rfl ?_
    refine ab_fin.s2 (i := .istore_n 3) (k := 1) (pc' := 99) (lv' := [(3, .int (l3 + v7)), (0, .ref 56), (1, .int l1), (2, .int l2), (4, .int l4)]) (st' := []) (by decide +kernel) rfl rfl ?_
    refine ab_fin.q_inc (n := 4) (c := 1) (pc' := 102) (lv' := [(4, .int (l4 + 1)), (3, .int (l3 + v7)), (0, .ref 56), (1, .int l1), (2, .int l2)]) (by decide +kernel) (by decide) rfl rfl rfl rfl ?_
    refine ab_fin.s3 (i := .goto (-28)) (k := 3) (t := 74) (st' := []) (by decide +kernel) (ab_gto (by decide +kernel)) ?_
    exact ab_fin.lv ⟨(List.forall_mem_cons.mpr ⟨(List.Mem.tail _ (List.Mem.tail _ (List.Mem.head _))), (List.forall_mem_cons.mpr ⟨(List.Mem.tail _ (List.Mem.tail _ (List.Mem.tail _ (List.Mem.head _)))), (List.forall_mem_cons.mpr ⟨(List.Mem.tail _ (List.Mem.tail _ (List.Mem.tail _ (List.Mem.tail _ (List.Mem.head _))))), (List.forall_mem_cons.mpr ⟨(List.Mem.tail _ (List.Mem.head _)), (List.forall_mem_cons.mpr ⟨(List.Mem.head _), (fun _ h => absurd h List.not_mem_nil)⟩)⟩)⟩)⟩)⟩), (show ([4, 3, 0, 1, 2] : List Nat).Nodup from by decide)⟩ w
theorem T_X3_isOrderOf_0 {Z : zT} {d : Nat} {σ : Sg} {l0 : Int32} {l1 : Int32} {K : kS} (F : FX ΦC σ.sh σ.r) (w : C_X3_isOrderOf_2 Z (d + 1) σ l0 l1 K) : C_X3_isOrderOf_0 Z (d + 1) σ l0 l1 K := by
  unfold C_X3_isOrderOf_0
  refine ab_fin.s2 (i := .iload_n 1) (k := 1) (pc' := 1) (lv' := [(0, .int l0), (1, .int l1)]) (st' := [.int l1]) (by decide +kernel) rfl rfl ?_
  refine ab_fin.s2 (i := .istore_n 2) (k := 1) (pc' := 2) (lv' := [(2, .int l1), (0, .int l0), (1, .int l1)]) (st' := []) (by decide +kernel) rfl rfl ?_
  exact ab_fin.lv ⟨(List.forall_mem_cons.mpr ⟨(List.Mem.tail _ (List.Mem.head _)), (List.forall_mem_cons.mpr ⟨(List.Mem.head _), (fun _ h => absurd h List.not_mem_nil)⟩)⟩), (show ([2, 0, 1] : List Nat).Nodup from by decide)⟩ w
theorem T_X3_isOrderOf_2 {Z : zT} {d : Nat} {σ : Sg} {l0 : Int32} {l2 : Int32} {K : kS} (F : FX ΦC σ.sh σ.r) (w : (3 ≤ l2 → K (.inl (some (.int 1))) σ) ∧ (¬ 3 ≤ l2 → ∃ v1, xJ0 3 (l0 + l2) v1 ∧ ((v1 = l2 → C_X3_isOrderOf_2 Z (d + 1) σ l0 (l2 + 1) K) ∧ (¬ v1 = l2 → K (.inl (some (.int 0))) σ)))) : C_X3_isOrderOf_2 Z (d + 1) σ l0 l2 K := by
  unfold C_X3_isOrderOf_2
  refine ab_fin.s2 (i := .iload_n 2) (k := 1) (pc' := 3) (lv' := [(0, .int l0), (2, .int l2)]) (st' := [.int l2]) (by decide +kernel) rfl rfl ?_
  refine ab_fin.s1i (i := .iconst 3) (k := 1) (pc' := 4) (n := 3) (by decide +kernel) rfl (by decide +kernel) rfl ?_
  refine ab_fin.br (c := 3 ≤ l2) (i := .if_icmp .ge 22) (off := 22) (t := 26) (pc' := 7) (r := []) (by decide +kernel) rfl (by decide +kernel) rfl (fun q => ?_) (fun q => ?_)
  · replace w := w.1 q
    refine ab_fin.s1i (i := .iconst 1) (k := 1) (pc' := 27) (n := 1) (by decide +kernel) rfl (by decide +kernel) rfl ?_
    exact ab_fin.q_ret (i := .ireturn) (k := 1) (v := some (.int 1)) (by decide +kernel) rfl F w
  · replace w := w.2 q
    refine ab_fin.s8 (i := .getstatic 94) (k := 3) (pc' := 10) (st' := [.retAddr 3]) (by decide +kernel) rfl rfl rfl rfl ?_
    refine ab_fin.s2 (i := .iload_n 0) (k := 1) (pc' := 11) (lv' := [(0, .int l0), (2, .int l2)]) (st' := [.int l0, .retAddr 3]) (by decide +kernel) rfl rfl ?_
    refine ab_fin.s2 (i := .iload_n 2) (k := 1) (pc' := 12) (lv' := [(0, .int l0), (2, .int l2)]) (st' := [.int l2, .int l0, .retAddr 3]) (by decide +kernel) rfl rfl ?_
    refine ab_fin.s1 (i := .iadd) (k := 1) (pc' := 13) (st' := [.int (l0 + l2), .retAddr 3]) (by decide +kernel) rfl rfl ?_
    obtain ⟨v1, e2, w⟩ := w
    refine ab_fin.q_x0 (pc' := 14) (by decide +kernel) e2 rfl ?_
    refine ab_fin.s2 (i := .iload_n 2) (k := 1) (pc' := 15) (lv' := [(0, .int l0), (2, .int l2)]) (st' := [.int l2, .int v1]) (by decide +kernel) rfl rfl ?_
    refine ab_fin.br (c := v1 = l2) (i := .if_icmp .eq 5) (off := 5) (t := 20) (pc' := 18) (r := []) (by decide +kernel) rfl (by decide +kernel) rfl (fun q => ?_) (fun q => ?_)
    · replace w := w.1 q
      refine ab_fin.q_inc (n := 2) (c := 1) (pc' := 23) (lv' := [(2, .int (l2 + 1)), (0, .int l0)]) (by decide +kernel) (by decide) rfl rfl rfl rfl ?_
      refine ab_fin.s3 (i := .goto (-21)) (k := 3) (t := 2) (st' := []) (by decide +kernel) (ab_gto (by decide +kernel)) ?_
      exact ab_fin.lv ⟨(List.forall_mem_cons.mpr ⟨(List.Mem.tail _ (List.Mem.head _)), (List.forall_mem_cons.mpr ⟨(List.Mem.head _), (fun _ h => absurd h List.not_mem_nil)⟩)⟩), (show ([2, 0] : List Nat).Nodup from by decide)⟩ w
    · replace w := w.2 q
      refine ab_fin.s1i (i := .iconst 0) (k := 1) (pc' := 19) (n := 0) (by decide +kernel) rfl (by decide +kernel) rfl ?_
      exact ab_fin.q_ret (i := .ireturn) (k := 1) (v := some (.int 0)) (by decide +kernel) rfl F w
theorem T_X3_findLive_0 {Z : zT} {d : Nat} {σ : Sg} {l1 : Int32} {K : kS} (F : FX ΦC σ.sh σ.r) (w : ib l1 24 ∧ (ib l1 24 ∧ (ib l1 24 ∧ (ib l1 24 ∧ (C_X3_findLive_32 Z (d + 1) ((σ.wl 58 l1.toNatClampNeg (σ.l 34 l1.toNatClampNeg)).wl 59 l1.toNatClampNeg (σ.l 35 l1.toNatClampNeg)) l1 0 K))))) : C_X3_findLive_0 Z (d + 1) σ l1 K := by
  unfold C_X3_findLive_0
  refine ab_fin.s2 (i := .aload_n 0) (k := 1) (pc' := 1) (lv' := [(0, .ref 56), (1, .int l1)]) (st' := [.ref 56]) (by decide +kernel) rfl rfl ?_
  refine ab_fin.q_rA (b := 58) (ix := 15) (ci := 4) (k := 2) (pc' := 4) (by decide +kernel) rfl (c_rA (F.s t0_56) rfl (rC_4_2 F t0_56)) rfl ?_
  refine ab_fin.s2 (i := .iload_n 1) (k := 1) (pc' := 5) (lv' := [(0, .ref 56), (1, .int l1)]) (st' := [.int l1, .ref 58]) (by decide +kernel) rfl rfl ?_
  refine ab_fin.s2 (i := .aload_n 0) (k := 1) (pc' := 6) (lv' := [(0, .ref 56), (1, .int l1)]) (st' := [.ref 56, .int l1, .ref 58]) (by decide +kernel) rfl rfl ?_
  refine ab_fin.q_rA (b := 1) (ix := 43) (ci := 4) (k := 0) (pc' := 9) (by decide +kernel) rfl (c_rA (F.s t0_56) rfl (rC_4_0 F t0_56)) rfl ?_
  refine ab_fin.q_rA (b := 34) (ix := 116) (ci := 12) (k := 9) (pc' := 12) (by decide +kernel) rfl (c_rA (F.s t0_1) rfl (rC_12_9 F t0_1)) rfl ?_
  refine ab_fin.s2 (i := .iload_n 1) (k := 1) (pc' := 13) (lv' := [(0, .ref 56), (1, .int l1)]) (st' := [.int l1, .ref 34, .int l1, .ref 58]) (by decide +kernel) rfl rfl ?_
  obtain ⟨e1, w⟩ := w
  refine ab_fin.q_eL (x := (σ.l 34 l1.toNatClampNeg)) (pc' := 14) (by decide +kernel) (c_eL' (F.s t0_34) e1 rfl) rfl ?_
  obtain ⟨e2, w⟩ := w
  refine ab_fin.q_sL (h1 := conc (σ.wl 58 l1.toNatClampNeg (σ.l 34 l1.toNatClampNeg))) (pc' := 15) (by decide +kernel) (c_sL' (F.s t0_58) e2 rfl) rfl ?_
  refine ab_fin.s2 (i := .aload_n 0) (k := 1) (pc' := 16) (lv' := [(0, .ref 56), (1, .int l1)]) (st' := [.ref 56]) (by decide +kernel) rfl rfl ?_
  refine ab_fin.q_rA (b := 59) (ix := 19) (ci := 4) (k := 3) (pc' := 19) (by decide +kernel) rfl (c_rA (F.s t0_56) rfl (rC_4_3 F t0_56)) rfl ?_
  refine ab_fin.s2 (i := .iload_n 1) (k := 1) (pc' := 20) (lv' := [(0, .ref 56), (1, .int l1)]) (st' := [.int l1, .ref 59]) (by decide +kernel) rfl rfl ?_
  refine ab_fin.s2 (i := .aload_n 0) (k := 1) (pc' := 21) (lv' := [(0, .ref 56), (1, .int l1)]) (st' := [.ref 56, .int l1, .ref 59]) (by decide +kernel) rfl rfl ?_
  refine ab_fin.q_rA (b := 1) (ix := 43) (ci := 4) (k := 0) (pc' := 24) (by decide +kernel) rfl (c_rA (F.s t0_56) rfl (rC_4_0 F t0_56)) rfl ?_
  refine ab_fin.q_rA (b := 35) (ix := 119) (ci := 12) (k := 10) (pc' := 27) (by decide +kernel) rfl (c_rA (F.s t0_1) rfl (rC_12_10 F t0_1)) rfl ?_
  refine ab_fin.s2 (i := .iload_n 1) (k := 1) (pc' := 28) (lv' := [(0, .ref 56), (1, .int l1)]) (st' := [.int l1, .ref 35, .int l1, .ref 59]) (by decide +kernel) rfl rfl ?_
  obtain ⟨e3, w⟩ := w
  refine ab_fin.q_eL (x := (σ.l 35 l1.toNatClampNeg)) (pc' := 29) (by decide +kernel) (c_eL' (F.s t0_35) e3 rfl) rfl ?_
  obtain ⟨e4, w⟩ := w
  refine ab_fin.q_sL (h1 := conc ((σ.wl 58 l1.toNatClampNeg (σ.l 34 l1.toNatClampNeg)).wl 59 l1.toNatClampNeg (σ.l 35 l1.toNatClampNeg))) (pc' := 30) (by decide +kernel) (c_sL' (F.s t0_59) e4 rfl) rfl ?_
  refine ab_fin.s1i (i := .iconst 0) (k := 1) (pc' := 31) (n := 0) (by decide +kernel) rfl (by decide +kernel) rfl ?_
  refine ab_fin.s2 (i := .istore_n 2) (k := 1) (pc' := 32) (lv' := [(2, .int 0), (0, .ref 56), (1, .int l1)]) (st' := []) (by decide +kernel) rfl rfl ?_
  exact ab_fin.lv ⟨(List.forall_mem_cons.mpr ⟨(List.Mem.tail _ (List.Mem.head _)), (List.forall_mem_cons.mpr ⟨(List.Mem.tail _ (List.Mem.tail _ (List.Mem.head _))), (List.forall_mem_cons.mpr ⟨(List.Mem.head _), (fun _ h => absurd h List.not_mem_nil)⟩)⟩)⟩), (show ([2, 0, 1] : List Nat).Nodup from by decide)⟩ w
theorem T_X3_findLive_32 {Z : zT} {d : Nat} {σ : Sg} {l1 : Int32} {l2 : Int32} {K : kS} (F : FX ΦC σ.sh σ.r) (w : ib l1 24 ∧ (((σ.i 31 l1.toNatClampNeg) ≤ l2 → K (.inl none) σ) ∧ (¬ (σ.i 31 l1.toNatClampNeg) ≤ l2 → C_X3_findLive_63 Z (d + 1) σ l1 l2 0 0 (-1) (-1) 0 K))) : C_X3_findLive_32 Z (d + 1) σ l1 l2 K := by
  unfold C_X3_findLive_32
  refine ab_fin.s2 (i := .iload_n 2) (k := 1) (pc' := 33) (lv' := [(0, .ref 56), (1, .int l1), (2, .int l2)]) (st' := [.int l2]) (by decide +kernel) rfl rfl ?_
  refine ab_fin.s2 (i := .aload_n 0) (k := 1) (pc' := 34) (lv' := [(0, .ref 56), (1, .int l1), (2, .int l2)]) (st' := [.ref 56, .int l2]) (by decide +kernel) rfl rfl ?_
  refine ab_fin.q_rA (b := 1) (ix := 43) (ci := 4) (k := 0) (pc' := 37) (by decide +kernel) rfl (c_rA (F.s t0_56) rfl (rC_4_0 F t0_56)) rfl ?_
  refine ab_fin.q_rA (b := 31) (ix := 51) (ci := 12) (k := 6) (pc' := 40) (by decide +kernel) rfl (c_rA (F.s t0_1) rfl (rC_12_6 F t0_1)) rfl ?_
  refine ab_fin.s2 (i := .iload_n 1) (k := 1) (pc' := 41) (lv' := [(0, .ref 56), (1, .int l1), (2, .int l2)]) (st' := [.int l1, .ref 31, .int l2]) (by decide +kernel) rfl rfl ?_
  obtain ⟨e1, w⟩ := w
  refine ab_fin.q_eI (x := (σ.i 31 l1.toNatClampNeg)) (pc' := 42) (by decide +kernel) (c_eI' (F.s t0_31) e1 rfl) rfl ?_
  refine ab_fin.br (c := (σ.i 31 l1.toNatClampNeg) ≤ l2) (i := .if_icmp .ge 165) (off := 165) (t := 207) (pc' := 45) (r := []) (by decide +kernel) rfl (by decide +kernel) rfl (fun q => ?_) (fun q => ?_)
  · replace w := w.1 q
    exact ab_fin.q_ret (i := .return_) (k := 1) (v := none) (by decide +kernel) rfl F w
  · replace w := w.2 q
    refine ab_fin.s1l (i := .lconst 0) (k := 1) (pc' := 46) (n := 0) (by decide +kernel) rfl (by decide +kernel) rfl ?_
    refine ab_fin.s2 (i := .lstore_n 3) (k := 1) (pc' := 47) (lv' := [(3, .long 0), (0, .ref 56), (1, .int l1), (2, .int l2)]) (st' := []) (by decide +kernel) rfl rfl ?_
    refine ab_fin.s1l (i := .lconst 0) (k := 1) (pc' := 48) (n := 0) (by decide +kernel) rfl (by decide +kernel) rfl ?_
    refine ab_fin.s2 (i := .lstore 5) (k := 2) (pc' := 50) (lv' := [(5, .long 0), (3, .long 0), (0, .ref 56), (1, .int l1), (2, .int l2)]) (st' := []) (by decide +kernel) rfl rfl ?_
    refine ab_fin.s7 (i := .ldc2_w 101) (k := 3) (pc' := 53) (st' := [.long (-1)]) (by decide +kernel) rfl rfl ?_
    refine ab_fin.s2 (i := .lstore 7) (k := 2) (pc' := 55) (lv' := [(7, .long (-1)), (5, .long 0), (3, .long 0), (0, .ref 56), (1, .int l1), (2, .int l2)]) (st' := []) (by decide +kernel) rfl rfl ?_
    refine ab_fin.s7 (i := .ldc2_w 101) (k := 3) (pc' := 58) (st' := [.long (-1)]) (by decide +kernel) rfl rfl ?_
    refine ab_fin.s2 (i := .lstore 9) (k := 2) (pc' := 60) (lv' := [(9, .long (-1)), (7, .long (-1)), (5, .long 0), (3, .long 0), (0, .ref 56), (1, .int l1), (2, .int l2)]) (st' := []) (by decide +kernel) rfl rfl ?_
    refine ab_fin.s1i (i := .iconst 0) (k := 1) (pc' := 61) (n := 0) (by decide +kernel) rfl (by decide +kernel) rfl ?_
    refine ab_fin.s2 (i := .istore 11) (k := 2) (pc' := 63) (lv' := [(11, .int 0), (9, .long (-1)), (7, .long (-1)), (5, .long 0), (3, .long 0), (0, .ref 56), (1, .int l1), (2, .int l2)]) (st' := []) (by decide +kernel) rfl rfl ?_
    exact ab_fin.lv ⟨(List.forall_mem_cons.mpr ⟨(List.Mem.tail _ (List.Mem.tail _ (List.Mem.tail _ (List.Mem.tail _ (List.Mem.tail _ (List.Mem.head _)))))), (List.forall_mem_cons.mpr ⟨(List.Mem.tail _ (List.Mem.tail _ (List.Mem.tail _ (List.Mem.tail _ (List.Mem.tail _ (List.Mem.tail _ (List.Mem.head _))))))), (List.forall_mem_cons.mpr ⟨(List.Mem.tail _ (List.Mem.tail _ (List.Mem.tail _ (List.Mem.tail _ (List.Mem.tail _ (List.Mem.tail _ (List.Mem.tail _ (List.Mem.head _)))))))), (List.forall_mem_cons.mpr ⟨(List.Mem.tail _ (List.Mem.tail _ (List.Mem.tail _ (List.Mem.tail _ (List.Mem.head _))))), (List.forall_mem_cons.mpr ⟨(List.Mem.tail _ (List.Mem.tail _ (List.Mem.tail _ (List.Mem.head _)))), (List.forall_mem_cons.mpr ⟨(List.Mem.tail _ (List.Mem.tail _ (List.Mem.head _))), (List.forall_mem_cons.mpr ⟨(List.Mem.tail _ (List.Mem.head _)), (List.forall_mem_cons.mpr ⟨(List.Mem.head _), (fun _ h => absurd h List.not_mem_nil)⟩)⟩)⟩)⟩)⟩)⟩)⟩)⟩), (show ([11, 9, 7, 5, 3, 0, 1, 2] : List Nat).Nodup from by decide)⟩ w
theorem T_X3_findLive_63 {Z : zT} {d : Nat} {σ : Sg} {l1 : Int32} {l2 : Int32} {l3 : Int64} {l5 : Int64} {l7 : Int64} {l9 : Int64} {l11 : Int32} {K : kS} (F : FX ΦC σ.sh σ.r) (w : ((σ.i 1 14) ≤ l11 → ib l1 24 ∧ (ib l1 24 ∧ (ib l1 24 ∧ (ib l1 24 ∧ (ib ((l1 * (3 : Int32)) + l2) 72 ∧ (ib ((l1 * (3 : Int32)) + l2) 72 ∧ (C_X3_findLive_32 Z (d + 1) ((((σ.wl 58 l1.toNatClampNeg ((σ.l 58 l1.toNatClampNeg) &&& l3)).wl 59 l1.toNatClampNeg ((σ.l 59 l1.toNatClampNeg) &&& l5)).wl 60 (((l1 * (3 : Int32)) + l2).toNatClampNeg) l7).wl 61 (((l1 * (3 : Int32)) + l2).toNatClampNeg) l9) l1 (l2 + 1) K))))))) ∧ (¬ (σ.i 1 14) ≤ l11 → ib l11 24 ∧ (ib ((l2 * (24 : Int32)) + (σ.i 38 l11.toNatClampNeg)) 72 ∧ (ib ((l2 * (24 : Int32)) + (σ.i 38 l11.toNatClampNeg)) 72 ∧ (ib ((l2 * (24 : Int32)) + (σ.i 38 l11.toNatClampNeg)) 72 ∧ (ib ((l2 * (24 : Int32)) + (σ.i 38 l11.toNatClampNeg)) 72 ∧ (C_X3_findLive_63 Z (d + 1) σ l1 l2 (l3 ||| (σ.l 36 (((l2 * (24 : Int32)) + (σ.i 38 l11.toNatClampNeg)).toNatClampNeg))) (l5 ||| (σ.l 37 (((l2 * (24 : Int32)) + (σ.i 38 l11.toNatClampNeg)).toNatClampNeg))) (l7 &&& (σ.l 36 (((l2 * (24 : Int32)) + (σ.i 38 l11.toNatClampNeg)).toNatClampNeg))) (l9 &&& (σ.l 37 (((l2 * (24 : Int32)) + (σ.i 38 l11.toNatClampNeg)).toNatClampNeg))) (l11 + 1) K))))))) : C_X3_findLive_63 Z (d + 1) σ l1 l2 l3 l5 l7 l9 l11 K := by
  unfold C_X3_findLive_63
  refine ab_fin.s2 (i := .iload 11) (k := 2) (pc' := 65) (lv' := [(0, .ref 56), (1, .int l1), (2, .int l2), (3, .long l3), (5, .long l5), (7, .long l7), (9, .long l9), (11, .int l11)]) (st' := [.int l11]) (by decide +kernel) rfl rfl ?_
  refine ab_fin.s2 (i := .aload_n 0) (k := 1) (pc' := 66) (lv' := [(0, .ref 56), (1, .int l1), (2, .int l2), (3, .long l3), (5, .long l5), (7, .long l7), (9, .long l9), (11, .int l11)]) (st' := [.ref 56, .int l11]) (by decide +kernel) rfl rfl ?_
  refine ab_fin.q_rA (b := 1) (ix := 43) (ci := 4) (k := 0) (pc' := 69) (by decide +kernel) rfl (c_rA (F.s t0_56) rfl (rC_4_0 F t0_56)) rfl ?_
  refine ab_fin.q_rI (x := (σ.i 1 14)) (ix := 60) (ci := 12) (k := 14) (pc' := 72) (by decide +kernel) rfl (c_rI (F.s t0_1) rfl) rfl ?_
  refine ab_fin.br (c := (σ.i 1 14) ≤ l11) (i := .if_icmp .ge 84) (off := 84) (t := 156) (pc' := 75) (r := []) (by decide +kernel) rfl (by decide +kernel) rfl (fun q => ?_) (fun q => ?_)
  · replace w := w.1 q
    refine ab_fin.s2 (i := .aload_n 0) (k := 1) (pc' := 157) (lv' := [(0, .ref 56), (1, .int l1), (2, .int l2), (3, .long l3), (5, .long l5), (7, .long l7), (9, .long l9), (11, .int l11)]) (st' := [.ref 56]) (by decide +kernel) rfl rfl ?_
    refine ab_fin.q_rA (b := 58) (ix := 15) (ci := 4) (k := 2) (pc' := 160) (by decide +kernel) rfl (c_rA (F.s t0_56) rfl (rC_4_2 F t0_56)) rfl ?_
    refine ab_fin.s2 (i := .iload_n 1) (k := 1) (pc' := 161) (lv' := [(0, .ref 56), (1, .int l1), (2, .int l2), (3, .long l3), (5, .long l5), (7, .long l7), (9, .long l9), (11, .int l11)]) (st' := [.int l1, .ref 58]) (by decide +kernel) rfl rfl ?_
    refine ab_fin.s1 (i := .dup2) (k := 1) (pc' := 162) (st' := [.int l1, .ref 58, .int l1, .ref 58]) (by decide +kernel) rfl rfl ?_
    obtain ⟨e1, w⟩ := w
    refine ab_fin.q_eL (x := (σ.l 58 l1.toNatClampNeg)) (pc' := 163) (by decide +kernel) (c_eL' (F.s t0_58) e1 rfl) rfl ?_
    refine ab_fin.s2 (i := .lload_n 3) (k := 1) (pc' := 164) (lv' := [(0, .ref 56), (1, .int l1), (2, .int l2), (3, .long l3), (5, .long l5), (7, .long l7), (9, .long l9), (11, .int l11)]) (st' := [.long l3, .long (σ.l 58 l1.toNatClampNeg), .int l1, .ref 58]) (by decide +kernel) rfl rfl ?_
    refine ab_fin.s1 (i := .land) (k := 1) (pc' := 165) (st' := [.long ((σ.l 58 l1.toNatClampNeg) &&& l3), .int l1, .ref 58]) (by decide +kernel) rfl rfl ?_
    obtain ⟨e2, w⟩ := w
    refine ab_fin.q_sL (h1 := conc (σ.wl 58 l1.toNatClampNeg ((σ.l 58 l1.toNatClampNeg) &&& l3))) (pc' := 166) (by decide +kernel) (c_sL' (F.s t0_58) e2 rfl) rfl ?_
    refine ab_fin.s2 (i := .aload_n 0) (k := 1) (pc' := 167) (lv' := [(0, .ref 56), (1, .int l1), (2, .int l2), (3, .long l3), (5, .long l5), (7, .long l7), (9, .long l9), (11, .int l11)]) (st' := [.ref 56]) (by decide +kernel) rfl rfl ?_
    refine ab_fin.q_rA (b := 59) (ix := 19) (ci := 4) (k := 3) (pc' := 170) (by decide +kernel) rfl (c_rA (F.s t0_56) rfl (rC_4_3 F t0_56)) rfl ?_
    refine ab_fin.s2 (i := .iload_n 1) (k := 1) (pc' := 171) (lv' := [(0, .ref 56), (1, .int l1), (2, .int l2), (3, .long l3), (5, .long l5), (7, .long l7), (9, .long l9), (11, .int l11)]) (st' := [.int l1, .ref 59]) (by decide +kernel) rfl rfl ?_
    refine ab_fin.s1 (i := .dup2) (k := 1) (pc' := 172) (st' := [.int l1, .ref 59, .int l1, .ref 59]) (by decide +kernel) rfl rfl ?_
    obtain ⟨e3, w⟩ := w
    refine ab_fin.q_eL (x := (σ.l 59 l1.toNatClampNeg)) (pc' := 173) (by decide +kernel) (c_eL' (F.s t0_59) e3 rfl) rfl ?_
    refine ab_fin.s2 (i := .lload 5) (k := 2) (pc' := 175) (lv' := [(0, .ref 56), (1, .int l1), (2, .int l2), (3, .long l3), (5, .long l5), (7, .long l7), (9, .long l9), (11, .int l11)]) (st' := [.long l5, .long (σ.l 59 l1.toNatClampNeg), .int l1, .ref 59]) (by decide +kernel) rfl rfl ?_
    refine ab_fin.s1 (i := .land) (k := 1) (pc' := 176) (st' := [.long ((σ.l 59 l1.toNatClampNeg) &&& l5), .int l1, .ref 59]) (by decide +kernel) rfl rfl ?_
    obtain ⟨e4, w⟩ := w
    refine ab_fin.q_sL (h1 := conc ((σ.wl 58 l1.toNatClampNeg ((σ.l 58 l1.toNatClampNeg) &&& l3)).wl 59 l1.toNatClampNeg ((σ.l 59 l1.toNatClampNeg) &&& l5))) (pc' := 177) (by decide +kernel) (c_sL' (F.s t0_59) e4 rfl) rfl ?_
    refine ab_fin.s2 (i := .aload_n 0) (k := 1) (pc' := 178) (lv' := [(0, .ref 56), (1, .int l1), (2, .int l2), (3, .long l3), (5, .long l5), (7, .long l7), (9, .long l9), (11, .int l11)]) (st' := [.ref 56]) (by decide +kernel) rfl rfl ?_
    refine ab_fin.q_rA (b := 60) (ix := 22) (ci := 4) (k := 4) (pc' := 181) (by decide +kernel) rfl (c_rA (F.s t0_56) rfl (rC_4_4 F t0_56)) rfl ?_
    refine ab_fin.s2 (i := .iload_n 1) (k := 1) (pc' := 182) (lv' := [(0, .ref 56), (1, .int l1), (2, .int l2), (3, .long l3), (5, .long l5), (7, .long l7), (9, .long l9), (11, .int l11)]) (st' := [.int l1, .ref 60]) (by decide +kernel) rfl rfl ?_
    refine ab_fin.s1i (i := .iconst 3) (k := 1) (pc' := 183) (n := 3) (by decide +kernel) rfl (by decide +kernel) rfl ?_
    refine ab_fin.s1 (i := .imul) (k := 1) (pc' := 184) (st' := [.int (l1 * (3 : Int32)), .ref 60]) (by decide +kernel) rfl rfl ?_
    refine ab_fin.s2 (i := .iload_n 2) (k := 1) (pc' := 185) (lv' := [(0, .ref 56), (1, .int l1), (2, .int l2), (3, .long l3), (5, .long l5), (7, .long l7), (9, .long l9), (11, .int l11)]) (st' := [.int l2, .int (l1 * (3 : Int32)), .ref 60]) (by decide +kernel) rfl rfl ?_
    refine ab_fin.s1 (i := .iadd) (k := 1) (pc' := 186) (st' := [.int ((l1 * (3 : Int32)) + l2), .ref 60]) (by decide +kernel) rfl rfl ?_
    refine ab_fin.s2 (i := .lload 7) (k := 2) (pc' := 188) (lv' := [(0, .ref 56), (1, .int l1), (2, .int l2), (3, .long l3), (5, .long l5), (7, .long l7), (9, .long l9), (11, .int l11)]) (st' := [.long l7, .int ((l1 * (3 : Int32)) + l2), .ref 60]) (by decide +kernel) rfl rfl ?_
    obtain ⟨e5, w⟩ := w
    refine ab_fin.q_sL (h1 := conc (((σ.wl 58 l1.toNatClampNeg ((σ.l 58 l1.toNatClampNeg) &&& l3)).wl 59 l1.toNatClampNeg ((σ.l 59 l1.toNatClampNeg) &&& l5)).wl 60 (((l1 * (3 : Int32)) + l2).toNatClampNeg) l7)) (pc' := 189) (by decide +kernel) (c_sL' (F.s t0_60) e5 rfl) rfl ?_
    refine ab_fin.s2 (i := .aload_n 0) (k := 1) (pc' := 190) (lv' := [(0, .ref 56), (1, .int l1), (2, .int l2), (3, .long l3), (5, .long l5), (7, .long l7), (9, .long l9), (11, .int l11)]) (st' := [.ref 56]) (by decide +kernel) rfl rfl ?_
    refine ab_fin.q_rA (b := 61) (ix := 25) (ci := 4) (k := 5) (pc' := 193) (by decide +kernel) rfl (c_rA (F.s t0_56) rfl (rC_4_5 F t0_56)) rfl ?_
    refine ab_fin.s2 (i := .iload_n 1) (k := 1) (pc' := 194) (lv' := [(0, .ref 56), (1, .int l1), (2, .int l2), (3, .long l3), (5, .long l5), (7, .long l7), (9, .long l9), (11, .int l11)]) (st' := [.int l1, .ref 61]) (by decide +kernel) rfl rfl ?_
    refine ab_fin.s1i (i := .iconst 3) (k := 1) (pc' := 195) (n := 3) (by decide +kernel) rfl (by decide +kernel) rfl ?_
    refine ab_fin.s1 (i := .imul) (k := 1) (pc' := 196) (st' := [.int (l1 * (3 : Int32)), .ref 61]) (by decide +kernel) rfl rfl ?_
    refine ab_fin.s2 (i := .iload_n 2) (k := 1) (pc' := 197) (lv' := [(0, .ref 56), (1, .int l1), (2, .int l2), (3, .long l3), (5, .long l5), (7, .long l7), (9, .long l9), (11, .int l11)]) (st' := [.int l2, .int (l1 * (3 : Int32)), .ref 61]) (by decide +kernel) rfl rfl ?_
    refine ab_fin.s1 (i := .iadd) (k := 1) (pc' := 198) (st' := [.int ((l1 * (3 : Int32)) + l2), .ref 61]) (by decide +kernel) rfl rfl ?_
    refine ab_fin.s2 (i := .lload 9) (k := 2) (pc' := 200) (lv' := [(0, .ref 56), (1, .int l1), (2, .int l2), (3, .long l3), (5, .long l5), (7, .long l7), (9, .long l9), (11, .int l11)]) (st' := [.long l9, .int ((l1 * (3 : Int32)) + l2), .ref 61]) (by decide +kernel) rfl rfl ?_
    obtain ⟨e6, w⟩ := w
    refine ab_fin.q_sL (h1 := conc ((((σ.wl 58 l1.toNatClampNeg ((σ.l 58 l1.toNatClampNeg) &&& l3)).wl 59 l1.toNatClampNeg ((σ.l 59 l1.toNatClampNeg) &&& l5)).wl 60 (((l1 * (3 : Int32)) + l2).toNatClampNeg) l7).wl 61 (((l1 * (3 : Int32)) + l2).toNatClampNeg) l9)) (pc' := 201) (by decide +kernel) (c_sL' (F.s t0_61) e6 rfl) rfl ?_
    refine ab_fin.q_inc (n := 2) (c := 1) (pc' := 204) (lv' := [(2, .int (l2 + 1)), (0, .ref 56), (1, .int l1), (3, .long l3), (5, .long l5), (7, .long l7), (9, .long l9), (11, .int l11)]) (by decide +kernel) (by decide) rfl rfl rfl rfl ?_
    refine ab_fin.s3 (i := .goto (-172)) (k := 3) (t := 32) (st' := []) (by decide +kernel) (ab_gto (by decide +kernel)) ?_
    exact ab_fin.lv ⟨(List.forall_mem_cons.mpr ⟨(List.Mem.tail _ (List.Mem.head _)), (List.forall_mem_cons.mpr ⟨(List.Mem.tail _ (List.Mem.tail _ (List.Mem.head _))), (List.forall_mem_cons.mpr ⟨(List.Mem.head _), (fun _ h => absurd h List.not_mem_nil)⟩)⟩)⟩), (show ([2, 0, 1, 3, 5, 7, 9, 11] : List Nat).Nodup from by decide)⟩ w
  · replace w := w.2 q
    refine ab_fin.s2 (i := .iload_n 2) (k := 1) (pc' := 76) (lv' := [(0, .ref 56), (1, .int l1), (2, .int l2), (3, .long l3), (5, .long l5), (7, .long l7), (9, .long l9), (11, .int l11)]) (st' := [.int l2]) (by decide +kernel) rfl rfl ?_
    refine ab_fin.s1i (i := .bipush 24) (k := 2) (pc' := 78) (n := 24) (by decide +kernel) rfl (by decide +kernel) rfl ?_
    refine ab_fin.s1 (i := .imul) (k := 1) (pc' := 79) (st' := [.int (l2 * (24 : Int32))]) (by decide +kernel) rfl rfl ?_
    refine ab_fin.s2 (i := .aload_n 0) (k := 1) (pc' := 80) (lv' := [(0, .ref 56), (1, .int l1), (2, .int l2), (3, .long l3), (5, .long l5), (7, .long l7), (9, .long l9), (11, .int l11)]) (st' := [.ref 56, .int (l2 * (24 : Int32))]) (by decide +kernel) rfl rfl ?_
    refine ab_fin.q_rA (b := 1) (ix := 43) (ci := 4) (k := 0) (pc' := 83) (by decide +kernel) rfl (c_rA (F.s t0_56) rfl (rC_4_0 F t0_56)) rfl ?_
    refine ab_fin.q_rA (b := 38) (ix := 67) (ci := 12) (k := 13) (pc' := 86) (by decide +kernel) rfl (c_rA (F.s t0_1) rfl (rC_12_13 F t0_1)) rfl ?_
    refine ab_fin.s2 (i := .iload 11) (k := 2) (pc' := 88) (lv' := [(0, .ref 56), (1, .int l1), (2, .int l2), (3, .long l3), (5, .long l5), (7, .long l7), (9, .long l9), (11, .int l11)]) (st' := [.int l11, .ref 38, .int (l2 * (24 : Int32))]) (by decide +kernel) rfl rfl ?_
    obtain ⟨e7, w⟩ := w
    refine ab_fin.q_eI (x := (σ.i 38 l11.toNatClampNeg)) (pc' := 89) (by decide +kernel) (c_eI' (F.s t0_38) e7 rfl) rfl ?_
    refine ab_fin.s1 (i := .iadd) (k := 1) (pc' := 90) (st' := [.int ((l2 * (24 : Int32)) + (σ.i 38 l11.toNatClampNeg))]) (by decide +kernel) rfl rfl ?_
    refine ab_fin.s2 (i := .istore 12) (k := 2) (pc' := 92) (lv' := [(12, .int ((l2 * (24 : Int32)) + (σ.i 38 l11.toNatClampNeg))), (0, .ref 56), (1, .int l1), (2, .int l2), (3, .long l3), (5, .long l5), (7, .long l7), (9, .long l9), (11, .int l11)]) (st' := []) (by decide +kernel) rfl rfl ?_
    refine ab_fin.s2 (i := .lload_n 3) (k := 1) (pc' := 93) (lv' := [(12, .int ((l2 * (24 : Int32)) + (σ.i 38 l11.toNatClampNeg))), (0, .ref 56), (1, .int l1), (2, .int l2), (3, .long l3), (5, .long l5), (7, .long l7), (9, .long l9), (11, .int l11)]) (st' := [.long l3]) (by decide +kernel) rfl rfl ?_
    refine ab_fin.s2 (i := .aload_n 0) (k := 1) (pc' := 94) (lv' := [(12, .int ((l2 * (24 : Int32)) + (σ.i 38 l11.toNatClampNeg))), (0, .ref 56), (1, .int l1), (2, .int l2), (3, .long l3), (5, .long l5), (7, .long l7), (9, .long l9), (11, .int l11)]) (st' := [.ref 56, .long l3]) (by decide +kernel) rfl rfl ?_
    refine ab_fin.q_rA (b := 1) (ix := 43) (ci := 4) (k := 0) (pc' := 97) (by decide +kernel) rfl (c_rA (F.s t0_56) rfl (rC_4_0 F t0_56)) rfl ?_
    refine ab_fin.q_rA (b := 36) (ix := 73) (ci := 12) (k := 11) (pc' := 100) (by decide +kernel) rfl (c_rA (F.s t0_1) rfl (rC_12_11 F t0_1)) rfl ?_
    refine ab_fin.s2 (i := .iload 12) (k := 2) (pc' := 102) (lv' := [(12, .int ((l2 * (24 : Int32)) + (σ.i 38 l11.toNatClampNeg))), (0, .ref 56), (1, .int l1), (2, .int l2), (3, .long l3), (5, .long l5), (7, .long l7), (9, .long l9), (11, .int l11)]) (st' := [.int ((l2 * (24 : Int32)) + (σ.i 38 l11.toNatClampNeg)), .ref 36, .long l3]) (by decide +kernel) rfl rfl ?_
    obtain ⟨e8, w⟩ := w
    refine ab_fin.q_eL (x := (σ.l 36 (((l2 * (24 : Int32)) + (σ.i 38 l11.toNatClampNeg)).toNatClampNeg))) (pc' := 103) (by decide +kernel) (c_eL' (F.s t0_36) e8 rfl) rfl ?_
    refine ab_fin.s1 (i := .lor) (k := 1) (pc' := 104) (st' := [.long (l3 ||| (σ.l 36 (((l2 * (24 : Int32)) + (σ.i 38 l11.toNatClampNeg)).toNatClampNeg)))]) (by decide +kernel) rfl rfl ?_
    refine ab_fin.s2 (i := .lstore_n 3) (k := 1) (pc' := 105) (lv' := [(3, .long (l3 ||| (σ.l 36 (((l2 * (24 : Int32)) + (σ.i 38 l11.toNatClampNeg)).toNatClampNeg)))), (12, .int ((l2 * (24 : Int32)) + (σ.i 38 l11.toNatClampNeg))), (0, .ref 56), (1, .int l1), (2, .int l2), (5, .long l5), (7, .long l7), (9, .long l9), (11, .int l11)]) (st' := []) (by decide +kernel) rfl rfl ?_
    refine ab_fin.s2 (i := .lload 5) (k := 2) (pc' := 107) (lv' := [(3, .long (l3 ||| (σ.l 36 (((l2 * (24 : Int32)) + (σ.i 38 l11.toNatClampNeg)).toNatClampNeg)))), (12, .int ((l2 * (24 : Int32)) + (σ.i 38 l11.toNatClampNeg))), (0, .ref 56), (1, .int l1), (2, .int l2), (5, .long l5), (7, .long l7), (9, .long l9), (11, .int l11)]) (st' := [.long l5]) (by decide +kernel) rfl rfl ?_
    refine ab_fin.s2 (i := .aload_n 0) (k := 1) (pc' := 108) (lv' := [(3, .long (l3 ||| (σ.l 36 (((l2 * (24 : Int32)) + (σ.i 38 l11.toNatClampNeg)).toNatClampNeg)))), (12, .int ((l2 * (24 : Int32)) + (σ.i 38 l11.toNatClampNeg))), (0, .ref 56), (1, .int l1), (2, .int l2), (5, .long l5), (7, .long l7), (9, .long l9), (11, .int l11)]) (st' := [.ref 56, .long l5]) (by decide +kernel) rfl rfl ?_
    refine ab_fin.q_rA (b := 1) (ix := 43) (ci := 4) (k := 0) (pc' := 111) (by decide +kernel) rfl (c_rA (F.s t0_56) rfl (rC_4_0 F t0_56)) rfl ?_
    refine ab_fin.q_rA (b := 37) (ix := 76) (ci := 12) (k := 12) (pc' := 114) (by decide +kernel) rfl (c_rA (F.s t0_1) rfl (rC_12_12 F t0_1)) rfl ?_
    refine ab_fin.s2 (i := .iload 12) (k := 2) (pc' := 116) (lv' := [(3, .long (l3 ||| (σ.l 36 (((l2 * (24 : Int32)) + (σ.i 38 l11.toNatClampNeg)).toNatClampNeg)))), (12, .int ((l2 * (24 : Int32)) + (σ.i 38 l11.toNatClampNeg))), (0, .ref 56), (1, .int l1), (2, .int l2), (5, .long l5), (7, .long l7), (9, .long l9), (11, .int l11)]) (st' := [.int ((l2 * (24 : Int32)) + (σ.i 38 l11.toNatClampNeg)), .ref 37, .long l5]) (by decide +kernel) rfl rfl ?_
    obtain ⟨e9, w⟩ := w
    refine ab_fin.q_eL (x := (σ.l 37 (((l2 * (24 : Int32)) + (σ.i 38 l11.toNatClampNeg)).toNatClampNeg))) (pc' := 117) (by decide +kernel) (c_eL' (F.s t0_37) e9 rfl) rfl ?_
    refine ab_fin.s1 (i := .lor) (k := 1) (pc' := 118) (st' := [.long (l5 ||| (σ.l 37 (((l2 * (24 : Int32)) + (σ.i 38 l11.toNatClampNeg)).toNatClampNeg)))]) (by decide +kernel) rfl rfl ?_
    refine ab_fin.s2 (i := .lstore 5) (k := 2) (pc' := 120) (lv' := [(5, .long (l5 ||| (σ.l 37 (((l2 * (24 : Int32)) + (σ.i 38 l11.toNatClampNeg)).toNatClampNeg)))), (3, .long (l3 ||| (σ.l 36 (((l2 * (24 : Int32)) + (σ.i 38 l11.toNatClampNeg)).toNatClampNeg)))), (12, .int ((l2 * (24 : Int32)) + (σ.i 38 l11.toNatClampNeg))), (0, .ref 56), (1, .int l1), (2, .int l2), (7, .long l7), (9, .long l9), (11, .int l11)]) (st' := []) (by decide +kernel) rfl rfl ?_
    refine ab_fin.s2 (i := .lload 7) (k := 2) (pc' := 122) (lv' := [(5, .long (l5 ||| (σ.l 37 (((l2 * (24 : Int32)) + (σ.i 38 l11.toNatClampNeg)).toNatClampNeg)))), (3, .long (l3 ||| (σ.l 36 (((l2 * (24 : Int32)) + (σ.i 38 l11.toNatClampNeg)).toNatClampNeg)))), (12, .int ((l2 * (24 : Int32)) + (σ.i 38 l11.toNatClampNeg))), (0, .ref 56), (1, .int l1), (2, .int l2), (7, .long l7), (9, .long l9), (11, .int l11)]) (st' := [.long l7]) (by decide +kernel) rfl rfl ?_
    refine ab_fin.s2 (i := .aload_n 0) (k := 1) (pc' := 123) (lv' := [(5, .long (l5 ||| (σ.l 37 (((l2 * (24 : Int32)) + (σ.i 38 l11.toNatClampNeg)).toNatClampNeg)))), (3, .long (l3 ||| (σ.l 36 (((l2 * (24 : Int32)) + (σ.i 38 l11.toNatClampNeg)).toNatClampNeg)))), (12, .int ((l2 * (24 : Int32)) + (σ.i 38 l11.toNatClampNeg))), (0, .ref 56), (1, .int l1), (2, .int l2), (7, .long l7), (9, .long l9), (11, .int l11)]) (st' := [.ref 56, .long l7]) (by decide +kernel) rfl rfl ?_
    refine ab_fin.q_rA (b := 1) (ix := 43) (ci := 4) (k := 0) (pc' := 126) (by decide +kernel) rfl (c_rA (F.s t0_56) rfl (rC_4_0 F t0_56)) rfl ?_
    refine ab_fin.q_rA (b := 36) (ix := 73) (ci := 12) (k := 11) (pc' := 129) (by decide +kernel) rfl (c_rA (F.s t0_1) rfl (rC_12_11 F t0_1)) rfl ?_
    refine ab_fin.s2 (i := .iload 12) (k := 2) (pc' := 131) (lv' := [(5, .long (l5 ||| (σ.l 37 (((l2 * (24 : Int32)) + (σ.i 38 l11.toNatClampNeg)).toNatClampNeg)))), (3, .long (l3 ||| (σ.l 36 (((l2 * (24 : Int32)) + (σ.i 38 l11.toNatClampNeg)).toNatClampNeg)))), (12, .int ((l2 * (24 : Int32)) + (σ.i 38 l11.toNatClampNeg))), (0, .ref 56), (1, .int l1), (2, .int l2), (7, .long l7), (9, .long l9), (11, .int l11)]) (st' := [.int ((l2 * (24 : Int32)) + (σ.i 38 l11.toNatClampNeg)), .ref 36, .long l7]) (by decide +kernel) rfl rfl ?_
    obtain ⟨e10, w⟩ := w
    refine ab_fin.q_eL (x := (σ.l 36 (((l2 * (24 : Int32)) + (σ.i 38 l11.toNatClampNeg)).toNatClampNeg))) (pc' := 132) (by decide +kernel) (c_eL' (F.s t0_36) e10 rfl) rfl ?_
    refine ab_fin.s1 (i := .land) (k := 1) (pc' := 133) (st' := [.long (l7 &&& (σ.l 36 (((l2 * (24 : Int32)) + (σ.i 38 l11.toNatClampNeg)).toNatClampNeg)))]) (by decide +kernel) rfl rfl ?_
    refine ab_fin.s2 (i := .lstore 7) (k := 2) (pc' := 135) (lv' := [(7, .long (l7 &&& (σ.l 36 (((l2 * (24 : Int32)) + (σ.i 38 l11.toNatClampNeg)).toNatClampNeg)))), (5, .long (l5 ||| (σ.l 37 (((l2 * (24 : Int32)) + (σ.i 38 l11.toNatClampNeg)).toNatClampNeg)))), (3, .long (l3 ||| (σ.l 36 (((l2 * (24 : Int32)) + (σ.i 38 l11.toNatClampNeg)).toNatClampNeg)))), (12, .int ((l2 * (24 : Int32)) + (σ.i 38 l11.toNatClampNeg))), (0, .ref 56), (1, .int l1), (2, .int l2), (9, .long l9), (11, .int l11)]) (st' := []) (by decide +kernel) rfl rfl ?_
    refine ab_fin.s2 (i := .lload 9) (k := 2) (pc' := 137) (lv' := [(7, .long (l7 &&& (σ.l 36 (((l2 * (24 : Int32)) + (σ.i 38 l11.toNatClampNeg)).toNatClampNeg)))), (5, .long (l5 ||| (σ.l 37 (((l2 * (24 : Int32)) + (σ.i 38 l11.toNatClampNeg)).toNatClampNeg)))), (3, .long (l3 ||| (σ.l 36 (((l2 * (24 : Int32)) + (σ.i 38 l11.toNatClampNeg)).toNatClampNeg)))), (12, .int ((l2 * (24 : Int32)) + (σ.i 38 l11.toNatClampNeg))), (0, .ref 56), (1, .int l1), (2, .int l2), (9, .long l9), (11, .int l11)]) (st' := [.long l9]) (by decide +kernel) rfl rfl ?_
    refine ab_fin.s2 (i := .aload_n 0) (k := 1) (pc' := 138) (lv' := [(7, .long (l7 &&& (σ.l 36 (((l2 * (24 : Int32)) + (σ.i 38 l11.toNatClampNeg)).toNatClampNeg)))), (5, .long (l5 ||| (σ.l 37 (((l2 * (24 : Int32)) + (σ.i 38 l11.toNatClampNeg)).toNatClampNeg)))), (3, .long (l3 ||| (σ.l 36 (((l2 * (24 : Int32)) + (σ.i 38 l11.toNatClampNeg)).toNatClampNeg)))), (12, .int ((l2 * (24 : Int32)) + (σ.i 38 l11.toNatClampNeg))), (0, .ref 56), (1, .int l1), (2, .int l2), (9, .long l9), (11, .int l11)]) (st' := [.ref 56, .long l9]) (by decide +kernel) rfl rfl ?_
    refine ab_fin.q_rA (b := 1) (ix := 43) (ci := 4) (k := 0) (pc' := 141) (by decide +kernel) rfl (c_rA (F.s t0_56) rfl (rC_4_0 F t0_56)) rfl ?_
    refine ab_fin.q_rA (b := 37) (ix := 76) (ci := 12) (k := 12) (pc' := 144) (by decide +kernel) rfl (c_rA (F.s t0_1) rfl (rC_12_12 F t0_1)) rfl ?_
    refine ab_fin.s2 (i := .iload 12) (k := 2) (pc' := 146) (lv' := [(7, .long (l7 &&& (σ.l 36 (((l2 * (24 : Int32)) + (σ.i 38 l11.toNatClampNeg)).toNatClampNeg)))), (5, .long (l5 ||| (σ.l 37 (((l2 * (24 : Int32)) + (σ.i 38 l11.toNatClampNeg)).toNatClampNeg)))), (3, .long (l3 ||| (σ.l 36 (((l2 * (24 : Int32)) + (σ.i 38 l11.toNatClampNeg)).toNatClampNeg)))), (12, .int ((l2 * (24 : Int32)) + (σ.i 38 l11.toNatClampNeg))), (0, .ref 56), (1, .int l1), (2, .int l2), (9, .long l9), (11, .int l11)]) (st' := [.int ((l2 * (24 : Int32)) + (σ.i 38 l11.toNatClampNeg)), .ref 37, .long l9]) (by decide +kernel) rfl rfl ?_
    obtain ⟨e11, w⟩ := w
    refine ab_fin.q_eL (x := (σ.l 37 (((l2 * (24 : Int32)) + (σ.i 38 l11.toNatClampNeg)).toNatClampNeg))) (pc' := 147) (by decide +kernel) (c_eL' (F.s t0_37) e11 rfl) rfl ?_
    refine ab_fin.s1 (i := .land) (k := 1) (pc' := 148) (st' := [.long (l9 &&& (σ.l 37 (((l2 * (24 : Int32)) + (σ.i 38 l11.toNatClampNeg)).toNatClampNeg)))]) (by decide +kernel) rfl rfl ?_
    refine ab_fin.s2 (i := .lstore 9) (k := 2) (pc' := 150) (lv' := [(9, .long (l9 &&& (σ.l 37 (((l2 * (24 : Int32)) + (σ.i 38 l11.toNatClampNeg)).toNatClampNeg)))), (7, .long (l7 &&& (σ.l 36 (((l2 * (24 : Int32)) + (σ.i 38 l11.toNatClampNeg)).toNatClampNeg)))), (5, .long (l5 ||| (σ.l 37 (((l2 * (24 : Int32)) + (σ.i 38 l11.toNatClampNeg)).toNatClampNeg)))), (3, .long (l3 ||| (σ.l 36 (((l2 * (24 : Int32)) + (σ.i 38 l11.toNatClampNeg)).toNatClampNeg)))), (12, .int ((l2 * (24 : Int32)) + (σ.i 38 l11.toNatClampNeg))), (0, .ref 56), (1, .int l1), (2, .int l2), (11, .int l11)]) (st' := []) (by decide +kernel) rfl rfl ?_
    refine ab_fin.q_inc (n := 11) (c := 1) (pc' := 153) (lv' := [(11, .int (l11 + 1)), (9, .long (l9 &&& (σ.l 37 (((l2 * (24 : Int32)) + (σ.i 38 l11.toNatClampNeg)).toNatClampNeg)))), (7, .long (l7 &&& (σ.l 36 (((l2 * (24 : Int32)) + (σ.i 38 l11.toNatClampNeg)).toNatClampNeg)))), (5, .long (l5 ||| (σ.l 37 (((l2 * (24 : Int32)) + (σ.i 38 l11.toNatClampNeg)).toNatClampNeg)))), (3, .long (l3 ||| (σ.l 36 (((l2 * (24 : Int32)) + (σ.i 38 l11.toNatClampNeg)).toNatClampNeg)))), (12, .int ((l2 * (24 : Int32)) + (σ.i 38 l11.toNatClampNeg))), (0, .ref 56), (1, .int l1), (2, .int l2)]) (by decide +kernel) (by decide) rfl rfl rfl rfl ?_
    refine ab_fin.s3 (i := .goto (-90)) (k := 3) (t := 63) (st' := []) (by decide +kernel) (ab_gto (by decide +kernel)) ?_
    exact ab_fin.lv ⟨(List.forall_mem_cons.mpr ⟨(List.Mem.tail _ (List.Mem.tail _ (List.Mem.tail _ (List.Mem.tail _ (List.Mem.tail _ (List.Mem.tail _ (List.Mem.head _))))))), (List.forall_mem_cons.mpr ⟨(List.Mem.tail _ (List.Mem.tail _ (List.Mem.tail _ (List.Mem.tail _ (List.Mem.tail _ (List.Mem.tail _ (List.Mem.tail _ (List.Mem.head _)))))))), (List.forall_mem_cons.mpr ⟨(List.Mem.tail _ (List.Mem.tail _ (List.Mem.tail _ (List.Mem.tail _ (List.Mem.tail _ (List.Mem.tail _ (List.Mem.tail _ (List.Mem.tail _ (List.Mem.head _))))))))), (List.forall_mem_cons.mpr ⟨(List.Mem.tail _ (List.Mem.tail _ (List.Mem.tail _ (List.Mem.tail _ (List.Mem.head _))))), (List.forall_mem_cons.mpr ⟨(List.Mem.tail _ (List.Mem.tail _ (List.Mem.tail _ (List.Mem.head _)))), (List.forall_mem_cons.mpr ⟨(List.Mem.tail _ (List.Mem.tail _ (List.Mem.head _))), (List.forall_mem_cons.mpr ⟨(List.Mem.tail _ (List.Mem.head _)), (List.forall_mem_cons.mpr ⟨(List.Mem.head _), (fun _ h => absurd h List.not_mem_nil)⟩)⟩)⟩)⟩)⟩)⟩)⟩)⟩), (show ([11, 9, 7, 5, 3, 12, 0, 1, 2] : List Nat).Nodup from by decide)⟩ w

/-! THE CLASS, PIECE BY PIECE (printed by sgen.py), 10 -/
theorem T_X11_takeStockOf_32 {Z : zT} {d : Nat} {σ : Sg} {l1 : Int32} {l2 : Int64} {s0 : Int64} {K : kS} (F : FX ΦC σ.sh σ.r) (w : ib l1 122 ∧ (ib (σ.i 11 l1.toNatClampNeg) 24 ∧ (ib (σ.i 11 l1.toNatClampNeg) 24 ∧ (ib (σ.i 11 l1.toNatClampNeg) 24 ∧ (ib (σ.i 11 l1.toNatClampNeg) 24 ∧ (C_X11_takeStockOf_71 Z (d + 1) ((σ.wl 34 ((σ.i 11 l1.toNatClampNeg).toNatClampNeg) ((σ.l 34 ((σ.i 11 l1.toNatClampNeg).toNatClampNeg)) ||| l2)).wl 35 ((σ.i 11 l1.toNatClampNeg).toNatClampNeg) ((σ.l 35 ((σ.i 11 l1.toNatClampNeg).toNatClampNeg)) ||| s0)) l1 l2 s0 (σ.i 11 l1.toNatClampNeg) 0 K)))))) : C_X11_takeStockOf_32 Z (d + 1) σ l1 l2 s0 K := by
  unfold C_X11_takeStockOf_32
  refine ab_fin.s2 (i := .lstore 4) (k := 2) (pc' := 34) (lv' := [(4, .long s0), (0, .ref 1), (1, .int l1), (2, .long l2)]) (st' := []) (by decide +kernel) rfl rfl ?_
  refine ab_fin.s2 (i := .aload_n 0) (k := 1) (pc' := 35) (lv' := [(4, .long s0), (0, .ref 1), (1, .int l1), (2, .long l2)]) (st' := [.ref 1]) (by decide +kernel) rfl rfl ?_
  refine ab_fin.q_rA (b := 10) (ix := 21) (ci := 12) (k := 1) (pc' := 38) (by decide +kernel) rfl (c_rA (F.s t0_1) rfl (rC_12_1 F t0_1)) rfl ?_
  refine ab_fin.q_rA (b := 11) (ix := 146) (ci := 6) (k := 1) (pc' := 41) (by decide +kernel) rfl (c_rA (F.s t0_10) rfl (rC_6_1 F t0_10)) rfl ?_
  refine ab_fin.s2 (i := .iload_n 1) (k := 1) (pc' := 42) (lv' := [(4, .long s0), (0, .ref 1), (1, .int l1), (2, .long l2)]) (st' := [.int l1, .ref 11]) (by decide +kernel) rfl rfl ?_
  obtain ⟨e1, w⟩ := w
  refine ab_fin.q_eI (x := (σ.i 11 l1.toNatClampNeg)) (pc' := 43) (by decide +kernel) (c_eI' (F.s t0_11) e1 rfl) rfl ?_
  refine ab_fin.s2 (i := .istore 6) (k := 2) (pc' := 45) (lv' := [(6, .int (σ.i 11 l1.toNatClampNeg)), (4, .long s0), (0, .ref 1), (1, .int l1), (2, .long l2)]) (st' := []) (by decide +kernel) rfl rfl ?_
  refine ab_fin.s2 (i := .aload_n 0) (k := 1) (pc' := 46) (lv' := [(6, .int (σ.i 11 l1.toNatClampNeg)), (4, .long s0), (0, .ref 1), (1, .int l1), (2, .long l2)]) (st' := [.ref 1]) (by decide +kernel) rfl rfl ?_
  refine ab_fin.q_rA (b := 34) (ix := 52) (ci := 12) (k := 9) (pc' := 49) (by decide +kernel) rfl (c_rA (F.s t0_1) rfl (rC_12_9 F t0_1)) rfl ?_
  refine ab_fin.s2 (i := .iload 6) (k := 2) (pc' := 51) (lv' := [(6, .int (σ.i 11 l1.toNatClampNeg)), (4, .long s0), (0, .ref 1), (1, .int l1), (2, .long l2)]) (st' := [.int (σ.i 11 l1.toNatClampNeg), .ref 34]) (by decide +kernel) rfl rfl ?_
  refine ab_fin.s1 (i := .dup2) (k := 1) (pc' := 52) (st' := [.int (σ.i 11 l1.toNatClampNeg), .ref 34, .int (σ.i 11 l1.toNatClampNeg), .ref 34]) (by decide +kernel) rfl rfl ?_
  obtain ⟨e2, w⟩ := w
  refine ab_fin.q_eL (x := (σ.l 34 ((σ.i 11 l1.toNatClampNeg).toNatClampNeg))) (pc' := 53) (by decide +kernel) (c_eL' (F.s t0_34) e2 rfl) rfl ?_
  refine ab_fin.s2 (i := .lload_n 2) (k := 1) (pc' := 54) (lv' := [(6, .int (σ.i 11 l1.toNatClampNeg)), (4, .long s0), (0, .ref 1), (1, .int l1), (2, .long l2)]) (st' := [.long l2, .long (σ.l 34 ((σ.i 11 l1.toNatClampNeg).toNatClampNeg)), .int (σ.i 11 l1.toNatClampNeg), .ref 34]) (by decide +kernel) rfl rfl ?_
  refine ab_fin.s1 (i := .lor) (k := 1) (pc' := 55) (st' := [.long ((σ.l 34 ((σ.i 11 l1.toNatClampNeg).toNatClampNeg)) ||| l2), .int (σ.i 11 l1.toNatClampNeg), .ref 34]) (by decide +kernel) rfl rfl ?_
  obtain ⟨e3, w⟩ := w
  refine ab_fin.q_sL (h1 := conc (σ.wl 34 ((σ.i 11 l1.toNatClampNeg).toNatClampNeg) ((σ.l 34 ((σ.i 11 l1.toNatClampNeg).toNatClampNeg)) ||| l2))) (pc' := 56) (by decide +kernel) (c_sL' (F.s t0_34) e3 rfl) rfl ?_
  refine ab_fin.s2 (i := .aload_n 0) (k := 1) (pc' := 57) (lv' := [(6, .int (σ.i 11 l1.toNatClampNeg)), (4, .long s0), (0, .ref 1), (1, .int l1), (2, .long l2)]) (st' := [.ref 1]) (by decide +kernel) rfl rfl ?_
  refine ab_fin.q_rA (b := 35) (ix := 55) (ci := 12) (k := 10) (pc' := 60) (by decide +kernel) rfl (c_rA (F.s t0_1) rfl (rC_12_10 F t0_1)) rfl ?_
  refine ab_fin.s2 (i := .iload 6) (k := 2) (pc' := 62) (lv' := [(6, .int (σ.i 11 l1.toNatClampNeg)), (4, .long s0), (0, .ref 1), (1, .int l1), (2, .long l2)]) (st' := [.int (σ.i 11 l1.toNatClampNeg), .ref 35]) (by decide +kernel) rfl rfl ?_
  refine ab_fin.s1 (i := .dup2) (k := 1) (pc' := 63) (st' := [.int (σ.i 11 l1.toNatClampNeg), .ref 35, .int (σ.i 11 l1.toNatClampNeg), .ref 35]) (by decide +kernel) rfl rfl ?_
  obtain ⟨e4, w⟩ := w
  refine ab_fin.q_eL (x := (σ.l 35 ((σ.i 11 l1.toNatClampNeg).toNatClampNeg))) (pc' := 64) (by decide +kernel) (c_eL' (F.s t0_35) e4 rfl) rfl ?_
  refine ab_fin.s2 (i := .lload 4) (k := 2) (pc' := 66) (lv' := [(6, .int (σ.i 11 l1.toNatClampNeg)), (4, .long s0), (0, .ref 1), (1, .int l1), (2, .long l2)]) (st' := [.long s0, .long (σ.l 35 ((σ.i 11 l1.toNatClampNeg).toNatClampNeg)), .int (σ.i 11 l1.toNatClampNeg), .ref 35]) (by decide +kernel) rfl rfl ?_
  refine ab_fin.s1 (i := .lor) (k := 1) (pc' := 67) (st' := [.long ((σ.l 35 ((σ.i 11 l1.toNatClampNeg).toNatClampNeg)) ||| s0), .int (σ.i 11 l1.toNatClampNeg), .ref 35]) (by decide +kernel) rfl rfl ?_
  obtain ⟨e5, w⟩ := w
  refine ab_fin.q_sL (h1 := conc ((σ.wl 34 ((σ.i 11 l1.toNatClampNeg).toNatClampNeg) ((σ.l 34 ((σ.i 11 l1.toNatClampNeg).toNatClampNeg)) ||| l2)).wl 35 ((σ.i 11 l1.toNatClampNeg).toNatClampNeg) ((σ.l 35 ((σ.i 11 l1.toNatClampNeg).toNatClampNeg)) ||| s0))) (pc' := 68) (by decide +kernel) (c_sL' (F.s t0_35) e5 rfl) rfl ?_
  refine ab_fin.s1i (i := .iconst 0) (k := 1) (pc' := 69) (n := 0) (by decide +kernel) rfl (by decide +kernel) rfl ?_
  refine ab_fin.s2 (i := .istore 7) (k := 2) (pc' := 71) (lv' := [(7, .int 0), (6, .int (σ.i 11 l1.toNatClampNeg)), (4, .long s0), (0, .ref 1), (1, .int l1), (2, .long l2)]) (st' := []) (by decide +kernel) rfl rfl ?_
  exact ab_fin.lv ⟨(List.forall_mem_cons.mpr ⟨(List.Mem.tail _ (List.Mem.tail _ (List.Mem.tail _ (List.Mem.head _)))), (List.forall_mem_cons.mpr ⟨(List.Mem.tail _ (List.Mem.tail _ (List.Mem.tail _ (List.Mem.tail _ (List.Mem.head _))))), (List.forall_mem_cons.mpr ⟨(List.Mem.tail _ (List.Mem.tail _ (List.Mem.tail _ (List.Mem.tail _ (List.Mem.tail _ (List.Mem.head _)))))), (List.forall_mem_cons.mpr ⟨(List.Mem.tail _ (List.Mem.tail _ (List.Mem.head _))), (List.forall_mem_cons.mpr ⟨(List.Mem.tail _ (List.Mem.head _)), (List.forall_mem_cons.mpr ⟨(List.Mem.head _), (fun _ h => absurd h List.not_mem_nil)⟩)⟩)⟩)⟩)⟩)⟩), (show ([7, 6, 4, 0, 1, 2] : List Nat).Nodup from by decide)⟩ w
theorem T_X11_takeStockOf_71 {Z : zT} {d : Nat} {σ : Sg} {l1 : Int32} {l2 : Int64} {l4 : Int64} {l6 : Int32} {l7 : Int32} {K : kS} (F : FX ΦC σ.sh σ.r) (w : ib l6 24 ∧ (((σ.i 31 l6.toNatClampNeg) ≤ l7 → K (.inl none) σ) ∧ (¬ (σ.i 31 l6.toNatClampNeg) ≤ l7 → C_X11_takeStockOf_86 Z (d + 1) σ l1 l2 l4 l6 l7 0 K))) : C_X11_takeStockOf_71 Z (d + 1) σ l1 l2 l4 l6 l7 K := by
  unfold C_X11_takeStockOf_71
  refine ab_fin.s2 (i := .iload 7) (k := 2) (pc' := 73) (lv' := [(0, .ref 1), (1, .int l1), (2, .long l2), (4, .long l4), (6, .int l6), (7, .int l7)]) (st' := [.int l7]) (by decide +kernel) rfl rfl ?_
  refine ab_fin.s2 (i := .aload_n 0) (k := 1) (pc' := 74) (lv' := [(0, .ref 1), (1, .int l1), (2, .long l2), (4, .long l4), (6, .int l6), (7, .int l7)]) (st' := [.ref 1, .int l7]) (by decide +kernel) rfl rfl ?_
  refine ab_fin.q_rA (b := 31) (ix := 43) (ci := 12) (k := 6) (pc' := 77) (by decide +kernel) rfl (c_rA (F.s t0_1) rfl (rC_12_6 F t0_1)) rfl ?_
  refine ab_fin.s2 (i := .iload 6) (k := 2) (pc' := 79) (lv' := [(0, .ref 1), (1, .int l1), (2, .long l2), (4, .long l4), (6, .int l6), (7, .int l7)]) (st' := [.int l6, .ref 31, .int l7]) (by decide +kernel) rfl rfl ?_
  obtain ⟨e1, w⟩ := w
  refine ab_fin.q_eI (x := (σ.i 31 l6.toNatClampNeg)) (pc' := 80) (by decide +kernel) (c_eI' (F.s t0_31) e1 rfl) rfl ?_
  refine ab_fin.br (c := (σ.i 31 l6.toNatClampNeg) ≤ l7) (i := .if_icmp .ge 90) (off := 90) (t := 170) (pc' := 83) (r := []) (by decide +kernel) rfl (by decide +kernel) rfl (fun q => ?_) (fun q => ?_)
  · replace w := w.1 q
    exact ab_fin.q_ret (i := .return_) (k := 1) (v := none) (by decide +kernel) rfl F w
  · replace w := w.2 q
    refine ab_fin.s1i (i := .iconst 0) (k := 1) (pc' := 84) (n := 0) (by decide +kernel) rfl (by decide +kernel) rfl ?_
    refine ab_fin.s2 (i := .istore 8) (k := 2) (pc' := 86) (lv' := [(8, .int 0), (0, .ref 1), (1, .int l1), (2, .long l2), (4, .long l4), (6, .int l6), (7, .int l7)]) (st' := []) (by decide +kernel) rfl rfl ?_
    exact ab_fin.lv ⟨(List.forall_mem_cons.mpr ⟨(List.Mem.tail _ (List.Mem.head _)), (List.forall_mem_cons.mpr ⟨(List.Mem.tail _ (List.Mem.tail _ (List.Mem.head _))), (List.forall_mem_cons.mpr ⟨(List.Mem.tail _ (List.Mem.tail _ (List.Mem.tail _ (List.Mem.head _)))), (List.forall_mem_cons.mpr ⟨(List.Mem.tail _ (List.Mem.tail _ (List.Mem.tail _ (List.Mem.tail _ (List.Mem.head _))))), (List.forall_mem_cons.mpr ⟨(List.Mem.tail _ (List.Mem.tail _ (List.Mem.tail _ (List.Mem.tail _ (List.Mem.tail _ (List.Mem.head _)))))), (List.forall_mem_cons.mpr ⟨(List.Mem.tail _ (List.Mem.tail _ (List.Mem.tail _ (List.Mem.tail _ (List.Mem.tail _ (List.Mem.tail _ (List.Mem.head _))))))), (List.forall_mem_cons.mpr ⟨(List.Mem.head _), (fun _ h => absurd h List.not_mem_nil)⟩)⟩)⟩)⟩)⟩)⟩)⟩), (show ([8, 0, 1, 2, 4, 6, 7] : List Nat).Nodup from by decide)⟩ w
theorem T_X11_takeStockOf_86 {Z : zT} {d : Nat} {σ : Sg} {l1 : Int32} {l2 : Int64} {l4 : Int64} {l6 : Int32} {l7 : Int32} {l8 : Int32} {K : kS} (F : FX ΦC σ.sh σ.r) (w : ((σ.i 28 0) ≤ l8 → C_X11_takeStockOf_71 Z (d + 1) σ l1 l2 l4 l6 (l7 + 1) K) ∧ (¬ (σ.i 28 0) ≤ l8 → ib ((l1 * (3 : Int32)) + l7) 366 ∧ (C_X2_isBelow_0 Z d σ l8 (σ.i 15 (((l1 * (3 : Int32)) + l7).toNatClampNeg)) (yI K fun v4 τ2 => (v4 = 0 → C_X11_takeStockOf_86 Z (d + 1) τ2 l1 l2 l4 l6 l7 (l8 + 1) K) ∧ (¬ v4 = 0 → ib ((l7 * (24 : Int32)) + l8) 72 ∧ (ib ((l7 * (24 : Int32)) + l8) 72 ∧ (ib ((l7 * (24 : Int32)) + l8) 72 ∧ (ib ((l7 * (24 : Int32)) + l8) 72 ∧ (C_X11_takeStockOf_86 Z (d + 1) ((τ2.wl 36 (((l7 * (24 : Int32)) + l8).toNatClampNeg) ((τ2.l 36 (((l7 * (24 : Int32)) + l8).toNatClampNeg)) ||| l2)).wl 37 (((l7 * (24 : Int32)) + l8).toNatClampNeg) ((τ2.l 37 (((l7 * (24 : Int32)) + l8).toNatClampNeg)) ||| l4)) l1 l2 l4 l6 l7 (l8 + 1) K))))))))) : C_X11_takeStockOf_86 Z (d + 1) σ l1 l2 l4 l6 l7 l8 K := by
  unfold C_X11_takeStockOf_86
  refine ab_fin.s2 (i := .iload 8) (k := 2) (pc' := 88) (lv' := [(0, .ref 1), (1, .int l1), (2, .long l2), (4, .long l4), (6, .int l6), (7, .int l7), (8, .int l8)]) (st' := [.int l8]) (by decide +kernel) rfl rfl ?_
  refine ab_fin.s2 (i := .aload_n 0) (k := 1) (pc' := 89) (lv' := [(0, .ref 1), (1, .int l1), (2, .long l2), (4, .long l4), (6, .int l6), (7, .int l7), (8, .int l8)]) (st' := [.ref 1, .int l8]) (by decide +kernel) rfl rfl ?_
  refine ab_fin.q_rA (b := 28) (ix := 32) (ci := 12) (k := 3) (pc' := 92) (by decide +kernel) rfl (c_rA (F.s t0_1) rfl (rC_12_3 F t0_1)) rfl ?_
  refine ab_fin.s1i (i := .iconst 0) (k := 1) (pc' := 93) (n := 0) (by decide +kernel) rfl (by decide +kernel) rfl ?_
  refine ab_fin.q_eI (x := (σ.i 28 0)) (pc' := 94) (by decide +kernel) (c_eI' (F.s t0_28) (show ib (0 : Int32) 4 by decide +kernel) (by decide +kernel)) rfl ?_
  refine ab_fin.br (c := (σ.i 28 0) ≤ l8) (i := .if_icmp .ge 70) (off := 70) (t := 164) (pc' := 97) (r := []) (by decide +kernel) rfl (by decide +kernel) rfl (fun q => ?_) (fun q => ?_)
  · replace w := w.1 q
    refine ab_fin.q_inc (n := 7) (c := 1) (pc' := 167) (lv' := [(7, .int (l7 + 1)), (0, .ref 1), (1, .int l1), (2, .long l2), (4, .long l4), (6, .int l6), (8, .int l8)]) (by decide +kernel) (by decide) rfl rfl rfl rfl ?_
    refine ab_fin.s3 (i := .goto (-96)) (k := 3) (t := 71) (st' := []) (by decide +kernel) (ab_gto (by decide +kernel)) ?_
    exact ab_fin.lv ⟨(List.forall_mem_cons.mpr ⟨(List.Mem.tail _ (List.Mem.head _)), (List.forall_mem_cons.mpr ⟨(List.Mem.tail _ (List.Mem.tail _ (List.Mem.head _))), (List.forall_mem_cons.mpr ⟨(List.Mem.tail _ (List.Mem.tail _ (List.Mem.tail _ (List.Mem.head _)))), (List.forall_mem_cons.mpr ⟨(List.Mem.tail _ (List.Mem.tail _ (List.Mem.tail _ (List.Mem.tail _ (List.Mem.head _))))), (List.forall_mem_cons.mpr ⟨(List.Mem.tail _ (List.Mem.tail _ (List.Mem.tail _ (List.Mem.tail _ (List.Mem.tail _ (List.Mem.head _)))))), (List.forall_mem_cons.mpr ⟨(List.Mem.head _), (fun _ h => absurd h List.not_mem_nil)⟩)⟩)⟩)⟩)⟩)⟩), (show ([7, 0, 1, 2, 4, 6, 8] : List Nat).Nodup from by decide)⟩ w
  · replace w := w.2 q
    refine ab_fin.s2 (i := .aload_n 0) (k := 1) (pc' := 98) (lv' := [(0, .ref 1), (1, .int l1), (2, .long l2), (4, .long l4), (6, .int l6), (7, .int l7), (8, .int l8)]) (st' := [.ref 1]) (by decide +kernel) rfl rfl ?_
    refine ab_fin.q_rA (b := 2) (ix := 12) (ci := 12) (k := 0) (pc' := 101) (by decide +kernel) rfl (c_rA (F.s t0_1) rfl (rC_12_0 F t0_1)) rfl ?_
    refine ab_fin.s2 (i := .iload 8) (k := 2) (pc' := 103) (lv' := [(0, .ref 1), (1, .int l1), (2, .long l2), (4, .long l4), (6, .int l6), (7, .int l7), (8, .int l8)]) (st' := [.int l8, .ref 2]) (by decide +kernel) rfl rfl ?_
    refine ab_fin.s2 (i := .aload_n 0) (k := 1) (pc' := 104) (lv' := [(0, .ref 1), (1, .int l1), (2, .long l2), (4, .long l4), (6, .int l6), (7, .int l7), (8, .int l8)]) (st' := [.ref 1, .int l8, .ref 2]) (by decide +kernel) rfl rfl ?_
    refine ab_fin.q_rA (b := 10) (ix := 21) (ci := 12) (k := 1) (pc' := 107) (by decide +kernel) rfl (c_rA (F.s t0_1) rfl (rC_12_1 F t0_1)) rfl ?_
    refine ab_fin.q_rA (b := 15) (ix := 149) (ci := 6) (k := 5) (pc' := 110) (by decide +kernel) rfl (c_rA (F.s t0_10) rfl (rC_6_5 F t0_10)) rfl ?_
    refine ab_fin.s2 (i := .iload_n 1) (k := 1) (pc' := 111) (lv' := [(0, .ref 1), (1, .int l1), (2, .long l2), (4, .long l4), (6, .int l6), (7, .int l7), (8, .int l8)]) (st' := [.int l1, .ref 15, .int l8, .ref 2]) (by decide +kernel) rfl rfl ?_
    refine ab_fin.s1i (i := .iconst 3) (k := 1) (pc' := 112) (n := 3) (by decide +kernel) rfl (by decide +kernel) rfl ?_
    refine ab_fin.s1 (i := .imul) (k := 1) (pc' := 113) (st' := [.int (l1 * (3 : Int32)), .ref 15, .int l8, .ref 2]) (by decide +kernel) rfl rfl ?_
    refine ab_fin.s2 (i := .iload 7) (k := 2) (pc' := 115) (lv' := [(0, .ref 1), (1, .int l1), (2, .long l2), (4, .long l4), (6, .int l6), (7, .int l7), (8, .int l8)]) (st' := [.int l7, .int (l1 * (3 : Int32)), .ref 15, .int l8, .ref 2]) (by decide +kernel) rfl rfl ?_
    refine ab_fin.s1 (i := .iadd) (k := 1) (pc' := 116) (st' := [.int ((l1 * (3 : Int32)) + l7), .ref 15, .int l8, .ref 2]) (by decide +kernel) rfl rfl ?_
    obtain ⟨e1, w⟩ := w
    refine ab_fin.q_eI (x := (σ.i 15 (((l1 * (3 : Int32)) + l7).toNatClampNeg))) (pc' := 117) (by decide +kernel) (c_eI' (F.s t0_15) e1 rfl) rfl ?_
    refine ab_fin.q_yI (i := .invokevirtual 152) (k := 3) (y := 513) (As := [.ref 2, .int l8, .int (σ.i 15 (((l1 * (3 : Int32)) + l7).toNatClampNeg))]) (rest := []) (M' := (mX2_isBelow, [])) (lv2 := [(0, .ref 2), (1, .int l8), (2, .int (σ.i 15 (((l1 * (3 : Int32)) + l7).toNatClampNeg)))]) (pc' := 120) (X := K) (by decide +kernel) (ab_cv rfl rfl (conc_get (σ := σ) (F.s t0_2)) ⟨(Nat.le_of_ble_eq_true rfl), (Nat.le_of_ble_eq_true rfl)⟩ rfl) rfl (Nat.le_of_ble_eq_true rfl) rfl rfl (hY_no fun E => rfl) w (fun v4 τ2 F3 w => ?_)
    refine ab_fin.br (c := v4 = 0) (i := .ifCond .eq 38) (off := 38) (t := 158) (pc' := 123) (r := []) (by decide +kernel) rfl (by decide +kernel) rfl (fun q => ?_) (fun q => ?_)
    · replace w := w.1 q
      refine ab_fin.q_inc (n := 8) (c := 1) (pc' := 161) (lv' := [(8, .int (l8 + 1)), (0, .ref 1), (1, .int l1), (2, .long l2), (4, .long l4), (6, .int l6), (7, .int l7)]) (by decide +kernel) (by decide) rfl rfl rfl rfl ?_
      refine ab_fin.s3 (i := .goto (-75)) (k := 3) (t := 86) (st' := []) (by decide +kernel) (ab_gto (by decide +kernel)) ?_
      exact ab_fin.lv ⟨(List.forall_mem_cons.mpr ⟨(List.Mem.tail _ (List.Mem.head _)), (List.forall_mem_cons.mpr ⟨(List.Mem.tail _ (List.Mem.tail _ (List.Mem.head _))), (List.forall_mem_cons.mpr ⟨(List.Mem.tail _ (List.Mem.tail _ (List.Mem.tail _ (List.Mem.head _)))), (List.forall_mem_cons.mpr ⟨(List.Mem.tail _ (List.Mem.tail _ (List.Mem.tail _ (List.Mem.tail _ (List.Mem.head _))))), (List.forall_mem_cons.mpr ⟨(List.Mem.tail _ (List.Mem.tail _ (List.Mem.tail _ (List.Mem.tail _ (List.Mem.tail _ (List.Mem.head _)))))), (List.forall_mem_cons.mpr ⟨(List.Mem.tail _ (List.Mem.tail _ (List.Mem.tail _ (List.Mem.tail _ (List.Mem.tail _ (List.Mem.tail _ (List.Mem.head _))))))), (List.forall_mem_cons.mpr ⟨(List.Mem.head _), (fun _ h => absurd h List.not_mem_nil)⟩)⟩)⟩)⟩)⟩)⟩)⟩), (show ([8, 0, 1, 2, 4, 6, 7] : List Nat).Nodup from by decide)⟩ w
    · replace w := w.2 q
      refine ab_fin.s2 (i := .aload_n 0) (k := 1) (pc' := 124) (lv' := [(0, .ref 1), (1, .int l1), (2, .long l2), (4, .long l4), (6, .int l6), (7, .int l7), (8, .int l8)]) (st' := [.ref 1]) (by decide +kernel) rfl rfl ?_
      refine ab_fin.q_rA (b := 36) (ix := 58) (ci := 12) (k := 11) (pc' := 127) (by decide +kernel) rfl (c_rA (F3.s t0_1) rfl (rC_12_11 F3 t0_1)) rfl ?_
      refine ab_fin.s2 (i := .iload 7) (k := 2) (pc' := 129) (lv' := [(0, .ref 1), (1, .int l1), (2, .long l2), (4, .long l4), (6, .int l6), (7, .int l7), (8, .int l8)]) (st' := [.int l7, .ref 36]) (by decide +kernel) rfl rfl ?_
      refine ab_fin.s1i (i := .bipush 24) (k := 2) (pc' := 131) (n := 24) (by decide +kernel) rfl (by decide +kernel) rfl ?_
      refine ab_fin.s1 (i := .imul) (k := 1) (pc' := 132) (st' := [.int (l7 * (24 : Int32)), .ref 36]) (by decide +kernel) rfl rfl ?_
      refine ab_fin.s2 (i := .iload 8) (k := 2) (pc' := 134) (lv' := [(0, .ref 1), (1, .int l1), (2, .long l2), (4, .long l4), (6, .int l6), (7, .int l7), (8, .int l8)]) (st' := [.int l8, .int (l7 * (24 : Int32)), .ref 36]) (by decide +kernel) rfl rfl ?_
      refine ab_fin.s1 (i := .iadd) (k := 1) (pc' := 135) (st' := [.int ((l7 * (24 : Int32)) + l8), .ref 36]) (by decide +kernel) rfl rfl ?_
      refine ab_fin.s1 (i := .dup2) (k := 1) (pc' := 136) (st' := [.int ((l7 * (24 : Int32)) + l8), .ref 36, .int ((l7 * (24 : Int32)) + l8), .ref 36]) (by decide +kernel) rfl rfl ?_
      obtain ⟨e5, w⟩ := w
      refine ab_fin.q_eL (x := (τ2.l 36 (((l7 * (24 : Int32)) + l8).toNatClampNeg))) (pc' := 137) (by decide +kernel) (c_eL' (F3.s t0_36) e5 rfl) rfl ?_
      refine ab_fin.s2 (i := .lload_n 2) (k := 1) (pc' := 138) (lv' := [(0, .ref 1), (1, .int l1), (2, .long l2), (4, .long l4), (6, .int l6), (7, .int l7), (8, .int l8)]) (st' := [.long l2, .long (τ2.l 36 (((l7 * (24 : Int32)) + l8).toNatClampNeg)), .int ((l7 * (24 : Int32)) + l8), .ref 36]) (by decide +kernel) rfl rfl ?_
      refine ab_fin.s1 (i := .lor) (k := 1) (pc' := 139) (st' := [.long ((τ2.l 36 (((l7 * (24 : Int32)) + l8).toNatClampNeg)) ||| l2), .int ((l7 * (24 : Int32)) + l8), .ref 36]) (by decide +kernel) rfl rfl ?_
      obtain ⟨e6, w⟩ := w
      refine ab_fin.q_sL (h1 := conc (τ2.wl 36 (((l7 * (24 : Int32)) + l8).toNatClampNeg) ((τ2.l 36 (((l7 * (24 : Int32)) + l8).toNatClampNeg)) ||| l2))) (pc' := 140) (by decide +kernel) (c_sL' (F3.s t0_36) e6 rfl) rfl ?_
      refine ab_fin.s2 (i := .aload_n 0) (k := 1) (pc' := 141) (lv' := [(0, .ref 1), (1, .int l1), (2, .long l2), (4, .long l4), (6, .int l6), (7, .int l7), (8, .int l8)]) (st' := [.ref 1]) (by decide +kernel) rfl rfl ?_
      refine ab_fin.q_rA (b := 37) (ix := 61) (ci := 12) (k := 12) (pc' := 144) (by decide +kernel) rfl (c_rA (F3.s t0_1) rfl (rC_12_12 F3 t0_1)) rfl ?_
      refine ab_fin.s2 (i := .iload 7) (k := 2) (pc' := 146) (lv' := [(0, .ref 1), (1, .int l1), (2, .long l2), (4, .long l4), (6, .int l6), (7, .int l7), (8, .int l8)]) (st' := [.int l7, .ref 37]) (by decide +kernel) rfl rfl ?_
      refine ab_fin.s1i (i := .bipush 24) (k := 2) (pc' := 148) (n := 24) (by decide +kernel) rfl (by decide +kernel) rfl ?_
      refine ab_fin.s1 (i := .imul) (k := 1) (pc' := 149) (st' := [.int (l7 * (24 : Int32)), .ref 37]) (by decide +kernel) rfl rfl ?_
      refine ab_fin.s2 (i := .iload 8) (k := 2) (pc' := 151) (lv' := [(0, .ref 1), (1, .int l1), (2, .long l2), (4, .long l4), (6, .int l6), (7, .int l7), (8, .int l8)]) (st' := [.int l8, .int (l7 * (24 : Int32)), .ref 37]) (by decide +kernel) rfl rfl ?_
      refine ab_fin.s1 (i := .iadd) (k := 1) (pc' := 152) (st' := [.int ((l7 * (24 : Int32)) + l8), .ref 37]) (by decide +kernel) rfl rfl ?_
      refine ab_fin.s1 (i := .dup2) (k := 1) (pc' := 153) (st' := [.int ((l7 * (24 : Int32)) + l8), .ref 37, .int ((l7 * (24 : Int32)) + l8), .ref 37]) (by decide +kernel) rfl rfl ?_
      obtain ⟨e7, w⟩ := w
      refine ab_fin.q_eL (x := (τ2.l 37 (((l7 * (24 : Int32)) + l8).toNatClampNeg))) (pc' := 154) (by decide +kernel) (c_eL' (F3.s t0_37) e7 rfl) rfl ?_
      refine ab_fin.s2 (i := .lload 4) (k := 2) (pc' := 156) (lv' := [(0, .ref 1), (1, .int l1), (2, .long l2), (4, .long l4), (6, .int l6), (7, .int l7), (8, .int l8)]) (st' := [.long l4, .long (τ2.l 37 (((l7 * (24 : Int32)) + l8).toNatClampNeg)), .int ((l7 * (24 : Int32)) + l8), .ref 37]) (by decide +kernel) rfl rfl ?_
      refine ab_fin.s1 (i := .lor) (k := 1) (pc' := 157) (st' := [.long ((τ2.l 37 (((l7 * (24 : Int32)) + l8).toNatClampNeg)) ||| l4), .int ((l7 * (24 : Int32)) + l8), .ref 37]) (by decide +kernel) rfl rfl ?_
      obtain ⟨e8, w⟩ := w
      refine ab_fin.q_sL (h1 := conc ((τ2.wl 36 (((l7 * (24 : Int32)) + l8).toNatClampNeg) ((τ2.l 36 (((l7 * (24 : Int32)) + l8).toNatClampNeg)) ||| l2)).wl 37 (((l7 * (24 : Int32)) + l8).toNatClampNeg) ((τ2.l 37 (((l7 * (24 : Int32)) + l8).toNatClampNeg)) ||| l4))) (pc' := 158) (by decide +kernel) (c_sL' (F3.s t0_37) e8 rfl) rfl ?_
      refine ab_fin.q_inc (n := 8) (c := 1) (pc' := 161) (lv' := [(8, .int (l8 + 1)), (0, .ref 1), (1, .int l1), (2, .long l2), (4, .long l4), (6, .int l6), (7, .int l7)]) (by decide +kernel) (by decide) rfl rfl rfl rfl ?_
      refine ab_fin.s3 (i := .goto (-75)) (k := 3) (t := 86) (st' := []) (by decide +kernel) (ab_gto (by decide +kernel)) ?_
      exact ab_fin.lv ⟨(List.forall_mem_cons.mpr ⟨(List.Mem.tail _ (List.Mem.head _)), (List.forall_mem_cons.mpr ⟨(List.Mem.tail _ (List.Mem.tail _ (List.Mem.head _))), (List.forall_mem_cons.mpr ⟨(List.Mem.tail _ (List.Mem.tail _ (List.Mem.tail _ (List.Mem.head _)))), (List.forall_mem_cons.mpr ⟨(List.Mem.tail _ (List.Mem.tail _ (List.Mem.tail _ (List.Mem.tail _ (List.Mem.head _))))), (List.forall_mem_cons.mpr ⟨(List.Mem.tail _ (List.Mem.tail _ (List.Mem.tail _ (List.Mem.tail _ (List.Mem.tail _ (List.Mem.head _)))))), (List.forall_mem_cons.mpr ⟨(List.Mem.tail _ (List.Mem.tail _ (List.Mem.tail _ (List.Mem.tail _ (List.Mem.tail _ (List.Mem.tail _ (List.Mem.head _))))))), (List.forall_mem_cons.mpr ⟨(List.Mem.head _), (fun _ h => absurd h List.not_mem_nil)⟩)⟩)⟩)⟩)⟩)⟩)⟩), (show ([8, 0, 1, 2, 4, 6, 7] : List Nat).Nodup from by decide)⟩ w
theorem T_X11_methodsOf_0 {Z : zT} {d : Nat} {σ : Sg} {l1 : Int32} {K : kS} (F : FX ΦC σ.sh σ.r) (w : ib l1 24 ∧ (C_J13_bitCount_95d88_0 Z d σ (σ.l 34 l1.toNatClampNeg) (yI K fun v4 τ2 => ib l1 24 ∧ (C_J13_bitCount_95d88_0 Z d τ2 (τ2.l 35 l1.toNatClampNeg) (yI K fun v8 τ6 => K (.inl (some (.int (v4 + v8)))) τ6))))) : C_X11_methodsOf_0 Z (d + 1) σ l1 K := by
  unfold C_X11_methodsOf_0
  refine ab_fin.s2 (i := .aload_n 0) (k := 1) (pc' := 1) (lv' := [(0, .ref 1), (1, .int l1)]) (st' := [.ref 1]) (by decide +kernel) rfl rfl ?_
  refine ab_fin.q_rA (b := 34) (ix := 52) (ci := 12) (k := 9) (pc' := 4) (by decide +kernel) rfl (c_rA (F.s t0_1) rfl (rC_12_9 F t0_1)) rfl ?_
  refine ab_fin.s2 (i := .iload_n 1) (k := 1) (pc' := 5) (lv' := [(0, .ref 1), (1, .int l1)]) (st' := [.int l1, .ref 34]) (by decide +kernel) rfl rfl ?_
  obtain ⟨e1, w⟩ := w
  refine ab_fin.q_eL (x := (σ.l 34 l1.toNatClampNeg)) (pc' := 6) (by decide +kernel) (c_eL' (F.s t0_34) e1 rfl) rfl ?_
  refine ab_fin.q_yI (i := .invokestatic 156) (k := 3) (y := 8961) (As := [.long (σ.l 34 l1.toNatClampNeg)]) (rest := []) (M' := (mJ13_bitCount_95d88, [])) (lv2 := [(0, .long (σ.l 34 l1.toNatClampNeg))]) (pc' := 9) (X := K) (by decide +kernel) (ab_cs rfl rfl ⟨(Nat.le_of_ble_eq_true rfl), (Nat.le_of_ble_eq_true rfl)⟩ rfl) rfl (Nat.le_of_ble_eq_true rfl) rfl rfl (hY_no fun E => rfl) w (fun v4 τ2 F3 w => ?_)
  refine ab_fin.s2 (i := .aload_n 0) (k := 1) (pc' := 10) (lv' := [(0, .ref 1), (1, .int l1)]) (st' := [.ref 1, .int v4]) (by decide +kernel) rfl rfl ?_
  refine ab_fin.q_rA (b := 35) (ix := 55) (ci := 12) (k := 10) (pc' := 13) (by decide +kernel) rfl (c_rA (F3.s t0_1) rfl (rC_12_10 F3 t0_1)) rfl ?_
  refine ab_fin.s2 (i := .iload_n 1) (k := 1) (pc' := 14) (lv' := [(0, .ref 1), (1, .int l1)]) (st' := [.int l1, .ref 35, .int v4]) (by decide +kernel) rfl rfl ?_
  obtain ⟨e5, w⟩ := w
  refine ab_fin.q_eL (x := (τ2.l 35 l1.toNatClampNeg)) (pc' := 15) (by decide +kernel) (c_eL' (F3.s t0_35) e5 rfl) rfl ?_
  refine ab_fin.q_yI (i := .invokestatic 156) (k := 3) (y := 8961) (As := [.long (τ2.l 35 l1.toNatClampNeg)]) (rest := [.int v4]) (M' := (mJ13_bitCount_95d88, [])) (lv2 := [(0, .long (τ2.l 35 l1.toNatClampNeg))]) (pc' := 18) (X := K) (by decide +kernel) (ab_cs rfl rfl ⟨(Nat.le_of_ble_eq_true rfl), (Nat.le_of_ble_eq_true rfl)⟩ rfl) rfl (Nat.le_of_ble_eq_true rfl) rfl rfl (hY_no fun E => rfl) w (fun v8 τ6 F7 w => ?_)
  refine ab_fin.s1 (i := .iadd) (k := 1) (pc' := 19) (st' := [.int (v4 + v8)]) (by decide +kernel) rfl rfl ?_
  exact ab_fin.q_ret (i := .ireturn) (k := 1) (v := some (.int (v4 + v8))) (by decide +kernel) rfl F7 w
theorem T_X11_listFor_0 {Z : zT} {d : Nat} {σ : Sg} {l1 : Int32} {l2 : Nat} {l3 : Nat} {K : kS} (F : FX ΦC σ.sh σ.r) (w : ib l1 24 ∧ (ib l1 24 ∧ (C_X11_listFor_19 Z (d + 1) σ l1 l2 l3 (σ.l 34 l1.toNatClampNeg) (σ.l 35 l1.toNatClampNeg) 0 K))) : C_X11_listFor_0 Z (d + 1) σ l1 l2 l3 K := by
  unfold C_X11_listFor_0
  refine ab_fin.s2 (i := .aload_n 0) (k := 1) (pc' := 1) (lv' := [(0, .ref 1), (1, .int l1), (2, .ref l2), (3, .ref l3)]) (st' := [.ref 1]) (by decide +kernel) rfl rfl ?_
  refine ab_fin.q_rA (b := 34) (ix := 52) (ci := 12) (k := 9) (pc' := 4) (by decide +kernel) rfl (c_rA (F.s t0_1) rfl (rC_12_9 F t0_1)) rfl ?_
  refine ab_fin.s2 (i := .iload_n 1) (k := 1) (pc' := 5) (lv' := [(0, .ref 1), (1, .int l1), (2, .ref l2), (3, .ref l3)]) (st' := [.int l1, .ref 34]) (by decide +kernel) rfl rfl ?_
  obtain ⟨e1, w⟩ := w
  refine ab_fin.q_eL (x := (σ.l 34 l1.toNatClampNeg)) (pc' := 6) (by decide +kernel) (c_eL' (F.s t0_34) e1 rfl) rfl ?_
  refine ab_fin.s2 (i := .lstore 4) (k := 2) (pc' := 8) (lv' := [(4, .long (σ.l 34 l1.toNatClampNeg)), (0, .ref 1), (1, .int l1), (2, .ref l2), (3, .ref l3)]) (st' := []) (by decide +kernel) rfl rfl ?_
  refine ab_fin.s2 (i := .aload_n 0) (k := 1) (pc' := 9) (lv' := [(4, .long (σ.l 34 l1.toNatClampNeg)), (0, .ref 1), (1, .int l1), (2, .ref l2), (3, .ref l3)]) (st' := [.ref 1]) (by decide +kernel) rfl rfl ?_
  refine ab_fin.q_rA (b := 35) (ix := 55) (ci := 12) (k := 10) (pc' := 12) (by decide +kernel) rfl (c_rA (F.s t0_1) rfl (rC_12_10 F t0_1)) rfl ?_
  refine ab_fin.s2 (i := .iload_n 1) (k := 1) (pc' := 13) (lv' := [(4, .long (σ.l 34 l1.toNatClampNeg)), (0, .ref 1), (1, .int l1), (2, .ref l2), (3, .ref l3)]) (st' := [.int l1, .ref 35]) (by decide +kernel) rfl rfl ?_
  obtain ⟨e2, w⟩ := w
  refine ab_fin.q_eL (x := (σ.l 35 l1.toNatClampNeg)) (pc' := 14) (by decide +kernel) (c_eL' (F.s t0_35) e2 rfl) rfl ?_
  refine ab_fin.s2 (i := .lstore 6) (k := 2) (pc' := 16) (lv' := [(6, .long (σ.l 35 l1.toNatClampNeg)), (4, .long (σ.l 34 l1.toNatClampNeg)), (0, .ref 1), (1, .int l1), (2, .ref l2), (3, .ref l3)]) (st' := []) (by decide +kernel) rfl rfl ?_
  refine ab_fin.s1i (i := .iconst 0) (k := 1) (pc' := 17) (n := 0) (by decide +kernel) rfl (by decide +kernel) rfl ?_
  refine ab_fin.s2 (i := .istore 8) (k := 2) (pc' := 19) (lv' := [(8, .int 0), (6, .long (σ.l 35 l1.toNatClampNeg)), (4, .long (σ.l 34 l1.toNatClampNeg)), (0, .ref 1), (1, .int l1), (2, .ref l2), (3, .ref l3)]) (st' := []) (by decide +kernel) rfl rfl ?_
  exact ab_fin.lv ⟨(List.forall_mem_cons.mpr ⟨(List.Mem.tail _ (List.Mem.tail _ (List.Mem.tail _ (List.Mem.head _)))), (List.forall_mem_cons.mpr ⟨(List.Mem.tail _ (List.Mem.tail _ (List.Mem.tail _ (List.Mem.tail _ (List.Mem.head _))))), (List.forall_mem_cons.mpr ⟨(List.Mem.tail _ (List.Mem.tail _ (List.Mem.tail _ (List.Mem.tail _ (List.Mem.tail _ (List.Mem.head _)))))), (List.forall_mem_cons.mpr ⟨(List.Mem.tail _ (List.Mem.tail _ (List.Mem.tail _ (List.Mem.tail _ (List.Mem.tail _ (List.Mem.tail _ (List.Mem.head _))))))), (List.forall_mem_cons.mpr ⟨(List.Mem.tail _ (List.Mem.tail _ (List.Mem.head _))), (List.forall_mem_cons.mpr ⟨(List.Mem.tail _ (List.Mem.head _)), (List.forall_mem_cons.mpr ⟨(List.Mem.head _), (fun _ h => absurd h List.not_mem_nil)⟩)⟩)⟩)⟩)⟩)⟩)⟩), (show ([8, 6, 4, 0, 1, 2, 3] : List Nat).Nodup from by decide)⟩ w
theorem T_X11_listFor_19 {Z : zT} {d : Nat} {σ : Sg} {l1 : Int32} {l2 : Nat} {l3 : Nat} {l4 : Int64} {l6 : Int64} {l8 : Int32} {K : kS} (F : FX ΦC σ.sh σ.r) (w : ib l1 24 ∧ (((σ.i 31 l1.toNatClampNeg) ≤ l8 → C_X11_listFor_82 Z (d + 1) σ l3 l4 l6 0 0 K) ∧ (¬ (σ.i 31 l1.toNatClampNeg) ≤ l8 → ∃ n3, σ.sh[l2]? = some (Sh.arr 0 n3) ∧ (ib l8 n3 ∧ (ib ((l8 * (24 : Int32)) + (σ.i l2 l8.toNatClampNeg)) 72 ∧ (ib l8 n3 ∧ (ib ((l8 * (24 : Int32)) + (σ.i l2 l8.toNatClampNeg)) 72 ∧ (C_X11_listFor_19 Z (d + 1) σ l1 l2 l3 (l4 &&& (σ.l 36 (((l8 * (24 : Int32)) + (σ.i l2 l8.toNatClampNeg)).toNatClampNeg))) (l6 &&& (σ.l 37 (((l8 * (24 : Int32)) + (σ.i l2 l8.toNatClampNeg)).toNatClampNeg))) (l8 + 1) K)))))))) : C_X11_listFor_19 Z (d + 1) σ l1 l2 l3 l4 l6 l8 K := by
  unfold C_X11_listFor_19
  refine ab_fin.s2 (i := .iload 8) (k := 2) (pc' := 21) (lv' := [(0, .ref 1), (1, .int l1), (2, .ref l2), (3, .ref l3), (4, .long l4), (6, .long l6), (8, .int l8)]) (st' := [.int l8]) (by decide +kernel) rfl rfl ?_
  refine ab_fin.s2 (i := .aload_n 0) (k := 1) (pc' := 22) (lv' := [(0, .ref 1), (1, .int l1), (2, .ref l2), (3, .ref l3), (4, .long l4), (6, .long l6), (8, .int l8)]) (st' := [.ref 1, .int l8]) (by decide +kernel) rfl rfl ?_
  refine ab_fin.q_rA (b := 31) (ix := 43) (ci := 12) (k := 6) (pc' := 25) (by decide +kernel) rfl (c_rA (F.s t0_1) rfl (rC_12_6 F t0_1)) rfl ?_
  refine ab_fin.s2 (i := .iload_n 1) (k := 1) (pc' := 26) (lv' := [(0, .ref 1), (1, .int l1), (2, .ref l2), (3, .ref l3), (4, .long l4), (6, .long l6), (8, .int l8)]) (st' := [.int l1, .ref 31, .int l8]) (by decide +kernel) rfl rfl ?_
  obtain ⟨e1, w⟩ := w
  refine ab_fin.q_eI (x := (σ.i 31 l1.toNatClampNeg)) (pc' := 27) (by decide +kernel) (c_eI' (F.s t0_31) e1 rfl) rfl ?_
  refine ab_fin.br (c := (σ.i 31 l1.toNatClampNeg) ≤ l8) (i := .if_icmp .ge 49) (off := 49) (t := 76) (pc' := 30) (r := []) (by decide +kernel) rfl (by decide +kernel) rfl (fun q => ?_) (fun q => ?_)
  · replace w := w.1 q
    refine ab_fin.s1i (i := .iconst 0) (k := 1) (pc' := 77) (n := 0) (by decide +kernel) rfl (by decide +kernel) rfl ?_
    refine ab_fin.s2 (i := .istore 8) (k := 2) (pc' := 79) (lv' := [(8, .int 0), (0, .ref 1), (1, .int l1), (2, .ref l2), (3, .ref l3), (4, .long l4), (6, .long l6)]) (st' := []) (by decide +kernel) rfl rfl ?_
    refine ab_fin.s1i (i := .iconst 0) (k := 1) (pc' := 80) (n := 0) (by decide +kernel) rfl (by decide +kernel) rfl ?_
    refine ab_fin.s2 (i := .istore 9) (k := 2) (pc' := 82) (lv' := [(9, .int 0), (8, .int 0), (0, .ref 1), (1, .int l1), (2, .ref l2), (3, .ref l3), (4, .long l4), (6, .long l6)]) (st' := []) (by decide +kernel) rfl rfl ?_
    exact ab_fin.lv ⟨(List.forall_mem_cons.mpr ⟨(List.Mem.tail _ (List.Mem.tail _ (List.Mem.tail _ (List.Mem.tail _ (List.Mem.tail _ (List.Mem.head _)))))), (List.forall_mem_cons.mpr ⟨(List.Mem.tail _ (List.Mem.tail _ (List.Mem.tail _ (List.Mem.tail _ (List.Mem.tail _ (List.Mem.tail _ (List.Mem.head _))))))), (List.forall_mem_cons.mpr ⟨(List.Mem.tail _ (List.Mem.tail _ (List.Mem.tail _ (List.Mem.tail _ (List.Mem.tail _ (List.Mem.tail _ (List.Mem.tail _ (List.Mem.head _)))))))), (List.forall_mem_cons.mpr ⟨(List.Mem.tail _ (List.Mem.head _)), (List.forall_mem_cons.mpr ⟨(List.Mem.head _), (fun _ h => absurd h List.not_mem_nil)⟩)⟩)⟩)⟩)⟩), (show ([9, 8, 0, 1, 2, 3, 4, 6] : List Nat).Nodup from by decide)⟩ w
  · replace w := w.2 q
    refine ab_fin.s2 (i := .lload 4) (k := 2) (pc' := 32) (lv' := [(0, .ref 1), (1, .int l1), (2, .ref l2), (3, .ref l3), (4, .long l4), (6, .long l6), (8, .int l8)]) (st' := [.long l4]) (by decide +kernel) rfl rfl ?_
    refine ab_fin.s2 (i := .aload_n 0) (k := 1) (pc' := 33) (lv' := [(0, .ref 1), (1, .int l1), (2, .ref l2), (3, .ref l3), (4, .long l4), (6, .long l6), (8, .int l8)]) (st' := [.ref 1, .long l4]) (by decide +kernel) rfl rfl ?_
    refine ab_fin.q_rA (b := 36) (ix := 58) (ci := 12) (k := 11) (pc' := 36) (by decide +kernel) rfl (c_rA (F.s t0_1) rfl (rC_12_11 F t0_1)) rfl ?_
    refine ab_fin.s2 (i := .iload 8) (k := 2) (pc' := 38) (lv' := [(0, .ref 1), (1, .int l1), (2, .ref l2), (3, .ref l3), (4, .long l4), (6, .long l6), (8, .int l8)]) (st' := [.int l8, .ref 36, .long l4]) (by decide +kernel) rfl rfl ?_
    refine ab_fin.s1i (i := .bipush 24) (k := 2) (pc' := 40) (n := 24) (by decide +kernel) rfl (by decide +kernel) rfl ?_
    refine ab_fin.s1 (i := .imul) (k := 1) (pc' := 41) (st' := [.int (l8 * (24 : Int32)), .ref 36, .long l4]) (by decide +kernel) rfl rfl ?_
    refine ab_fin.s2 (i := .aload_n 2) (k := 1) (pc' := 42) (lv' := [(0, .ref 1), (1, .int l1), (2, .ref l2), (3, .ref l3), (4, .long l4), (6, .long l6), (8, .int l8)]) (st' := [.ref l2, .int (l8 * (24 : Int32)), .ref 36, .long l4]) (by decide +kernel) rfl rfl ?_
    refine ab_fin.s2 (i := .iload 8) (k := 2) (pc' := 44) (lv' := [(0, .ref 1), (1, .int l1), (2, .ref l2), (3, .ref l3), (4, .long l4), (6, .long l6), (8, .int l8)]) (st' := [.int l8, .ref l2, .int (l8 * (24 : Int32)), .ref 36, .long l4]) (by decide +kernel) rfl rfl ?_
    obtain ⟨n3, e2, w⟩ := w
    obtain ⟨e4, w⟩ := w
    refine ab_fin.q_eI (x := (σ.i l2 l8.toNatClampNeg)) (pc' := 45) (by decide +kernel) (c_eI' e2 e4 rfl) rfl ?_
    refine ab_fin.s1 (i := .iadd) (k := 1) (pc' := 46) (st' := [.int ((l8 * (24 : Int32)) + (σ.i l2 l8.toNatClampNeg)), .ref 36, .long l4]) (by decide +kernel) rfl rfl ?_
    obtain ⟨e5, w⟩ := w
    refine ab_fin.q_eL (x := (σ.l 36 (((l8 * (24 : Int32)) + (σ.i l2 l8.toNatClampNeg)).toNatClampNeg))) (pc' := 47) (by decide +kernel) (c_eL' (F.s t0_36) e5 rfl) rfl ?_
    refine ab_fin.s1 (i := .land) (k := 1) (pc' := 48) (st' := [.long (l4 &&& (σ.l 36 (((l8 * (24 : Int32)) + (σ.i l2 l8.toNatClampNeg)).toNatClampNeg)))]) (by decide +kernel) rfl rfl ?_
    refine ab_fin.s2 (i := .lstore 4) (k := 2) (pc' := 50) (lv' := [(4, .long (l4 &&& (σ.l 36 (((l8 * (24 : Int32)) + (σ.i l2 l8.toNatClampNeg)).toNatClampNeg)))), (0, .ref 1), (1, .int l1), (2, .ref l2), (3, .ref l3), (6, .long l6), (8, .int l8)]) (st' := []) (by decide +kernel) rfl rfl ?_
    refine ab_fin.s2 (i := .lload 6) (k := 2) (pc' := 52) (lv' := [(4, .long (l4 &&& (σ.l 36 (((l8 * (24 : Int32)) + (σ.i l2 l8.toNatClampNeg)).toNatClampNeg)))), (0, .ref 1), (1, .int l1), (2, .ref l2), (3, .ref l3), (6, .long l6), (8, .int l8)]) (st' := [.long l6]) (by decide +kernel) rfl rfl ?_
    refine ab_fin.s2 (i := .aload_n 0) (k := 1) (pc' := 53) (lv' := [(4, .long (l4 &&& (σ.l 36 (((l8 * (24 : Int32)) + (σ.i l2 l8.toNatClampNeg)).toNatClampNeg)))), (0, .ref 1), (1, .int l1), (2, .ref l2), (3, .ref l3), (6, .long l6), (8, .int l8)]) (st' := [.ref 1, .long l6]) (by decide +kernel) rfl rfl ?_
    refine ab_fin.q_rA (b := 37) (ix := 61) (ci := 12) (k := 12) (pc' := 56) (by decide +kernel) rfl (c_rA (F.s t0_1) rfl (rC_12_12 F t0_1)) rfl ?_
    refine ab_fin.s2 (i := .iload 8) (k := 2) (pc' := 58) (lv' := [(4, .long (l4 &&& (σ.l 36 (((l8 * (24 : Int32)) + (σ.i l2 l8.toNatClampNeg)).toNatClampNeg)))), (0, .ref 1), (1, .int l1), (2, .ref l2), (3, .ref l3), (6, .long l6), (8, .int l8)]) (st' := [.int l8, .ref 37, .long l6]) (by decide +kernel) rfl rfl ?_
    refine ab_fin.s1i (i := .bipush 24) (k := 2) (pc' := 60) (n := 24) (by decide +kernel) rfl (by decide +kernel) rfl ?_
    refine ab_fin.s1 (i := .imul) (k := 1) (pc' := 61) (st' := [.int (l8 * (24 : Int32)), .ref 37, .long l6]) (by decide +kernel) rfl rfl ?_
    refine ab_fin.s2 (i := .aload_n 2) (k := 1) (pc' := 62) (lv' := [(4, .long (l4 &&& (σ.l 36 (((l8 * (24 : Int32)) + (σ.i l2 l8.toNatClampNeg)).toNatClampNeg)))), (0, .ref 1), (1, .int l1), (2, .ref l2), (3, .ref l3), (6, .long l6), (8, .int l8)]) (st' := [.ref l2, .int (l8 * (24 : Int32)), .ref 37, .long l6]) (by decide +kernel) rfl rfl ?_
    refine ab_fin.s2 (i := .iload 8) (k := 2) (pc' := 64) (lv' := [(4, .long (l4 &&& (σ.l 36 (((l8 * (24 : Int32)) + (σ.i l2 l8.toNatClampNeg)).toNatClampNeg)))), (0, .ref 1), (1, .int l1), (2, .ref l2), (3, .ref l3), (6, .long l6), (8, .int l8)]) (st' := [.int l8, .ref l2, .int (l8 * (24 : Int32)), .ref 37, .long l6]) (by decide +kernel) rfl rfl ?_
    obtain ⟨e6, w⟩ := w
    refine ab_fin.q_eI (x := (σ.i l2 l8.toNatClampNeg)) (pc' := 65) (by decide +kernel) (c_eI' e2 e6 rfl) rfl ?_
    refine ab_fin.s1 (i := .iadd) (k := 1) (pc' := 66) (st' := [.int ((l8 * (24 : Int32)) + (σ.i l2 l8.toNatClampNeg)), .ref 37, .long l6]) (by decide +kernel) rfl rfl ?_
    obtain ⟨e7, w⟩ := w
    refine ab_fin.q_eL (x := (σ.l 37 (((l8 * (24 : Int32)) + (σ.i l2 l8.toNatClampNeg)).toNatClampNeg))) (pc' := 67) (by decide +kernel) (c_eL' (F.s t0_37) e7 rfl) rfl ?_
    refine ab_fin.s1 (i := .land) (k := 1) (pc' := 68) (st' := [.long (l6 &&& (σ.l 37 (((l8 * (24 : Int32)) + (σ.i l2 l8.toNatClampNeg)).toNatClampNeg)))]) (by decide +kernel) rfl rfl ?_
    refine ab_fin.s2 (i := .lstore 6) (k := 2) (pc' := 70) (lv' := [(6, .long (l6 &&& (σ.l 37 (((l8 * (24 : Int32)) + (σ.i l2 l8.toNatClampNeg)).toNatClampNeg)))), (4, .long (l4 &&& (σ.l 36 (((l8 * (24 : Int32)) + (σ.i l2 l8.toNatClampNeg)).toNatClampNeg)))), (0, .ref 1), (1, .int l1), (2, .ref l2), (3, .ref l3), (8, .int l8)]) (st' := []) (by decide +kernel) rfl rfl ?_
    refine ab_fin.q_inc (n := 8) (c := 1) (pc' := 73) (lv' := [(8, .int (l8 + 1)), (6, .long (l6 &&& (σ.l 37 (((l8 * (24 : Int32)) + (σ.i l2 l8.toNatClampNeg)).toNatClampNeg)))), (4, .long (l4 &&& (σ.l 36 (((l8 * (24 : Int32)) + (σ.i l2 l8.toNatClampNeg)).toNatClampNeg)))), (0, .ref 1), (1, .int l1), (2, .ref l2), (3, .ref l3)]) (by decide +kernel) (by decide) rfl rfl rfl rfl ?_
    refine ab_fin.s3 (i := .goto (-54)) (k := 3) (t := 19) (st' := []) (by decide +kernel) (ab_gto (by decide +kernel)) ?_
    exact ab_fin.lv ⟨(List.forall_mem_cons.mpr ⟨(List.Mem.tail _ (List.Mem.tail _ (List.Mem.tail _ (List.Mem.head _)))), (List.forall_mem_cons.mpr ⟨(List.Mem.tail _ (List.Mem.tail _ (List.Mem.tail _ (List.Mem.tail _ (List.Mem.head _))))), (List.forall_mem_cons.mpr ⟨(List.Mem.tail _ (List.Mem.tail _ (List.Mem.tail _ (List.Mem.tail _ (List.Mem.tail _ (List.Mem.head _)))))), (List.forall_mem_cons.mpr ⟨(List.Mem.tail _ (List.Mem.tail _ (List.Mem.tail _ (List.Mem.tail _ (List.Mem.tail _ (List.Mem.tail _ (List.Mem.head _))))))), (List.forall_mem_cons.mpr ⟨(List.Mem.tail _ (List.Mem.tail _ (List.Mem.head _))), (List.forall_mem_cons.mpr ⟨(List.Mem.tail _ (List.Mem.head _)), (List.forall_mem_cons.mpr ⟨(List.Mem.head _), (fun _ h => absurd h List.not_mem_nil)⟩)⟩)⟩)⟩)⟩)⟩)⟩), (show ([8, 6, 4, 0, 1, 2, 3] : List Nat).Nodup from by decide)⟩ w
theorem T_X11_listFor_82 {Z : zT} {d : Nat} {σ : Sg} {l3 : Nat} {l4 : Int64} {l6 : Int64} {l8 : Int32} {l9 : Int32} {K : kS} (F : FX ΦC σ.sh σ.r) (w : (2 ≤ l9 → K (.inl (some (.int l8))) σ) ∧ (¬ 2 ≤ l9 → (¬ l9 = 0 → C_X11_listFor_105 Z (d + 1) σ l3 l4 l6 l8 l9 l6 0 K) ∧ (l9 = 0 → C_X11_listFor_105 Z (d + 1) σ l3 l4 l6 l8 l9 l4 0 K))) : C_X11_listFor_82 Z (d + 1) σ l3 l4 l6 l8 l9 K := by
  unfold C_X11_listFor_82
  refine ab_fin.s2 (i := .iload 9) (k := 2) (pc' := 84) (lv' := [(3, .ref l3), (4, .long l4), (6, .long l6), (8, .int l8), (9, .int l9)]) (st' := [.int l9]) (by decide +kernel) rfl rfl ?_
  refine ab_fin.s1i (i := .iconst 2) (k := 1) (pc' := 85) (n := 2) (by decide +kernel) rfl (by decide +kernel) rfl ?_
  refine ab_fin.br (c := 2 ≤ l9) (i := .if_icmp .ge 82) (off := 82) (t := 167) (pc' := 88) (r := []) (by decide +kernel) rfl (by decide +kernel) rfl (fun q => ?_) (fun q => ?_)
  · replace w := w.1 q
    refine ab_fin.s2 (i := .iload 8) (k := 2) (pc' := 169) (lv' := [(3, .ref l3), (4, .long l4), (6, .long l6), (8, .int l8), (9, .int l9)]) (st' := [.int l8]) (by decide +kernel) rfl rfl ?_
    exact ab_fin.q_ret (i := .ireturn) (k := 1) (v := some (.int l8)) (by decide +kernel) rfl F w
  · replace w := w.2 q
    refine ab_fin.s2 (i := .iload 9) (k := 2) (pc' := 90) (lv' := [(3, .ref l3), (4, .long l4), (6, .long l6), (8, .int l8), (9, .int l9)]) (st' := [.int l9]) (by decide +kernel) rfl rfl ?_
    refine ab_fin.br (c := ¬ l9 = 0) (i := .ifCond .ne 8) (off := 8) (t := 98) (pc' := 93) (r := []) (by decide +kernel) rfl (by decide +kernel) rfl (fun q => ?_) (fun q => ?_)
    · replace w := w.1 q
      refine ab_fin.s2 (i := .lload 6) (k := 2) (pc' := 100) (lv' := [(3, .ref l3), (4, .long l4), (6, .long l6), (8, .int l8), (9, .int l9)]) (st' := [.long l6]) (by decide +kernel) rfl rfl ?_
      refine ab_fin.s2 (i := .lstore 10) (k := 2) (pc' := 102) (lv' := [(10, .long l6), (3, .ref l3), (4, .long l4), (6, .long l6), (8, .int l8), (9, .int l9)]) (st' := []) (by decide +kernel) rfl rfl ?_
      refine ab_fin.s1i (i := .iconst 0) (k := 1) (pc' := 103) (n := 0) (by decide +kernel) rfl (by decide +kernel) rfl ?_
      refine ab_fin.s2 (i := .istore 12) (k := 2) (pc' := 105) (lv' := [(12, .int 0), (10, .long l6), (3, .ref l3), (4, .long l4), (6, .long l6), (8, .int l8), (9, .int l9)]) (st' := []) (by decide +kernel) rfl rfl ?_
      exact ab_fin.lv ⟨(List.forall_mem_cons.mpr ⟨(List.Mem.tail _ (List.Mem.tail _ (List.Mem.head _))), (List.forall_mem_cons.mpr ⟨(List.Mem.tail _ (List.Mem.tail _ (List.Mem.tail _ (List.Mem.head _)))), (List.forall_mem_cons.mpr ⟨(List.Mem.tail _ (List.Mem.tail _ (List.Mem.tail _ (List.Mem.tail _ (List.Mem.head _))))), (List.forall_mem_cons.mpr ⟨(List.Mem.tail _ (List.Mem.tail _ (List.Mem.tail _ (List.Mem.tail _ (List.Mem.tail _ (List.Mem.head _)))))), (List.forall_mem_cons.mpr ⟨(List.Mem.tail _ (List.Mem.tail _ (List.Mem.tail _ (List.Mem.tail _ (List.Mem.tail _ (List.Mem.tail _ (List.Mem.head _))))))), (List.forall_mem_cons.mpr ⟨(List.Mem.tail _ (List.Mem.head _)), (List.forall_mem_cons.mpr ⟨(List.Mem.head _), (fun _ h => absurd h List.not_mem_nil)⟩)⟩)⟩)⟩)⟩)⟩)⟩), (show ([12, 10, 3, 4, 6, 8, 9] : List Nat).Nodup from by decide)⟩ w
    · replace w := w.2 (Decidable.of_not_not q)
      refine ab_fin.s2 (i := .lload 4) (k := 2) (pc' := 95) (lv' := [(3, .ref l3), (4, .long l4), (6, .long l6), (8, .int l8), (9, .int l9)]) (st' := [.long l4]) (by decide +kernel) rfl rfl ?_
      refine ab_fin.s3 (i := .goto 5) (k := 3) (t := 100) (st' := [.long l4]) (by decide +kernel) (ab_gto (by decide +kernel)) ?_
      refine ab_fin.s2 (i := .lstore 10) (k := 2) (pc' := 102) (lv' := [(10, .long l4), (3, .ref l3), (4, .long l4), (6, .long l6), (8, .int l8), (9, .int l9)]) (st' := []) (by decide +kernel) rfl rfl ?_
      refine ab_fin.s1i (i := .iconst 0) (k := 1) (pc' := 103) (n := 0) (by decide +kernel) rfl (by decide +kernel) rfl ?_
      refine ab_fin.s2 (i := .istore 12) (k := 2) (pc' := 105) (lv' := [(12, .int 0), (10, .long l4), (3, .ref l3), (4, .long l4), (6, .long l6), (8, .int l8), (9, .int l9)]) (st' := []) (by decide +kernel) rfl rfl ?_
      exact ab_fin.lv ⟨(List.forall_mem_cons.mpr ⟨(List.Mem.tail _ (List.Mem.tail _ (List.Mem.head _))), (List.forall_mem_cons.mpr ⟨(List.Mem.tail _ (List.Mem.tail _ (List.Mem.tail _ (List.Mem.head _)))), (List.forall_mem_cons.mpr ⟨(List.Mem.tail _ (List.Mem.tail _ (List.Mem.tail _ (List.Mem.tail _ (List.Mem.head _))))), (List.forall_mem_cons.mpr ⟨(List.Mem.tail _ (List.Mem.tail _ (List.Mem.tail _ (List.Mem.tail _ (List.Mem.tail _ (List.Mem.head _)))))), (List.forall_mem_cons.mpr ⟨(List.Mem.tail _ (List.Mem.tail _ (List.Mem.tail _ (List.Mem.tail _ (List.Mem.tail _ (List.Mem.tail _ (List.Mem.head _))))))), (List.forall_mem_cons.mpr ⟨(List.Mem.tail _ (List.Mem.head _)), (List.forall_mem_cons.mpr ⟨(List.Mem.head _), (fun _ h => absurd h List.not_mem_nil)⟩)⟩)⟩)⟩)⟩)⟩)⟩), (show ([12, 10, 3, 4, 6, 8, 9] : List Nat).Nodup from by decide)⟩ w
theorem T_X11_listFor_105 {Z : zT} {d : Nat} {σ : Sg} {l3 : Nat} {l4 : Int64} {l6 : Int64} {l8 : Int32} {l9 : Int32} {l10 : Int64} {l12 : Int32} {K : kS} (F : FX ΦC σ.sh σ.r) (w : (64 ≤ l12 → C_X11_listFor_82 Z (d + 1) σ l3 l4 l6 l8 (l9 + 1) K) ∧ (¬ 64 ≤ l12 → ((lg_cmp l10 (0 : Int64)) = 0 → C_X11_listFor_82 Z (d + 1) σ l3 l4 l6 l8 (l9 + 1) K) ∧ (¬ (lg_cmp l10 (0 : Int64)) = 0 → ∃ n2, σ.sh[l3]? = some (Sh.arr 0 n2) ∧ (((Int32.ofNat n2) ≤ l8 → C_X11_listFor_82 Z (d + 1) σ l3 l4 l6 l8 (l9 + 1) K) ∧ (¬ (Int32.ofNat n2) ≤ l8 → C_J13_numberOfTrailingZeros_95d88_0 Z d σ l10 (yI K fun v5 τ3 => ∃ n7, τ3.sh[l3]? = some (Sh.arr 0 n7) ∧ (ib l8 n7 ∧ (C_X11_listFor_105 Z (d + 1) (τ3.wi l3 l8.toNatClampNeg ((((64 : Int32) * l9) + (1 : Int32)) + v5)) l3 l4 l6 (l8 + 1) l9 (l10 &&& (l10 - (1 : Int64))) (l12 + 1) K)))))))) : C_X11_listFor_105 Z (d + 1) σ l3 l4 l6 l8 l9 l10 l12 K := by
  unfold C_X11_listFor_105
  refine ab_fin.s2 (i := .iload 12) (k := 2) (pc' := 107) (lv' := [(3, .ref l3), (4, .long l4), (6, .long l6), (8, .int l8), (9, .int l9), (10, .long l10), (12, .int l12)]) (st' := [.int l12]) (by decide +kernel) rfl rfl ?_
  refine ab_fin.s1i (i := .bipush 64) (k := 2) (pc' := 109) (n := 64) (by decide +kernel) rfl (by decide +kernel) rfl ?_
  refine ab_fin.br (c := 64 ≤ l12) (i := .if_icmp .ge 52) (off := 52) (t := 161) (pc' := 112) (r := []) (by decide +kernel) rfl (by decide +kernel) rfl (fun q => ?_) (fun q => ?_)
  · replace w := w.1 q
    refine ab_fin.q_inc (n := 9) (c := 1) (pc' := 164) (lv' := [(9, .int (l9 + 1)), (3, .ref l3), (4, .long l4), (6, .long l6), (8, .int l8), (10, .long l10), (12, .int l12)]) (by decide +kernel) (by decide) rfl rfl rfl rfl ?_
    refine ab_fin.s3 (i := .goto (-82)) (k := 3) (t := 82) (st' := []) (by decide +kernel) (ab_gto (by decide +kernel)) ?_
    exact ab_fin.lv ⟨(List.forall_mem_cons.mpr ⟨(List.Mem.tail _ (List.Mem.head _)), (List.forall_mem_cons.mpr ⟨(List.Mem.tail _ (List.Mem.tail _ (List.Mem.head _))), (List.forall_mem_cons.mpr ⟨(List.Mem.tail _ (List.Mem.tail _ (List.Mem.tail _ (List.Mem.head _)))), (List.forall_mem_cons.mpr ⟨(List.Mem.tail _ (List.Mem.tail _ (List.Mem.tail _ (List.Mem.tail _ (List.Mem.head _))))), (List.forall_mem_cons.mpr ⟨(List.Mem.head _), (fun _ h => absurd h List.not_mem_nil)⟩)⟩)⟩)⟩)⟩), (show ([9, 3, 4, 6, 8, 10, 12] : List Nat).Nodup from by decide)⟩ w
  · replace w := w.2 q
    refine ab_fin.s2 (i := .lload 10) (k := 2) (pc' := 114) (lv' := [(3, .ref l3), (4, .long l4), (6, .long l6), (8, .int l8), (9, .int l9), (10, .long l10), (12, .int l12)]) (st' := [.long l10]) (by decide +kernel) rfl rfl ?_
    refine ab_fin.s1l (i := .lconst 0) (k := 1) (pc' := 115) (n := 0) (by decide +kernel) rfl (by decide +kernel) rfl ?_
    refine ab_fin.s1 (i := .lcmp) (k := 1) (pc' := 116) (st' := [.int (lg_cmp l10 (0 : Int64))]) (by decide +kernel) rfl rfl ?_
    refine ab_fin.br (c := (lg_cmp l10 (0 : Int64)) = 0) (i := .ifCond .eq 45) (off := 45) (t := 161) (pc' := 119) (r := []) (by decide +kernel) rfl (by decide +kernel) rfl (fun q => ?_) (fun q => ?_)
    · replace w := w.1 q
      refine ab_fin.q_inc (n := 9) (c := 1) (pc' := 164) (lv' := [(9, .int (l9 + 1)), (3, .ref l3), (4, .long l4), (6, .long l6), (8, .int l8), (10, .long l10), (12, .int l12)]) (by decide +kernel) (by decide) rfl rfl rfl rfl ?_
      refine ab_fin.s3 (i := .goto (-82)) (k := 3) (t := 82) (st' := []) (by decide +kernel) (ab_gto (by decide +kernel)) ?_
      exact ab_fin.lv ⟨(List.forall_mem_cons.mpr ⟨(List.Mem.tail _ (List.Mem.head _)), (List.forall_mem_cons.mpr ⟨(List.Mem.tail _ (List.Mem.tail _ (List.Mem.head _))), (List.forall_mem_cons.mpr ⟨(List.Mem.tail _ (List.Mem.tail _ (List.Mem.tail _ (List.Mem.head _)))), (List.forall_mem_cons.mpr ⟨(List.Mem.tail _ (List.Mem.tail _ (List.Mem.tail _ (List.Mem.tail _ (List.Mem.head _))))), (List.forall_mem_cons.mpr ⟨(List.Mem.head _), (fun _ h => absurd h List.not_mem_nil)⟩)⟩)⟩)⟩)⟩), (show ([9, 3, 4, 6, 8, 10, 12] : List Nat).Nodup from by decide)⟩ w
    · replace w := w.2 q
      refine ab_fin.s2 (i := .iload 8) (k := 2) (pc' := 121) (lv' := [(3, .ref l3), (4, .long l4), (6, .long l6), (8, .int l8), (9, .int l9), (10, .long l10), (12, .int l12)]) (st' := [.int l8]) (by decide +kernel) rfl rfl ?_
      refine ab_fin.s2 (i := .aload_n 3) (k := 1) (pc' := 122) (lv' := [(3, .ref l3), (4, .long l4), (6, .long l6), (8, .int l8), (9, .int l9), (10, .long l10), (12, .int l12)]) (st' := [.ref l3, .int l8]) (by decide +kernel) rfl rfl ?_
      obtain ⟨n2, e1, w⟩ := w
      refine ab_fin.q_eN (n := (Int32.ofNat n2)) (pc' := 123) (by decide +kernel) (c_eN' e1 (Or.inl (by decide)) rfl) rfl ?_
      refine ab_fin.br (c := (Int32.ofNat n2) ≤ l8) (i := .if_icmp .ge 38) (off := 38) (t := 161) (pc' := 126) (r := []) (by decide +kernel) rfl (by decide +kernel) rfl (fun q => ?_) (fun q => ?_)
      · replace w := w.1 q
        refine ab_fin.q_inc (n := 9) (c := 1) (pc' := 164) (lv' := [(9, .int (l9 + 1)), (3, .ref l3), (4, .long l4), (6, .long l6), (8, .int l8), (10, .long l10), (12, .int l12)]) (by decide +kernel) (by decide) rfl rfl rfl rfl ?_
        refine ab_fin.s3 (i := .goto (-82)) (k := 3) (t := 82) (st' := []) (by decide +kernel) (ab_gto (by decide +kernel)) ?_
        exact ab_fin.lv ⟨(List.forall_mem_cons.mpr ⟨(List.Mem.tail _ (List.Mem.head _)), (List.forall_mem_cons.mpr ⟨(List.Mem.tail _ (List.Mem.tail _ (List.Mem.head _))), (List.forall_mem_cons.mpr ⟨(List.Mem.tail _ (List.Mem.tail _ (List.Mem.tail _ (List.Mem.head _)))), (List.forall_mem_cons.mpr ⟨(List.Mem.tail _ (List.Mem.tail _ (List.Mem.tail _ (List.Mem.tail _ (List.Mem.head _))))), (List.forall_mem_cons.mpr ⟨(List.Mem.head _), (fun _ h => absurd h List.not_mem_nil)⟩)⟩)⟩)⟩)⟩), (show ([9, 3, 4, 6, 8, 10, 12] : List Nat).Nodup from by decide)⟩ w
      · replace w := w.2 q
        refine ab_fin.s2 (i := .aload_n 3) (k := 1) (pc' := 127) (lv' := [(3, .ref l3), (4, .long l4), (6, .long l6), (8, .int l8), (9, .int l9), (10, .long l10), (12, .int l12)]) (st' := [.ref l3]) (by decide +kernel) rfl rfl ?_
        refine ab_fin.s2 (i := .iload 8) (k := 2) (pc' := 129) (lv' := [(3, .ref l3), (4, .long l4), (6, .long l6), (8, .int l8), (9, .int l9), (10, .long l10), (12, .int l12)]) (st' := [.int l8, .ref l3]) (by decide +kernel) rfl rfl ?_
        refine ab_fin.s1i (i := .bipush 64) (k := 2) (pc' := 131) (n := 64) (by decide +kernel) rfl (by decide +kernel) rfl ?_
        refine ab_fin.s2 (i := .iload 9) (k := 2) (pc' := 133) (lv' := [(3, .ref l3), (4, .long l4), (6, .long l6), (8, .int l8), (9, .int l9), (10, .long l10), (12, .int l12)]) (st' := [.int l9, .int 64, .int l8, .ref l3]) (by decide +kernel) rfl rfl ?_
        refine ab_fin.s1 (i := .imul) (k := 1) (pc' := 134) (st' := [.int ((64 : Int32) * l9), .int l8, .ref l3]) (by decide +kernel) rfl rfl ?_
        refine ab_fin.s1i (i := .iconst 1) (k := 1) (pc' := 135) (n := 1) (by decide +kernel) rfl (by decide +kernel) rfl ?_
        refine ab_fin.s1 (i := .iadd) (k := 1) (pc' := 136) (st' := [.int (((64 : Int32) * l9) + (1 : Int32)), .int l8, .ref l3]) (by decide +kernel) rfl rfl ?_
        refine ab_fin.s2 (i := .lload 10) (k := 2) (pc' := 138) (lv' := [(3, .ref l3), (4, .long l4), (6, .long l6), (8, .int l8), (9, .int l9), (10, .long l10), (12, .int l12)]) (st' := [.long l10, .int (((64 : Int32) * l9) + (1 : Int32)), .int l8, .ref l3]) (by decide +kernel) rfl rfl ?_
        refine ab_fin.q_yI (i := .invokestatic 162) (k := 3) (y := 8960) (As := [.long l10]) (rest := [.int (((64 : Int32) * l9) + (1 : Int32)), .int l8, .ref l3]) (M' := (mJ13_numberOfTrailingZeros_95d88, [])) (lv2 := [(0, .long l10)]) (pc' := 141) (X := K) (by decide +kernel) (ab_cs rfl rfl ⟨(Nat.le_of_ble_eq_true rfl), (Nat.le_of_ble_eq_true rfl)⟩ rfl) rfl (Nat.le_of_ble_eq_true rfl) rfl rfl (hY_no fun E => rfl) w (fun v5 τ3 F4 w => ?_)
        refine ab_fin.s1 (i := .iadd) (k := 1) (pc' := 142) (st' := [.int ((((64 : Int32) * l9) + (1 : Int32)) + v5), .int l8, .ref l3]) (by decide +kernel) rfl rfl ?_
        obtain ⟨n7, e6, w⟩ := w
        obtain ⟨e8, w⟩ := w
        refine ab_fin.q_sI (h1 := conc (τ3.wi l3 l8.toNatClampNeg ((((64 : Int32) * l9) + (1 : Int32)) + v5))) (pc' := 143) (by decide +kernel) (c_sI' e6 e8 rfl) rfl ?_
        refine ab_fin.q_inc (n := 8) (c := 1) (pc' := 146) (lv' := [(8, .int (l8 + 1)), (3, .ref l3), (4, .long l4), (6, .long l6), (9, .int l9), (10, .long l10), (12, .int l12)]) (by decide +kernel) (by decide) rfl rfl rfl rfl ?_
        refine ab_fin.s2 (i := .lload 10) (k := 2) (pc' := 148) (lv' := [(8, .int (l8 + 1)), (3, .ref l3), (4, .long l4), (6, .long l6), (9, .int l9), (10, .long l10), (12, .int l12)]) (st' := [.long l10]) (by decide +kernel) rfl rfl ?_
        refine ab_fin.s2 (i := .lload 10) (k := 2) (pc' := 150) (lv' := [(8, .int (l8 + 1)), (3, .ref l3), (4, .long l4), (6, .long l6), (9, .int l9), (10, .long l10), (12, .int l12)]) (st' := [.long l10, .long l10]) (by decide +kernel) rfl rfl ?_
        refine ab_fin.s1l (i := .lconst 1) (k := 1) (pc' := 151) (n := 1) (by decide +kernel) rfl (by decide +kernel) rfl ?_
        refine ab_fin.s1 (i := .lsub) (k := 1) (pc' := 152) (st' := [.long (l10 - (1 : Int64)), .long l10]) (by decide +kernel) rfl rfl ?_
        refine ab_fin.s1 (i := .land) (k := 1) (pc' := 153) (st' := [.long (l10 &&& (l10 - (1 : Int64)))]) (by decide +kernel) rfl rfl ?_
        refine ab_fin.s2 (i := .lstore 10) (k := 2) (pc' := 155) (lv' := [(10, .long (l10 &&& (l10 - (1 : Int64)))), (8, .int (l8 + 1)), (3, .ref l3), (4, .long l4), (6, .long l6), (9, .int l9), (12, .int l12)]) (st' := []) (by decide +kernel) rfl rfl ?_
        refine ab_fin.q_inc (n := 12) (c := 1) (pc' := 158) (lv' := [(12, .int (l12 + 1)), (10, .long (l10 &&& (l10 - (1 : Int64)))), (8, .int (l8 + 1)), (3, .ref l3), (4, .long l4), (6, .long l6), (9, .int l9)]) (by decide +kernel) (by decide) rfl rfl rfl rfl ?_
        refine ab_fin.s3 (i := .goto (-53)) (k := 3) (t := 105) (st' := []) (by decide +kernel) (ab_gto (by decide +kernel)) ?_
        exact ab_fin.lv ⟨(List.forall_mem_cons.mpr ⟨(List.Mem.tail _ (List.Mem.tail _ (List.Mem.tail _ (List.Mem.head _)))), (List.forall_mem_cons.mpr ⟨(List.Mem.tail _ (List.Mem.tail _ (List.Mem.tail _ (List.Mem.tail _ (List.Mem.head _))))), (List.forall_mem_cons.mpr ⟨(List.Mem.tail _ (List.Mem.tail _ (List.Mem.tail _ (List.Mem.tail _ (List.Mem.tail _ (List.Mem.head _)))))), (List.forall_mem_cons.mpr ⟨(List.Mem.tail _ (List.Mem.tail _ (List.Mem.head _))), (List.forall_mem_cons.mpr ⟨(List.Mem.tail _ (List.Mem.tail _ (List.Mem.tail _ (List.Mem.tail _ (List.Mem.tail _ (List.Mem.tail _ (List.Mem.head _))))))), (List.forall_mem_cons.mpr ⟨(List.Mem.tail _ (List.Mem.head _)), (List.forall_mem_cons.mpr ⟨(List.Mem.head _), (fun _ h => absurd h List.not_mem_nil)⟩)⟩)⟩)⟩)⟩)⟩)⟩), (show ([12, 10, 8, 3, 4, 6, 9] : List Nat).Nodup from by decide)⟩ w
theorem T_X11_fits_0 {Z : zT} {d : Nat} {σ : Sg} {l1 : Int32} {l2 : Nat} {K : kS} (F : FX ΦC σ.sh σ.r) (w : ib l1 122 ∧ (C_X11_fits_13 Z (d + 1) σ l1 l2 (σ.i 11 l1.toNatClampNeg) 0 K)) : C_X11_fits_0 Z (d + 1) σ l1 l2 K := by
  unfold C_X11_fits_0
  refine ab_fin.s2 (i := .aload_n 0) (k := 1) (pc' := 1) (lv' := [(0, .ref 1), (1, .int l1), (2, .ref l2)]) (st' := [.ref 1]) (by decide +kernel) rfl rfl ?_
  refine ab_fin.q_rA (b := 10) (ix := 21) (ci := 12) (k := 1) (pc' := 4) (by decide +kernel) rfl (c_rA (F.s t0_1) rfl (rC_12_1 F t0_1)) rfl ?_
  refine ab_fin.q_rA (b := 11) (ix := 146) (ci := 6) (k := 1) (pc' := 7) (by decide +kernel) rfl (c_rA (F.s t0_10) rfl (rC_6_1 F t0_10)) rfl ?_
  refine ab_fin.s2 (i := .iload_n 1) (k := 1) (pc' := 8) (lv' := [(0, .ref 1), (1, .int l1), (2, .ref l2)]) (st' := [.int l1, .ref 11]) (by decide +kernel) rfl rfl ?_
  obtain ⟨e1, w⟩ := w
  refine ab_fin.q_eI (x := (σ.i 11 l1.toNatClampNeg)) (pc' := 9) (by decide +kernel) (c_eI' (F.s t0_11) e1 rfl) rfl ?_
  refine ab_fin.s2 (i := .istore_n 3) (k := 1) (pc' := 10) (lv' := [(3, .int (σ.i 11 l1.toNatClampNeg)), (0, .ref 1), (1, .int l1), (2, .ref l2)]) (st' := []) (by decide +kernel) rfl rfl ?_
  refine ab_fin.s1i (i := .iconst 0) (k := 1) (pc' := 11) (n := 0) (by decide +kernel) rfl (by decide +kernel) rfl ?_
  refine ab_fin.s2 (i := .istore 4) (k := 2) (pc' := 13) (lv' := [(4, .int 0), (3, .int (σ.i 11 l1.toNatClampNeg)), (0, .ref 1), (1, .int l1), (2, .ref l2)]) (st' := []) (by decide +kernel) rfl rfl ?_
  exact ab_fin.lv ⟨(List.forall_mem_cons.mpr ⟨(List.Mem.tail _ (List.Mem.tail _ (List.Mem.head _))), (List.forall_mem_cons.mpr ⟨(List.Mem.tail _ (List.Mem.tail _ (List.Mem.tail _ (List.Mem.head _)))), (List.forall_mem_cons.mpr ⟨(List.Mem.tail _ (List.Mem.tail _ (List.Mem.tail _ (List.Mem.tail _ (List.Mem.head _))))), (List.forall_mem_cons.mpr ⟨(List.Mem.tail _ (List.Mem.head _)), (List.forall_mem_cons.mpr ⟨(List.Mem.head _), (fun _ h => absurd h List.not_mem_nil)⟩)⟩)⟩)⟩)⟩), (show ([4, 3, 0, 1, 2] : List Nat).Nodup from by decide)⟩ w
theorem T_X11_fits_13 {Z : zT} {d : Nat} {σ : Sg} {l1 : Int32} {l2 : Nat} {l3 : Int32} {l4 : Int32} {K : kS} (F : FX ΦC σ.sh σ.r) (w : ib l3 24 ∧ (((σ.i 31 l3.toNatClampNeg) ≤ l4 → K (.inl (some (.int 1))) σ) ∧ (¬ (σ.i 31 l3.toNatClampNeg) ≤ l4 → ∃ n3, σ.sh[l2]? = some (Sh.arr 0 n3) ∧ (ib l4 n3 ∧ (ib ((l1 * (3 : Int32)) + l4) 366 ∧ (C_X2_isBelow_0 Z d σ (σ.i l2 l4.toNatClampNeg) (σ.i 15 (((l1 * (3 : Int32)) + l4).toNatClampNeg)) (yI K fun v8 τ6 => (¬ v8 = 0 → C_X11_fits_13 Z (d + 1) τ6 l1 l2 l3 (l4 + 1) K) ∧ (v8 = 0 → K (.inl (some (.int 0))) τ6)))))))) : C_X11_fits_13 Z (d + 1) σ l1 l2 l3 l4 K := by
  unfold C_X11_fits_13
  refine ab_fin.s2 (i := .iload 4) (k := 2) (pc' := 15) (lv' := [(0, .ref 1), (1, .int l1), (2, .ref l2), (3, .int l3), (4, .int l4)]) (st' := [.int l4]) (by decide +kernel) rfl rfl ?_
  refine ab_fin.s2 (i := .aload_n 0) (k := 1) (pc' := 16) (lv' := [(0, .ref 1), (1, .int l1), (2, .ref l2), (3, .int l3), (4, .int l4)]) (st' := [.ref 1, .int l4]) (by decide +kernel) rfl rfl ?_
  refine ab_fin.q_rA (b := 31) (ix := 43) (ci := 12) (k := 6) (pc' := 19) (by decide +kernel) rfl (c_rA (F.s t0_1) rfl (rC_12_6 F t0_1)) rfl ?_
  refine ab_fin.s2 (i := .iload_n 3) (k := 1) (pc' := 20) (lv' := [(0, .ref 1), (1, .int l1), (2, .ref l2), (3, .int l3), (4, .int l4)]) (st' := [.int l3, .ref 31, .int l4]) (by decide +kernel) rfl rfl ?_
  obtain ⟨e1, w⟩ := w
  refine ab_fin.q_eI (x := (σ.i 31 l3.toNatClampNeg)) (pc' := 21) (by decide +kernel) (c_eI' (F.s t0_31) e1 rfl) rfl ?_
  refine ab_fin.br (c := (σ.i 31 l3.toNatClampNeg) ≤ l4) (i := .if_icmp .ge 39) (off := 39) (t := 60) (pc' := 24) (r := []) (by decide +kernel) rfl (by decide +kernel) rfl (fun q => ?_) (fun q => ?_)
  · replace w := w.1 q
    refine ab_fin.s1i (i := .iconst 1) (k := 1) (pc' := 61) (n := 1) (by decide +kernel) rfl (by decide +kernel) rfl ?_
    exact ab_fin.q_ret (i := .ireturn) (k := 1) (v := some (.int 1)) (by decide +kernel) rfl F w
  · replace w := w.2 q
    refine ab_fin.s2 (i := .aload_n 0) (k := 1) (pc' := 25) (lv' := [(0, .ref 1), (1, .int l1), (2, .ref l2), (3, .int l3), (4, .int l4)]) (st' := [.ref 1]) (by decide +kernel) rfl rfl ?_
    refine ab_fin.q_rA (b := 2) (ix := 12) (ci := 12) (k := 0) (pc' := 28) (by decide +kernel) rfl (c_rA (F.s t0_1) rfl (rC_12_0 F t0_1)) rfl ?_
    refine ab_fin.s2 (i := .aload_n 2) (k := 1) (pc' := 29) (lv' := [(0, .ref 1), (1, .int l1), (2, .ref l2), (3, .int l3), (4, .int l4)]) (st' := [.ref l2, .ref 2]) (by decide +kernel) rfl rfl ?_
    refine ab_fin.s2 (i := .iload 4) (k := 2) (pc' := 31) (lv' := [(0, .ref 1), (1, .int l1), (2, .ref l2), (3, .int l3), (4, .int l4)]) (st' := [.int l4, .ref l2, .ref 2]) (by decide +kernel) rfl rfl ?_
    obtain ⟨n3, e2, w⟩ := w
    obtain ⟨e4, w⟩ := w
    refine ab_fin.q_eI (x := (σ.i l2 l4.toNatClampNeg)) (pc' := 32) (by decide +kernel) (c_eI' e2 e4 rfl) rfl ?_
    refine ab_fin.s2 (i := .aload_n 0) (k := 1) (pc' := 33) (lv' := [(0, .ref 1), (1, .int l1), (2, .ref l2), (3, .int l3), (4, .int l4)]) (st' := [.ref 1, .int (σ.i l2 l4.toNatClampNeg), .ref 2]) (by decide +kernel) rfl rfl ?_
    refine ab_fin.q_rA (b := 10) (ix := 21) (ci := 12) (k := 1) (pc' := 36) (by decide +kernel) rfl (c_rA (F.s t0_1) rfl (rC_12_1 F t0_1)) rfl ?_
    refine ab_fin.q_rA (b := 15) (ix := 149) (ci := 6) (k := 5) (pc' := 39) (by decide +kernel) rfl (c_rA (F.s t0_10) rfl (rC_6_5 F t0_10)) rfl ?_
    refine ab_fin.s2 (i := .iload_n 1) (k := 1) (pc' := 40) (lv' := [(0, .ref 1), (1, .int l1), (2, .ref l2), (3, .int l3), (4, .int l4)]) (st' := [.int l1, .ref 15, .int (σ.i l2 l4.toNatClampNeg), .ref 2]) (by decide +kernel) rfl rfl ?_
    refine ab_fin.s1i (i := .iconst 3) (k := 1) (pc' := 41) (n := 3) (by decide +kernel) rfl (by decide +kernel) rfl ?_
    refine ab_fin.s1 (i := .imul) (k := 1) (pc' := 42) (st' := [.int (l1 * (3 : Int32)), .ref 15, .int (σ.i l2 l4.toNatClampNeg), .ref 2]) (by decide +kernel) rfl rfl ?_
    refine ab_fin.s2 (i := .iload 4) (k := 2) (pc' := 44) (lv' := [(0, .ref 1), (1, .int l1), (2, .ref l2), (3, .int l3), (4, .int l4)]) (st' := [.int l4, .int (l1 * (3 : Int32)), .ref 15, .int (σ.i l2 l4.toNatClampNeg), .ref 2]) (by decide +kernel) rfl rfl ?_
    refine ab_fin.s1 (i := .iadd) (k := 1) (pc' := 45) (st' := [.int ((l1 * (3 : Int32)) + l4), .ref 15, .int (σ.i l2 l4.toNatClampNeg), .ref 2]) (by decide +kernel) rfl rfl ?_
    obtain ⟨e5, w⟩ := w
    refine ab_fin.q_eI (x := (σ.i 15 (((l1 * (3 : Int32)) + l4).toNatClampNeg))) (pc' := 46) (by decide +kernel) (c_eI' (F.s t0_15) e5 rfl) rfl ?_
    refine ab_fin.q_yI (i := .invokevirtual 152) (k := 3) (y := 513) (As := [.ref 2, .int (σ.i l2 l4.toNatClampNeg), .int (σ.i 15 (((l1 * (3 : Int32)) + l4).toNatClampNeg))]) (rest := []) (M' := (mX2_isBelow, [])) (lv2 := [(0, .ref 2), (1, .int (σ.i l2 l4.toNatClampNeg)), (2, .int (σ.i 15 (((l1 * (3 : Int32)) + l4).toNatClampNeg)))]) (pc' := 49) (X := K) (by decide +kernel) (ab_cv rfl rfl (conc_get (σ := σ) (F.s t0_2)) ⟨(Nat.le_of_ble_eq_true rfl), (Nat.le_of_ble_eq_true rfl)⟩ rfl) rfl (Nat.le_of_ble_eq_true rfl) rfl rfl (hY_no fun E => rfl) w (fun v8 τ6 F7 w => ?_)
    refine ab_fin.br (c := ¬ v8 = 0) (i := .ifCond .ne 5) (off := 5) (t := 54) (pc' := 52) (r := []) (by decide +kernel) rfl (by decide +kernel) rfl (fun q => ?_) (fun q => ?_)
    · replace w := w.1 q
      refine ab_fin.q_inc (n := 4) (c := 1) (pc' := 57) (lv' := [(4, .int (l4 + 1)), (0, .ref 1), (1, .int l1), (2, .ref l2), (3, .int l3)]) (by decide +kernel) (by decide) rfl rfl rfl rfl ?_
      refine ab_fin.s3 (i := .goto (-44)) (k := 3) (t := 13) (st' := []) (by decide +kernel) (ab_gto (by decide +kernel)) ?_
      exact ab_fin.lv ⟨(List.forall_mem_cons.mpr ⟨(List.Mem.tail _ (List.Mem.head _)), (List.forall_mem_cons.mpr ⟨(List.Mem.tail _ (List.Mem.tail _ (List.Mem.head _))), (List.forall_mem_cons.mpr ⟨(List.Mem.tail _ (List.Mem.tail _ (List.Mem.tail _ (List.Mem.head _)))), (List.forall_mem_cons.mpr ⟨(List.Mem.tail _ (List.Mem.tail _ (List.Mem.tail _ (List.Mem.tail _ (List.Mem.head _))))), (List.forall_mem_cons.mpr ⟨(List.Mem.head _), (fun _ h => absurd h List.not_mem_nil)⟩)⟩)⟩)⟩)⟩), (show ([4, 0, 1, 2, 3] : List Nat).Nodup from by decide)⟩ w
    · replace w := w.2 (Decidable.of_not_not q)
      refine ab_fin.s1i (i := .iconst 0) (k := 1) (pc' := 53) (n := 0) (by decide +kernel) rfl (by decide +kernel) rfl ?_
      exact ab_fin.q_ret (i := .ireturn) (k := 1) (v := some (.int 0)) (by decide +kernel) rfl F7 w
theorem T_X12_feed_0 {Z : zT} {d : Nat} {σ : Sg} {l1 : Int32} {l2 : Int32} {l3 : Int32} {l4 : Int32} {l5 : Int32} {K : kS} (F : FX ΦC σ.sh σ.r) (d8 : 8 ≤ d) (w : (((σ.i 0 9) + (20 : Int32)) ≤ 8192 → ∃ b1, (σ.r 0 8) = Rf.ptr b1 ∧ (∃ n4, σ.sh[b1]? = some (Sh.arr 2 n4) ∧ ((((σ.i 0 9) + (20 : Int32)) ≤ (Int32.ofNat n4) → C_X12_feed_60 Z (d + 1) σ l1 l2 l3 l4 l5 K) ∧ (¬ ((σ.i 0 9) + (20 : Int32)) ≤ (Int32.ofNat n4) → ∃ b5, (σ.r 0 8) = Rf.ptr b5 ∧ (∃ b7, (σ.r 0 8) = Rf.ptr b7 ∧ (∃ n10, σ.sh[b7]? = some (Sh.arr 2 n10) ∧ (C_J7_copyOf_9075b_0 Z d σ b5 (if ((2 : Int32) * (Int32.ofNat n10)) < (8192 : Int32) then ((2 : Int32) * (Int32.ofNat n10)) else (8192 : Int32)) (yR K fun v13 τ11 => C_X12_feed_60 Z (d + 1) (τ11.wr 0 8 (Rf.ptr v13)) l1 l2 l3 l4 l5 K)))))))) ∧ (¬ ((σ.i 0 9) + (20 : Int32)) ≤ 8192 → K (.inr ("java/lang/IndexOutOfBoundsException", σ.sh.length)) (σ.al (Sh.jnk 6)))) : C_X12_feed_0 Z (d + 1) σ l1 l2 l3 l4 l5 K := by
  unfold C_X12_feed_0
  refine ab_fin.s2 (i := .aload_n 0) (k := 1) (pc' := 1) (lv' := [(0, .ref 0), (1, .int l1), (2, .int l2), (3, .int l3), (4, .int l4), (5, .int l5)]) (st' := [.ref 0]) (by decide +kernel) rfl rfl ?_
  refine ab_fin.q_rI (x := (σ.i 0 9)) (ix := 77) (ci := 13) (k := 9) (pc' := 4) (by decide +kernel) rfl (c_rI (F.s t0_0) rfl) rfl ?_
  refine ab_fin.s1i (i := .bipush 20) (k := 2) (pc' := 6) (n := 20) (by decide +kernel) rfl (by decide +kernel) rfl ?_
  refine ab_fin.s1 (i := .iadd) (k := 1) (pc' := 7) (st' := [.int ((σ.i 0 9) + (20 : Int32))]) (by decide +kernel) rfl rfl ?_
  refine ab_fin.s1i (i := .sipush 8192) (k := 3) (pc' := 10) (n := 8192) (by decide +kernel) rfl (by decide +kernel) rfl ?_
  refine ab_fin.br (c := ((σ.i 0 9) + (20 : Int32)) ≤ 8192) (i := .if_icmp .le 11) (off := 11) (t := 21) (pc' := 13) (r := []) (by decide +kernel) rfl (by decide +kernel) rfl (fun q => ?_) (fun q => ?_)
  · replace w := w.1 q
    refine ab_fin.s2 (i := .aload_n 0) (k := 1) (pc' := 22) (lv' := [(0, .ref 0), (1, .int l1), (2, .int l2), (3, .int l3), (4, .int l4), (5, .int l5)]) (st' := [.ref 0]) (by decide +kernel) rfl rfl ?_
    refine ab_fin.q_rI (x := (σ.i 0 9)) (ix := 77) (ci := 13) (k := 9) (pc' := 25) (by decide +kernel) rfl (c_rI (F.s t0_0) rfl) rfl ?_
    refine ab_fin.s1i (i := .bipush 20) (k := 2) (pc' := 27) (n := 20) (by decide +kernel) rfl (by decide +kernel) rfl ?_
    refine ab_fin.s1 (i := .iadd) (k := 1) (pc' := 28) (st' := [.int ((σ.i 0 9) + (20 : Int32))]) (by decide +kernel) rfl rfl ?_
    refine ab_fin.s2 (i := .aload_n 0) (k := 1) (pc' := 29) (lv' := [(0, .ref 0), (1, .int l1), (2, .int l2), (3, .int l3), (4, .int l4), (5, .int l5)]) (st' := [.ref 0, .int ((σ.i 0 9) + (20 : Int32))]) (by decide +kernel) rfl rfl ?_
    obtain ⟨b1, e2, w⟩ := w
    refine ab_fin.q_rA (b := b1) (ix := 69) (ci := 13) (k := 8) (pc' := 32) (by decide +kernel) rfl (c_rA (F.s t0_0) rfl e2) rfl ?_
    obtain ⟨n4, e3, w⟩ := w
    refine ab_fin.q_eN (n := (Int32.ofNat n4)) (pc' := 33) (by decide +kernel) (c_eN' e3 (Or.inl (by decide)) rfl) rfl ?_
    refine ab_fin.br (c := ((σ.i 0 9) + (20 : Int32)) ≤ (Int32.ofNat n4)) (i := .if_icmp .le 27) (off := 27) (t := 60) (pc' := 36) (r := []) (by decide +kernel) rfl (by decide +kernel) rfl (fun q => ?_) (fun q => ?_)
    · replace w := w.1 q
      exact ab_fin.lv ⟨(List.forall_mem_cons.mpr ⟨(List.Mem.head _), (List.forall_mem_cons.mpr ⟨(List.Mem.tail _ (List.Mem.head _)), (List.forall_mem_cons.mpr ⟨(List.Mem.tail _ (List.Mem.tail _ (List.Mem.head _))), (List.forall_mem_cons.mpr ⟨(List.Mem.tail _ (List.Mem.tail _ (List.Mem.tail _ (List.Mem.head _)))), (List.forall_mem_cons.mpr ⟨(List.Mem.tail _ (List.Mem.tail _ (List.Mem.tail _ (List.Mem.tail _ (List.Mem.head _))))), (List.forall_mem_cons.mpr ⟨(List.Mem.tail _ (List.Mem.tail _ (List.Mem.tail _ (List.Mem.tail _ (List.Mem.tail _ (List.Mem.head _)))))), (fun _ h => absurd h List.not_mem_nil)⟩)⟩)⟩)⟩)⟩)⟩), (show ([0, 1, 2, 3, 4, 5] : List Nat).Nodup from by decide)⟩ w
    · replace w := w.2 q
      refine ab_fin.s2 (i := .aload_n 0) (k := 1) (pc' := 37) (lv' := [(0, .ref 0), (1, .int l1), (2, .int l2), (3, .int l3), (4, .int l4), (5, .int l5)]) (st' := [.ref 0]) (by decide +kernel) rfl rfl ?_
      refine ab_fin.s2 (i := .aload_n 0) (k := 1) (pc' := 38) (lv' := [(0, .ref 0), (1, .int l1), (2, .int l2), (3, .int l3), (4, .int l4), (5, .int l5)]) (st' := [.ref 0, .ref 0]) (by decide +kernel) rfl rfl ?_
      obtain ⟨b5, e6, w⟩ := w
      refine ab_fin.q_rA (b := b5) (ix := 69) (ci := 13) (k := 8) (pc' := 41) (by decide +kernel) rfl (c_rA (F.s t0_0) rfl e6) rfl ?_
      refine ab_fin.s1i (i := .sipush 8192) (k := 3) (pc' := 44) (n := 8192) (by decide +kernel) rfl (by decide +kernel) rfl ?_
      refine ab_fin.s1i (i := .iconst 2) (k := 1) (pc' := 45) (n := 2) (by decide +kernel) rfl (by decide +kernel) rfl ?_
      refine ab_fin.s2 (i := .aload_n 0) (k := 1) (pc' := 46) (lv' := [(0, .ref 0), (1, .int l1), (2, .int l2), (3, .int l3), (4, .int l4), (5, .int l5)]) (st' := [.ref 0, .int 2, .int 8192, .ref b5, .ref 0]) (by decide +kernel) rfl rfl ?_
      obtain ⟨b7, e8, w⟩ := w
      refine ab_fin.q_rA (b := b7) (ix := 69) (ci := 13) (k := 8) (pc' := 49) (by decide +kernel) rfl (c_rA (F.s t0_0) rfl e8) rfl ?_
      obtain ⟨n10, e9, w⟩ := w
      refine ab_fin.q_eN (n := (Int32.ofNat n10)) (pc' := 50) (by decide +kernel) (c_eN' e9 (Or.inl (by decide)) rfl) rfl ?_
      refine ab_fin.s1 (i := .imul) (k := 1) (pc' := 51) (st' := [.int ((2 : Int32) * (Int32.ofNat n10)), .int 8192, .ref b5, .ref 0]) (by decide +kernel) rfl rfl ?_
      refine ab_fin.cpy (i := .invokestatic 83) (k := 3) (pc' := 54) (h1 := conc σ) (st' := [.int (if ((2 : Int32) * (Int32.ofNat n10)) < (8192 : Int32) then ((2 : Int32) * (Int32.ofNat n10)) else (8192 : Int32)), .ref b5, .ref 0]) (by decide +kernel) rfl rfl ?_
      refine ab_fin.q_yR (i := .invokestatic 89) (k := 3) (y := 11268) (As := [.ref b5, .int (if ((2 : Int32) * (Int32.ofNat n10)) < (8192 : Int32) then ((2 : Int32) * (Int32.ofNat n10)) else (8192 : Int32))]) (rest := [.ref 0]) (M' := (mJ7_copyOf_9075b, [])) (lv2 := [(0, .ref b5), (1, .int (if ((2 : Int32) * (Int32.ofNat n10)) < (8192 : Int32) then ((2 : Int32) * (Int32.ofNat n10)) else (8192 : Int32)))]) (pc' := 57) (X := K) (by decide +kernel) (ab_cs rfl rfl ⟨(Nat.le_of_ble_eq_true rfl), (Nat.le_of_ble_eq_true rfl)⟩ rfl) rfl (Nat.le_of_ble_eq_true rfl) rfl rfl (hY_no fun E => rfl) w (fun v13 τ11 F12 w => ?_)
      have F14 := FX.w (Φ := ΦC) (a := 0) (k := 8) (v := (Rf.ptr v13)) F12 (dC_13_8 t0_0)
      refine ab_fin.q_pF (ix := 69) (ci := 13) (k := 8) (h1 := conc (τ11.wr 0 8 (Rf.ptr v13))) (pc' := 60) (by decide +kernel) rfl (c_pR (v := (Rf.ptr v13)) (F12.s t0_0) rfl) rfl rfl rfl ?_
      exact ab_fin.lv ⟨(List.forall_mem_cons.mpr ⟨(List.Mem.head _), (List.forall_mem_cons.mpr ⟨(List.Mem.tail _ (List.Mem.head _)), (List.forall_mem_cons.mpr ⟨(List.Mem.tail _ (List.Mem.tail _ (List.Mem.head _))), (List.forall_mem_cons.mpr ⟨(List.Mem.tail _ (List.Mem.tail _ (List.Mem.tail _ (List.Mem.head _)))), (List.forall_mem_cons.mpr ⟨(List.Mem.tail _ (List.Mem.tail _ (List.Mem.tail _ (List.Mem.tail _ (List.Mem.head _))))), (List.forall_mem_cons.mpr ⟨(List.Mem.tail _ (List.Mem.tail _ (List.Mem.tail _ (List.Mem.tail _ (List.Mem.tail _ (List.Mem.head _)))))), (fun _ h => absurd h List.not_mem_nil)⟩)⟩)⟩)⟩)⟩)⟩), (show ([0, 1, 2, 3, 4, 5] : List Nat).Nodup from by decide)⟩ w
  · replace w := w.2 q
    exact ab_fin.q_thr hΦC (i := .new 80) (k := 3) (cls := "java/lang/IndexOutOfBoundsException") (by decide +kernel) (by decide +kernel) (fun ix q => by cases q; rfl) d8 (Nat.le_of_ble_eq_true rfl) F w
theorem T_X12_feed_60 {Z : zT} {d : Nat} {σ : Sg} {l1 : Int32} {l2 : Int32} {l3 : Int32} {l4 : Int32} {l5 : Int32} {K : kS} (F : FX ΦC σ.sh σ.r) (w : C_X12_putOnTape_0 Z d σ l1 (yN K fun τ1 => C_X12_putOnTape_0 Z d τ1 l2 (yN K fun τ3 => C_X12_putOnTape_0 Z d τ3 l3 (yN K fun τ5 => C_X12_putOnTape_0 Z d τ5 l4 (yN K fun τ7 => C_X12_putOnTape_0 Z d τ7 l5 (yN K fun τ9 => K (.inl (some (.int (τ9.i 0 9)))) τ9)))))) : C_X12_feed_60 Z (d + 1) σ l1 l2 l3 l4 l5 K := by
  unfold C_X12_feed_60
  refine ab_fin.s2 (i := .aload_n 0) (k := 1) (pc' := 61) (lv' := [(0, .ref 0), (1, .int l1), (2, .int l2), (3, .int l3), (4, .int l4), (5, .int l5)]) (st' := [.ref 0]) (by decide +kernel) rfl rfl ?_
  refine ab_fin.s2 (i := .iload_n 1) (k := 1) (pc' := 62) (lv' := [(0, .ref 0), (1, .int l1), (2, .int l2), (3, .int l3), (4, .int l4), (5, .int l5)]) (st' := [.int l1, .ref 0]) (by decide +kernel) rfl rfl ?_
  refine ab_fin.q_yN (i := .invokevirtual 95) (k := 3) (y := 3074) (As := [.ref 0, .int l1]) (rest := []) (M' := (mX12_putOnTape, [])) (lv2 := [(0, .ref 0), (1, .int l1)]) (pc' := 65) (X := K) (by decide +kernel) (ab_cv rfl rfl (conc_get (σ := σ) (F.s t0_0)) ⟨(Nat.le_of_ble_eq_true rfl), (Nat.le_of_ble_eq_true rfl)⟩ rfl) rfl (Nat.le_of_ble_eq_true rfl) rfl rfl (hY_no fun E => rfl) w (fun τ1 F2 w => ?_)
  refine ab_fin.s2 (i := .aload_n 0) (k := 1) (pc' := 66) (lv' := [(0, .ref 0), (1, .int l1), (2, .int l2), (3, .int l3), (4, .int l4), (5, .int l5)]) (st' := [.ref 0]) (by decide +kernel) rfl rfl ?_
  refine ab_fin.s2 (i := .iload_n 2) (k := 1) (pc' := 67) (lv' := [(0, .ref 0), (1, .int l1), (2, .int l2), (3, .int l3), (4, .int l4), (5, .int l5)]) (st' := [.int l2, .ref 0]) (by decide +kernel) rfl rfl ?_
  refine ab_fin.q_yN (i := .invokevirtual 95) (k := 3) (y := 3074) (As := [.ref 0, .int l2]) (rest := []) (M' := (mX12_putOnTape, [])) (lv2 := [(0, .ref 0), (1, .int l2)]) (pc' := 70) (X := K) (by decide +kernel) (ab_cv rfl rfl (conc_get (σ := τ1) (F2.s t0_0)) ⟨(Nat.le_of_ble_eq_true rfl), (Nat.le_of_ble_eq_true rfl)⟩ rfl) rfl (Nat.le_of_ble_eq_true rfl) rfl rfl (hY_no fun E => rfl) w (fun τ3 F4 w => ?_)
  refine ab_fin.s2 (i := .aload_n 0) (k := 1) (pc' := 71) (lv' := [(0, .ref 0), (1, .int l1), (2, .int l2), (3, .int l3), (4, .int l4), (5, .int l5)]) (st' := [.ref 0]) (by decide +kernel) rfl rfl ?_
  refine ab_fin.s2 (i := .iload_n 3) (k := 1) (pc' := 72) (lv' := [(0, .ref 0), (1, .int l1), (2, .int l2), (3, .int l3), (4, .int l4), (5, .int l5)]) (st' := [.int l3, .ref 0]) (by decide +kernel) rfl rfl ?_
  refine ab_fin.q_yN (i := .invokevirtual 95) (k := 3) (y := 3074) (As := [.ref 0, .int l3]) (rest := []) (M' := (mX12_putOnTape, [])) (lv2 := [(0, .ref 0), (1, .int l3)]) (pc' := 75) (X := K) (by decide +kernel) (ab_cv rfl rfl (conc_get (σ := τ3) (F4.s t0_0)) ⟨(Nat.le_of_ble_eq_true rfl), (Nat.le_of_ble_eq_true rfl)⟩ rfl) rfl (Nat.le_of_ble_eq_true rfl) rfl rfl (hY_no fun E => rfl) w (fun τ5 F6 w => ?_)
  refine ab_fin.s2 (i := .aload_n 0) (k := 1) (pc' := 76) (lv' := [(0, .ref 0), (1, .int l1), (2, .int l2), (3, .int l3), (4, .int l4), (5, .int l5)]) (st' := [.ref 0]) (by decide +kernel) rfl rfl ?_
  refine ab_fin.s2 (i := .iload 4) (k := 2) (pc' := 78) (lv' := [(0, .ref 0), (1, .int l1), (2, .int l2), (3, .int l3), (4, .int l4), (5, .int l5)]) (st' := [.int l4, .ref 0]) (by decide +kernel) rfl rfl ?_
  refine ab_fin.q_yN (i := .invokevirtual 95) (k := 3) (y := 3074) (As := [.ref 0, .int l4]) (rest := []) (M' := (mX12_putOnTape, [])) (lv2 := [(0, .ref 0), (1, .int l4)]) (pc' := 81) (X := K) (by decide +kernel) (ab_cv rfl rfl (conc_get (σ := τ5) (F6.s t0_0)) ⟨(Nat.le_of_ble_eq_true rfl), (Nat.le_of_ble_eq_true rfl)⟩ rfl) rfl (Nat.le_of_ble_eq_true rfl) rfl rfl (hY_no fun E => rfl) w (fun τ7 F8 w => ?_)
  refine ab_fin.s2 (i := .aload_n 0) (k := 1) (pc' := 82) (lv' := [(0, .ref 0), (1, .int l1), (2, .int l2), (3, .int l3), (4, .int l4), (5, .int l5)]) (st' := [.ref 0]) (by decide +kernel) rfl rfl ?_
  refine ab_fin.s2 (i := .iload 5) (k := 2) (pc' := 84) (lv' := [(0, .ref 0), (1, .int l1), (2, .int l2), (3, .int l3), (4, .int l4), (5, .int l5)]) (st' := [.int l5, .ref 0]) (by decide +kernel) rfl rfl ?_
  refine ab_fin.q_yN (i := .invokevirtual 95) (k := 3) (y := 3074) (As := [.ref 0, .int l5]) (rest := []) (M' := (mX12_putOnTape, [])) (lv2 := [(0, .ref 0), (1, .int l5)]) (pc' := 87) (X := K) (by decide +kernel) (ab_cv rfl rfl (conc_get (σ := τ7) (F8.s t0_0)) ⟨(Nat.le_of_ble_eq_true rfl), (Nat.le_of_ble_eq_true rfl)⟩ rfl) rfl (Nat.le_of_ble_eq_true rfl) rfl rfl (hY_no fun E => rfl) w (fun τ9 F10 w => ?_)
  refine ab_fin.s2 (i := .aload_n 0) (k := 1) (pc' := 88) (lv' := [(0, .ref 0), (1, .int l1), (2, .int l2), (3, .int l3), (4, .int l4), (5, .int l5)]) (st' := [.ref 0]) (by decide +kernel) rfl rfl ?_
  refine ab_fin.q_rI (x := (τ9.i 0 9)) (ix := 77) (ci := 13) (k := 9) (pc' := 91) (by decide +kernel) rfl (c_rI (F10.s t0_0) rfl) rfl ?_
  exact ab_fin.q_ret (i := .ireturn) (k := 1) (v := some (.int (τ9.i 0 9))) (by decide +kernel) rfl F10 w
theorem T_X12_putOnTape_0 {Z : zT} {d : Nat} {σ : Sg} {l1 : Int32} {K : kS} (F : FX ΦC σ.sh σ.r) (w : C_X12_putOnTape_3 Z (d + 1) σ l1 24 K) : C_X12_putOnTape_0 Z (d + 1) σ l1 K := by
  unfold C_X12_putOnTape_0
  refine ab_fin.s1i (i := .bipush 24) (k := 2) (pc' := 2) (n := 24) (by decide +kernel) rfl (by decide +kernel) rfl ?_
  refine ab_fin.s2 (i := .istore_n 2) (k := 1) (pc' := 3) (lv' := [(2, .int 24), (0, .ref 0), (1, .int l1)]) (st' := []) (by decide +kernel) rfl rfl ?_
  exact ab_fin.lv ⟨(List.forall_mem_cons.mpr ⟨(List.Mem.tail _ (List.Mem.head _)), (List.forall_mem_cons.mpr ⟨(List.Mem.tail _ (List.Mem.tail _ (List.Mem.head _))), (List.forall_mem_cons.mpr ⟨(List.Mem.head _), (fun _ h => absurd h List.not_mem_nil)⟩)⟩)⟩), (show ([2, 0, 1] : List Nat).Nodup from by decide)⟩ w
theorem T_X12_putOnTape_3 {Z : zT} {d : Nat} {σ : Sg} {l1 : Int32} {l2 : Int32} {K : kS} (F : FX ΦC σ.sh σ.r) (w : (l2 < 0 → K (.inl none) σ) ∧ (¬ l2 < 0 → ∃ b1, (σ.r 0 8) = Rf.ptr b1 ∧ (∃ n4, σ.sh[b1]? = some (Sh.arr 2 n4) ∧ (((Int32.ofNat n4) ≤ (σ.i 0 9) → K (.inl none) σ) ∧ (¬ (Int32.ofNat n4) ≤ (σ.i 0 9) → ∃ b5, (σ.r 0 8) = Rf.ptr b5 ∧ (∃ n8, σ.sh[b5]? = some (Sh.arr 2 n8) ∧ (ib (σ.i 0 9) n8 ∧ (C_X12_putOnTape_3 Z (d + 1) ((σ.wi b5 ((σ.i 0 9).toNatClampNeg) (vp_nar .byte ((Int32.toInt8 ((Int32.toUInt32 l1 >>> (Int32.toUInt32 l2 &&& Int32.toUInt32 31)).toInt32)).toInt32))).wi 0 9 (((σ.wi b5 ((σ.i 0 9).toNatClampNeg) (vp_nar .byte ((Int32.toInt8 ((Int32.toUInt32 l1 >>> (Int32.toUInt32 l2 &&& Int32.toUInt32 31)).toInt32)).toInt32))).i 0 9) + (1 : Int32))) l1 (l2 + (-8)) K)))))))) : C_X12_putOnTape_3 Z (d + 1) σ l1 l2 K := by
  unfold C_X12_putOnTape_3
  refine ab_fin.s2 (i := .iload_n 2) (k := 1) (pc' := 4) (lv' := [(0, .ref 0), (1, .int l1), (2, .int l2)]) (st' := [.int l2]) (by decide +kernel) rfl rfl ?_
  refine ab_fin.br (c := l2 < 0) (i := .ifCond .lt 44) (off := 44) (t := 48) (pc' := 7) (r := []) (by decide +kernel) rfl (by decide +kernel) rfl (fun q => ?_) (fun q => ?_)
  · replace w := w.1 q
    exact ab_fin.q_ret (i := .return_) (k := 1) (v := none) (by decide +kernel) rfl F w
  · replace w := w.2 q
    refine ab_fin.s2 (i := .aload_n 0) (k := 1) (pc' := 8) (lv' := [(0, .ref 0), (1, .int l1), (2, .int l2)]) (st' := [.ref 0]) (by decide +kernel) rfl rfl ?_
    refine ab_fin.q_rI (x := (σ.i 0 9)) (ix := 77) (ci := 13) (k := 9) (pc' := 11) (by decide +kernel) rfl (c_rI (F.s t0_0) rfl) rfl ?_
    refine ab_fin.s2 (i := .aload_n 0) (k := 1) (pc' := 12) (lv' := [(0, .ref 0), (1, .int l1), (2, .int l2)]) (st' := [.ref 0, .int (σ.i 0 9)]) (by decide +kernel) rfl rfl ?_
    obtain ⟨b1, e2, w⟩ := w
    refine ab_fin.q_rA (b := b1) (ix := 69) (ci := 13) (k := 8) (pc' := 15) (by decide +kernel) rfl (c_rA (F.s t0_0) rfl e2) rfl ?_
    obtain ⟨n4, e3, w⟩ := w
    refine ab_fin.q_eN (n := (Int32.ofNat n4)) (pc' := 16) (by decide +kernel) (c_eN' e3 (Or.inl (by decide)) rfl) rfl ?_
    refine ab_fin.br (c := (Int32.ofNat n4) ≤ (σ.i 0 9)) (i := .if_icmp .ge 32) (off := 32) (t := 48) (pc' := 19) (r := []) (by decide +kernel) rfl (by decide +kernel) rfl (fun q => ?_) (fun q => ?_)
    · replace w := w.1 q
      exact ab_fin.q_ret (i := .return_) (k := 1) (v := none) (by decide +kernel) rfl F w
    · replace w := w.2 q
      refine ab_fin.s2 (i := .aload_n 0) (k := 1) (pc' := 20) (lv' := [(0, .ref 0), (1, .int l1), (2, .int l2)]) (st' := [.ref 0]) (by decide +kernel) rfl rfl ?_
      obtain ⟨b5, e6, w⟩ := w
      refine ab_fin.q_rA (b := b5) (ix := 69) (ci := 13) (k := 8) (pc' := 23) (by decide +kernel) rfl (c_rA (F.s t0_0) rfl e6) rfl ?_
      refine ab_fin.s2 (i := .aload_n 0) (k := 1) (pc' := 24) (lv' := [(0, .ref 0), (1, .int l1), (2, .int l2)]) (st' := [.ref 0, .ref b5]) (by decide +kernel) rfl rfl ?_
      refine ab_fin.q_rI (x := (σ.i 0 9)) (ix := 77) (ci := 13) (k := 9) (pc' := 27) (by decide +kernel) rfl (c_rI (F.s t0_0) rfl) rfl ?_
      refine ab_fin.s2 (i := .iload_n 1) (k := 1) (pc' := 28) (lv' := [(0, .ref 0), (1, .int l1), (2, .int l2)]) (st' := [.int l1, .int (σ.i 0 9), .ref b5]) (by decide +kernel) rfl rfl ?_
      refine ab_fin.s2 (i := .iload_n 2) (k := 1) (pc' := 29) (lv' := [(0, .ref 0), (1, .int l1), (2, .int l2)]) (st' := [.int l2, .int l1, .int (σ.i 0 9), .ref b5]) (by decide +kernel) rfl rfl ?_
      refine ab_fin.s1 (i := .iushr) (k := 1) (pc' := 30) (st' := [.int ((Int32.toUInt32 l1 >>> (Int32.toUInt32 l2 &&& Int32.toUInt32 31)).toInt32), .int (σ.i 0 9), .ref b5]) (by decide +kernel) rfl rfl ?_
      refine ab_fin.s1 (i := .i2b) (k := 1) (pc' := 31) (st' := [.int ((Int32.toInt8 ((Int32.toUInt32 l1 >>> (Int32.toUInt32 l2 &&& Int32.toUInt32 31)).toInt32)).toInt32), .int (σ.i 0 9), .ref b5]) (by decide +kernel) rfl rfl ?_
      obtain ⟨n8, e7, w⟩ := w
      obtain ⟨e9, w⟩ := w
      refine ab_fin.q_sB (h1 := conc (σ.wi b5 ((σ.i 0 9).toNatClampNeg) (vp_nar .byte ((Int32.toInt8 ((Int32.toUInt32 l1 >>> (Int32.toUInt32 l2 &&& Int32.toUInt32 31)).toInt32)).toInt32)))) (pc' := 32) (by decide +kernel) (c_sB2' e7 e9 rfl) rfl ?_
      refine ab_fin.s2 (i := .aload_n 0) (k := 1) (pc' := 33) (lv' := [(0, .ref 0), (1, .int l1), (2, .int l2)]) (st' := [.ref 0]) (by decide +kernel) rfl rfl ?_
      refine ab_fin.s1 (i := .dup) (k := 1) (pc' := 34) (st' := [.ref 0, .ref 0]) (by decide +kernel) rfl rfl ?_
      refine ab_fin.q_rI (x := ((σ.wi b5 ((σ.i 0 9).toNatClampNeg) (vp_nar .byte ((Int32.toInt8 ((Int32.toUInt32 l1 >>> (Int32.toUInt32 l2 &&& Int32.toUInt32 31)).toInt32)).toInt32))).i 0 9)) (ix := 77) (ci := 13) (k := 9) (pc' := 37) (by decide +kernel) rfl (c_rI (F.s t0_0) rfl) rfl ?_
      refine ab_fin.s1i (i := .iconst 1) (k := 1) (pc' := 38) (n := 1) (by decide +kernel) rfl (by decide +kernel) rfl ?_
      refine ab_fin.s1 (i := .iadd) (k := 1) (pc' := 39) (st' := [.int (((σ.wi b5 ((σ.i 0 9).toNatClampNeg) (vp_nar .byte ((Int32.toInt8 ((Int32.toUInt32 l1 >>> (Int32.toUInt32 l2 &&& Int32.toUInt32 31)).toInt32)).toInt32))).i 0 9) + (1 : Int32)), .ref 0]) (by decide +kernel) rfl rfl ?_
      refine ab_fin.q_pF (ix := 77) (ci := 13) (k := 9) (h1 := conc ((σ.wi b5 ((σ.i 0 9).toNatClampNeg) (vp_nar .byte ((Int32.toInt8 ((Int32.toUInt32 l1 >>> (Int32.toUInt32 l2 &&& Int32.toUInt32 31)).toInt32)).toInt32))).wi 0 9 (((σ.wi b5 ((σ.i 0 9).toNatClampNeg) (vp_nar .byte ((Int32.toInt8 ((Int32.toUInt32 l1 >>> (Int32.toUInt32 l2 &&& Int32.toUInt32 31)).toInt32)).toInt32))).i 0 9) + (1 : Int32)))) (pc' := 42) (by decide +kernel) rfl (c_pI (v := (((σ.wi b5 ((σ.i 0 9).toNatClampNeg) (vp_nar .byte ((Int32.toInt8 ((Int32.toUInt32 l1 >>> (Int32.toUInt32 l2 &&& Int32.toUInt32 31)).toInt32)).toInt32))).i 0 9) + (1 : Int32))) (F.s t0_0) rfl) rfl rfl rfl ?_
      refine ab_fin.q_inc (n := 2) (c := (-8)) (pc' := 45) (lv' := [(2, .int (l2 + (-8))), (0, .ref 0), (1, .int l1)]) (by decide +kernel) (by decide) rfl rfl rfl rfl ?_
      refine ab_fin.s3 (i := .goto (-42)) (k := 3) (t := 3) (st' := []) (by decide +kernel) (ab_gto (by decide +kernel)) ?_
      exact ab_fin.lv ⟨(List.forall_mem_cons.mpr ⟨(List.Mem.tail _ (List.Mem.head _)), (List.forall_mem_cons.mpr ⟨(List.Mem.tail _ (List.Mem.tail _ (List.Mem.head _))), (List.forall_mem_cons.mpr ⟨(List.Mem.head _), (fun _ h => absurd h List.not_mem_nil)⟩)⟩)⟩), (show ([2, 0, 1] : List Nat).Nodup from by decide)⟩ w
theorem T_X12_end_0 {Z : zT} {d : Nat} {σ : Sg} {l1 : Int32} {K : kS} (F : FX ΦC σ.sh σ.r) (d8 : 8 ≤ d) (w : (l1 < 0 → K (.inr ("java/lang/IllegalArgumentException", σ.sh.length)) (σ.al (Sh.jnk 6))) ∧ (¬ l1 < 0 → (l1 ≤ (σ.i 0 9) → K (.inl (some (.int l1))) (σ.wi 0 9 l1)) ∧ (¬ l1 ≤ (σ.i 0 9) → K (.inr ("java/lang/IllegalArgumentException", σ.sh.length)) (σ.al (Sh.jnk 6))))) : C_X12_end_0 Z (d + 1) σ l1 K := by
  unfold C_X12_end_0
  refine ab_fin.s2 (i := .iload_n 1) (k := 1) (pc' := 1) (lv' := [(0, .ref 0), (1, .int l1)]) (st' := [.int l1]) (by decide +kernel) rfl rfl ?_
  refine ab_fin.br (c := l1 < 0) (i := .ifCond .lt 11) (off := 11) (t := 12) (pc' := 4) (r := []) (by decide +kernel) rfl (by decide +kernel) rfl (fun q => ?_) (fun q => ?_)
  · replace w := w.1 q
    exact ab_fin.q_thr hΦC (i := .new 99) (k := 3) (cls := "java/lang/IllegalArgumentException") (by decide +kernel) (by decide +kernel) (fun ix q => by cases q; rfl) d8 (Nat.le_of_ble_eq_true rfl) F w
  · replace w := w.2 q
    refine ab_fin.s2 (i := .iload_n 1) (k := 1) (pc' := 5) (lv' := [(0, .ref 0), (1, .int l1)]) (st' := [.int l1]) (by decide +kernel) rfl rfl ?_
    refine ab_fin.s2 (i := .aload_n 0) (k := 1) (pc' := 6) (lv' := [(0, .ref 0), (1, .int l1)]) (st' := [.ref 0, .int l1]) (by decide +kernel) rfl rfl ?_
    refine ab_fin.q_rI (x := (σ.i 0 9)) (ix := 77) (ci := 13) (k := 9) (pc' := 9) (by decide +kernel) rfl (c_rI (F.s t0_0) rfl) rfl ?_
    refine ab_fin.br (c := l1 ≤ (σ.i 0 9)) (i := .if_icmp .le 11) (off := 11) (t := 20) (pc' := 12) (r := []) (by decide +kernel) rfl (by decide +kernel) rfl (fun q => ?_) (fun q => ?_)
    · replace w := w.1 q
      refine ab_fin.s2 (i := .aload_n 0) (k := 1) (pc' := 21) (lv' := [(0, .ref 0), (1, .int l1)]) (st' := [.ref 0]) (by decide +kernel) rfl rfl ?_
      refine ab_fin.s2 (i := .iload_n 1) (k := 1) (pc' := 22) (lv' := [(0, .ref 0), (1, .int l1)]) (st' := [.int l1, .ref 0]) (by decide +kernel) rfl rfl ?_
      refine ab_fin.q_pF (ix := 77) (ci := 13) (k := 9) (h1 := conc (σ.wi 0 9 l1)) (pc' := 25) (by decide +kernel) rfl (c_pI (v := l1) (F.s t0_0) rfl) rfl rfl rfl ?_
      refine ab_fin.s2 (i := .iload_n 1) (k := 1) (pc' := 26) (lv' := [(0, .ref 0), (1, .int l1)]) (st' := [.int l1]) (by decide +kernel) rfl rfl ?_
      exact ab_fin.q_ret (i := .ireturn) (k := 1) (v := some (.int l1)) (by decide +kernel) rfl F w
    · replace w := w.2 q
      exact ab_fin.q_thr hΦC (i := .new 99) (k := 3) (cls := "java/lang/IllegalArgumentException") (by decide +kernel) (by decide +kernel) (fun ix q => by cases q; rfl) d8 (Nat.le_of_ble_eq_true rfl) F w
theorem T_X12_tell_0 {Z : zT} {d : Nat} {σ : Sg}  {K : kS} (F : FX ΦC σ.sh σ.r) (w : ∃ b1, (σ.r 0 8) = Rf.ptr b1 ∧ (C_X7_readText_0 Z d σ b1 (σ.i 0 9) (yI K fun v5 τ3 => K (.inl (some (.int v5))) (τ3.wi 0 9 (0 : Int32))))) : C_X12_tell_0 Z (d + 1) σ  K := by
  unfold C_X12_tell_0
  refine ab_fin.s2 (i := .aload_n 0) (k := 1) (pc' := 1) (lv' := [(0, .ref 0)]) (st' := [.ref 0]) (by decide +kernel) rfl rfl ?_
  refine ab_fin.q_rA (b := 40) (ix := 21) (ci := 13) (k := 1) (pc' := 4) (by decide +kernel) rfl (c_rA (F.s t0_0) rfl (rC_13_1 F t0_0)) rfl ?_
  refine ab_fin.s2 (i := .aload_n 0) (k := 1) (pc' := 5) (lv' := [(0, .ref 0)]) (st' := [.ref 0, .ref 40]) (by decide +kernel) rfl rfl ?_
  obtain ⟨b1, e2, w⟩ := w
  refine ab_fin.q_rA (b := b1) (ix := 69) (ci := 13) (k := 8) (pc' := 8) (by decide +kernel) rfl (c_rA (F.s t0_0) rfl e2) rfl ?_
  refine ab_fin.s2 (i := .aload_n 0) (k := 1) (pc' := 9) (lv' := [(0, .ref 0)]) (st' := [.ref 0, .ref b1, .ref 40]) (by decide +kernel) rfl rfl ?_
  refine ab_fin.q_rI (x := (σ.i 0 9)) (ix := 77) (ci := 13) (k := 9) (pc' := 12) (by decide +kernel) rfl (c_rI (F.s t0_0) rfl) rfl ?_
  refine ab_fin.q_yI (i := .invokevirtual 102) (k := 3) (y := 1793) (As := [.ref 40, .ref b1, .int (σ.i 0 9)]) (rest := []) (M' := (mX7_readText, [])) (lv2 := [(0, .ref 40), (1, .ref b1), (2, .int (σ.i 0 9))]) (pc' := 15) (X := K) (by decide +kernel) (ab_cv rfl rfl (conc_get (σ := σ) (F.s t0_40)) ⟨(Nat.le_of_ble_eq_true rfl), (Nat.le_of_ble_eq_true rfl)⟩ rfl) rfl (Nat.le_of_ble_eq_true rfl) rfl rfl (hY_no fun E => rfl) w (fun v5 τ3 F4 w => ?_)
  refine ab_fin.s2 (i := .istore_n 1) (k := 1) (pc' := 16) (lv' := [(1, .int v5), (0, .ref 0)]) (st' := []) (by decide +kernel) rfl rfl ?_
  refine ab_fin.s2 (i := .aload_n 0) (k := 1) (pc' := 17) (lv' := [(1, .int v5), (0, .ref 0)]) (st' := [.ref 0]) (by decide +kernel) rfl rfl ?_
  refine ab_fin.s1i (i := .iconst 0) (k := 1) (pc' := 18) (n := 0) (by decide +kernel) rfl (by decide +kernel) rfl ?_
  refine ab_fin.q_pF (ix := 77) (ci := 13) (k := 9) (h1 := conc (τ3.wi 0 9 (0 : Int32))) (pc' := 21) (by decide +kernel) rfl (c_pI (v := 0) (F4.s t0_0) rfl) rfl rfl rfl ?_
  refine ab_fin.s2 (i := .iload_n 1) (k := 1) (pc' := 22) (lv' := [(1, .int v5), (0, .ref 0)]) (st' := [.int v5]) (by decide +kernel) rfl rfl ?_
  exact ab_fin.q_ret (i := .ireturn) (k := 1) (v := some (.int v5)) (by decide +kernel) rfl F4 w
theorem T_X12_program_0 {Z : zT} {d : Nat} {σ : Sg}  {K : kS} (F : FX ΦC σ.sh σ.r) (w : ∃ b1, (σ.r 0 8) = Rf.ptr b1 ∧ (C_X7_readProgram_0 Z d σ b1 (σ.i 0 9) (yI K fun v5 τ3 => (0 ≤ v5 → K (.inl (some (.int v5))) ((τ3.wi 0 9 (0 : Int32)).wi 0 13 (0 : Int32))) ∧ (¬ 0 ≤ v5 → K (.inl (some (.int v5))) ((τ3.wi 0 9 (0 : Int32)).wi 0 13 (1 : Int32)))))) : C_X12_program_0 Z (d + 1) σ  K := by
  unfold C_X12_program_0
  refine ab_fin.s2 (i := .aload_n 0) (k := 1) (pc' := 1) (lv' := [(0, .ref 0)]) (st' := [.ref 0]) (by decide +kernel) rfl rfl ?_
  refine ab_fin.q_rA (b := 40) (ix := 21) (ci := 13) (k := 1) (pc' := 4) (by decide +kernel) rfl (c_rA (F.s t0_0) rfl (rC_13_1 F t0_0)) rfl ?_
  refine ab_fin.s2 (i := .aload_n 0) (k := 1) (pc' := 5) (lv' := [(0, .ref 0)]) (st' := [.ref 0, .ref 40]) (by decide +kernel) rfl rfl ?_
  obtain ⟨b1, e2, w⟩ := w
  refine ab_fin.q_rA (b := b1) (ix := 69) (ci := 13) (k := 8) (pc' := 8) (by decide +kernel) rfl (c_rA (F.s t0_0) rfl e2) rfl ?_
  refine ab_fin.s2 (i := .aload_n 0) (k := 1) (pc' := 9) (lv' := [(0, .ref 0)]) (st' := [.ref 0, .ref b1, .ref 40]) (by decide +kernel) rfl rfl ?_
  refine ab_fin.q_rI (x := (σ.i 0 9)) (ix := 77) (ci := 13) (k := 9) (pc' := 12) (by decide +kernel) rfl (c_rI (F.s t0_0) rfl) rfl ?_
  refine ab_fin.q_yI (i := .invokevirtual 106) (k := 3) (y := 1794) (As := [.ref 40, .ref b1, .int (σ.i 0 9)]) (rest := []) (M' := (mX7_readProgram, [])) (lv2 := [(0, .ref 40), (1, .ref b1), (2, .int (σ.i 0 9))]) (pc' := 15) (X := K) (by decide +kernel) (ab_cv rfl rfl (conc_get (σ := σ) (F.s t0_40)) ⟨(Nat.le_of_ble_eq_true rfl), (Nat.le_of_ble_eq_true rfl)⟩ rfl) rfl (Nat.le_of_ble_eq_true rfl) rfl rfl (hY_no fun E => rfl) w (fun v5 τ3 F4 w => ?_)
  refine ab_fin.s2 (i := .istore_n 1) (k := 1) (pc' := 16) (lv' := [(1, .int v5), (0, .ref 0)]) (st' := []) (by decide +kernel) rfl rfl ?_
  refine ab_fin.s2 (i := .aload_n 0) (k := 1) (pc' := 17) (lv' := [(1, .int v5), (0, .ref 0)]) (st' := [.ref 0]) (by decide +kernel) rfl rfl ?_
  refine ab_fin.s1i (i := .iconst 0) (k := 1) (pc' := 18) (n := 0) (by decide +kernel) rfl (by decide +kernel) rfl ?_
  refine ab_fin.q_pF (ix := 77) (ci := 13) (k := 9) (h1 := conc (τ3.wi 0 9 (0 : Int32))) (pc' := 21) (by decide +kernel) rfl (c_pI (v := 0) (F4.s t0_0) rfl) rfl rfl rfl ?_
  refine ab_fin.s2 (i := .aload_n 0) (k := 1) (pc' := 22) (lv' := [(1, .int v5), (0, .ref 0)]) (st' := [.ref 0]) (by decide +kernel) rfl rfl ?_
  refine ab_fin.s2 (i := .iload_n 1) (k := 1) (pc' := 23) (lv' := [(1, .int v5), (0, .ref 0)]) (st' := [.int v5, .ref 0]) (by decide +kernel) rfl rfl ?_
  refine ab_fin.br (c := 0 ≤ v5) (i := .ifCond .ge 7) (off := 7) (t := 30) (pc' := 26) (r := [.ref 0]) (by decide +kernel) rfl (by decide +kernel) rfl (fun q => ?_) (fun q => ?_)
  · replace w := w.1 q
    refine ab_fin.s1i (i := .iconst 0) (k := 1) (pc' := 31) (n := 0) (by decide +kernel) rfl (by decide +kernel) rfl ?_
    refine ab_fin.q_pF (ix := 109) (ci := 13) (k := 13) (h1 := conc ((τ3.wi 0 9 (0 : Int32)).wi 0 13 (0 : Int32))) (pc' := 34) (by decide +kernel) rfl (c_pI (v := 0) (F4.s t0_0) rfl) rfl rfl rfl ?_
    refine ab_fin.s2 (i := .iload_n 1) (k := 1) (pc' := 35) (lv' := [(1, .int v5), (0, .ref 0)]) (st' := [.int v5]) (by decide +kernel) rfl rfl ?_
    exact ab_fin.q_ret (i := .ireturn) (k := 1) (v := some (.int v5)) (by decide +kernel) rfl F4 w
  · replace w := w.2 q
    refine ab_fin.s1i (i := .iconst 1) (k := 1) (pc' := 27) (n := 1) (by decide +kernel) rfl (by decide +kernel) rfl ?_
    refine ab_fin.s3 (i := .goto 4) (k := 3) (t := 31) (st' := [.int 1, .ref 0]) (by decide +kernel) (ab_gto (by decide +kernel)) ?_
    refine ab_fin.q_pF (ix := 109) (ci := 13) (k := 13) (h1 := conc ((τ3.wi 0 9 (0 : Int32)).wi 0 13 (1 : Int32))) (pc' := 34) (by decide +kernel) rfl (c_pI (v := 1) (F4.s t0_0) rfl) rfl rfl rfl ?_
    refine ab_fin.s2 (i := .iload_n 1) (k := 1) (pc' := 35) (lv' := [(1, .int v5), (0, .ref 0)]) (st' := [.int v5]) (by decide +kernel) rfl rfl ?_
    exact ab_fin.q_ret (i := .ireturn) (k := 1) (v := some (.int v5)) (by decide +kernel) rfl F4 w
theorem T_X12_clear_0 {Z : zT} {d : Nat} {σ : Sg}  {K : kS} (F : FX ΦC σ.sh σ.r) (w : C_X11_beginAnew_0 Z d σ  (yN K fun τ1 => C_X6_forgetAll_0 Z d τ1  (yN K fun τ3 => K (.inl none) (τ3.wi 0 13 (0 : Int32))))) : C_X12_clear_0 Z (d + 1) σ  K := by
  unfold C_X12_clear_0
  refine ab_fin.s2 (i := .aload_n 0) (k := 1) (pc' := 1) (lv' := [(0, .ref 0)]) (st' := [.ref 0]) (by decide +kernel) rfl rfl ?_
  refine ab_fin.q_rA (b := 1) (ix := 10) (ci := 13) (k := 0) (pc' := 4) (by decide +kernel) rfl (c_rA (F.s t0_0) rfl (rC_13_0 F t0_0)) rfl ?_
  refine ab_fin.q_yN (i := .invokevirtual 113) (k := 3) (y := 2822) (As := [.ref 1]) (rest := []) (M' := (mX11_beginAnew, [])) (lv2 := [(0, .ref 1)]) (pc' := 7) (X := K) (by decide +kernel) (ab_cv rfl rfl (conc_get (σ := σ) (F.s t0_1)) ⟨(Nat.le_of_ble_eq_true rfl), (Nat.le_of_ble_eq_true rfl)⟩ rfl) rfl (Nat.le_of_ble_eq_true rfl) rfl rfl (hY_no fun E => rfl) w (fun τ1 F2 w => ?_)
  refine ab_fin.s2 (i := .aload_n 0) (k := 1) (pc' := 8) (lv' := [(0, .ref 0)]) (st' := [.ref 0]) (by decide +kernel) rfl rfl ?_
  refine ab_fin.q_rA (b := 46) (ix := 28) (ci := 13) (k := 2) (pc' := 11) (by decide +kernel) rfl (c_rA (F2.s t0_0) rfl (rC_13_2 F2 t0_0)) rfl ?_
  refine ab_fin.q_yN (i := .invokevirtual 116) (k := 3) (y := 1537) (As := [.ref 46]) (rest := []) (M' := (mX6_forgetAll, [])) (lv2 := [(0, .ref 46)]) (pc' := 14) (X := K) (by decide +kernel) (ab_cv rfl rfl (conc_get (σ := τ1) (F2.s t0_46)) ⟨(Nat.le_of_ble_eq_true rfl), (Nat.le_of_ble_eq_true rfl)⟩ rfl) rfl (Nat.le_of_ble_eq_true rfl) rfl rfl (hY_no fun E => rfl) w (fun τ3 F4 w => ?_)
  refine ab_fin.s2 (i := .aload_n 0) (k := 1) (pc' := 15) (lv' := [(0, .ref 0)]) (st' := [.ref 0]) (by decide +kernel) rfl rfl ?_
  refine ab_fin.s1i (i := .iconst 0) (k := 1) (pc' := 16) (n := 0) (by decide +kernel) rfl (by decide +kernel) rfl ?_
  refine ab_fin.q_pF (ix := 109) (ci := 13) (k := 13) (h1 := conc (τ3.wi 0 13 (0 : Int32))) (pc' := 19) (by decide +kernel) rfl (c_pI (v := 0) (F4.s t0_0) rfl) rfl rfl rfl ?_
  exact ab_fin.q_ret (i := .return_) (k := 1) (v := none) (by decide +kernel) rfl F4 w
theorem T_X12_drop_0 {Z : zT} {d : Nat} {σ : Sg} {l1 : Int32} {K : kS} (F : FX ΦC σ.sh σ.r) (d8 : 8 ≤ d) (w : (l1 < 1 → K (.inr ("java/lang/IndexOutOfBoundsException", σ.sh.length)) (σ.al (Sh.jnk 6))) ∧ (¬ l1 < 1 → (l1 ≤ (σ.i 10 0) → C_X5_isThere_0 Z d σ l1 (yI K fun v3 τ1 => (¬ v3 = 0 → ib l1 122 ∧ (C_X11_takeStock_0 Z d (τ1.wi 11 l1.toNatClampNeg (-1 : Int32))  (yN K fun τ5 => K (.inl (some (.int 1))) τ5))) ∧ (v3 = 0 → K (.inl (some (.int 0))) τ1))) ∧ (¬ l1 ≤ (σ.i 10 0) → K (.inr ("java/lang/IndexOutOfBoundsException", σ.sh.length)) (σ.al (Sh.jnk 6))))) : C_X12_drop_0 Z (d + 1) σ l1 K := by
  unfold C_X12_drop_0
  refine ab_fin.s2 (i := .iload_n 1) (k := 1) (pc' := 1) (lv' := [(0, .ref 0), (1, .int l1)]) (st' := [.int l1]) (by decide +kernel) rfl rfl ?_
  refine ab_fin.s1i (i := .iconst 1) (k := 1) (pc' := 2) (n := 1) (by decide +kernel) rfl (by decide +kernel) rfl ?_
  refine ab_fin.br (c := l1 < 1) (i := .if_icmp .lt 17) (off := 17) (t := 19) (pc' := 5) (r := []) (by decide +kernel) rfl (by decide +kernel) rfl (fun q => ?_) (fun q => ?_)
  · replace w := w.1 q
    exact ab_fin.q_thr hΦC (i := .new 80) (k := 3) (cls := "java/lang/IndexOutOfBoundsException") (by decide +kernel) (by decide +kernel) (fun ix q => by cases q; rfl) d8 (Nat.le_of_ble_eq_true rfl) F w
  · replace w := w.2 q
    refine ab_fin.s2 (i := .iload_n 1) (k := 1) (pc' := 6) (lv' := [(0, .ref 0), (1, .int l1)]) (st' := [.int l1]) (by decide +kernel) rfl rfl ?_
    refine ab_fin.s2 (i := .aload_n 0) (k := 1) (pc' := 7) (lv' := [(0, .ref 0), (1, .int l1)]) (st' := [.ref 0, .int l1]) (by decide +kernel) rfl rfl ?_
    refine ab_fin.q_rA (b := 1) (ix := 10) (ci := 13) (k := 0) (pc' := 10) (by decide +kernel) rfl (c_rA (F.s t0_0) rfl (rC_13_0 F t0_0)) rfl ?_
    refine ab_fin.q_rA (b := 10) (ix := 119) (ci := 12) (k := 1) (pc' := 13) (by decide +kernel) rfl (c_rA (F.s t0_1) rfl (rC_12_1 F t0_1)) rfl ?_
    refine ab_fin.q_rI (x := (σ.i 10 0)) (ix := 123) (ci := 6) (k := 0) (pc' := 16) (by decide +kernel) rfl (c_rI (F.s t0_10) rfl) rfl ?_
    refine ab_fin.br (c := l1 ≤ (σ.i 10 0)) (i := .if_icmp .le 11) (off := 11) (t := 27) (pc' := 19) (r := []) (by decide +kernel) rfl (by decide +kernel) rfl (fun q => ?_) (fun q => ?_)
    · replace w := w.1 q
      refine ab_fin.s2 (i := .aload_n 0) (k := 1) (pc' := 28) (lv' := [(0, .ref 0), (1, .int l1)]) (st' := [.ref 0]) (by decide +kernel) rfl rfl ?_
      refine ab_fin.q_rA (b := 1) (ix := 10) (ci := 13) (k := 0) (pc' := 31) (by decide +kernel) rfl (c_rA (F.s t0_0) rfl (rC_13_0 F t0_0)) rfl ?_
      refine ab_fin.q_rA (b := 10) (ix := 119) (ci := 12) (k := 1) (pc' := 34) (by decide +kernel) rfl (c_rA (F.s t0_1) rfl (rC_12_1 F t0_1)) rfl ?_
      refine ab_fin.s2 (i := .iload_n 1) (k := 1) (pc' := 35) (lv' := [(0, .ref 0), (1, .int l1)]) (st' := [.int l1, .ref 10]) (by decide +kernel) rfl rfl ?_
      refine ab_fin.q_yI (i := .invokevirtual 128) (k := 3) (y := 1281) (As := [.ref 10, .int l1]) (rest := []) (M' := (mX5_isThere, [])) (lv2 := [(0, .ref 10), (1, .int l1)]) (pc' := 38) (X := K) (by decide +kernel) (ab_cv rfl rfl (conc_get (σ := σ) (F.s t0_10)) ⟨(Nat.le_of_ble_eq_true rfl), (Nat.le_of_ble_eq_true rfl)⟩ rfl) rfl (Nat.le_of_ble_eq_true rfl) rfl rfl (hY_no fun E => rfl) w (fun v3 τ1 F2 w => ?_)
      refine ab_fin.br (c := ¬ v3 = 0) (i := .ifCond .ne 5) (off := 5) (t := 43) (pc' := 41) (r := []) (by decide +kernel) rfl (by decide +kernel) rfl (fun q => ?_) (fun q => ?_)
      · replace w := w.1 q
        refine ab_fin.s2 (i := .aload_n 0) (k := 1) (pc' := 44) (lv' := [(0, .ref 0), (1, .int l1)]) (st' := [.ref 0]) (by decide +kernel) rfl rfl ?_
        refine ab_fin.q_rA (b := 1) (ix := 10) (ci := 13) (k := 0) (pc' := 47) (by decide +kernel) rfl (c_rA (F2.s t0_0) rfl (rC_13_0 F2 t0_0)) rfl ?_
        refine ab_fin.q_rA (b := 10) (ix := 119) (ci := 12) (k := 1) (pc' := 50) (by decide +kernel) rfl (c_rA (F2.s t0_1) rfl (rC_12_1 F2 t0_1)) rfl ?_
        refine ab_fin.q_rA (b := 11) (ix := 132) (ci := 6) (k := 1) (pc' := 53) (by decide +kernel) rfl (c_rA (F2.s t0_10) rfl (rC_6_1 F2 t0_10)) rfl ?_
        refine ab_fin.s2 (i := .iload_n 1) (k := 1) (pc' := 54) (lv' := [(0, .ref 0), (1, .int l1)]) (st' := [.int l1, .ref 11]) (by decide +kernel) rfl rfl ?_
        refine ab_fin.s1i (i := .iconst (-1)) (k := 1) (pc' := 55) (n := (-1)) (by decide +kernel) rfl (by decide +kernel) rfl ?_
        obtain ⟨e4, w⟩ := w
        refine ab_fin.q_sI (h1 := conc (τ1.wi 11 l1.toNatClampNeg (-1 : Int32))) (pc' := 56) (by decide +kernel) (c_sI' (F2.s t0_11) e4 rfl) rfl ?_
        refine ab_fin.s2 (i := .aload_n 0) (k := 1) (pc' := 57) (lv' := [(0, .ref 0), (1, .int l1)]) (st' := [.ref 0]) (by decide +kernel) rfl rfl ?_
        refine ab_fin.q_rA (b := 1) (ix := 10) (ci := 13) (k := 0) (pc' := 60) (by decide +kernel) rfl (c_rA (F2.s t0_0) rfl (rC_13_0 F2 t0_0)) rfl ?_
        refine ab_fin.q_yN (i := .invokevirtual 135) (k := 3) (y := 2825) (As := [.ref 1]) (rest := []) (M' := (mX11_takeStock, [])) (lv2 := [(0, .ref 1)]) (pc' := 63) (X := K) (by decide +kernel) (ab_cv rfl rfl (conc_get (σ := (τ1.wi 11 l1.toNatClampNeg (-1 : Int32))) (F2.s t0_1)) ⟨(Nat.le_of_ble_eq_true rfl), (Nat.le_of_ble_eq_true rfl)⟩ rfl) rfl (Nat.le_of_ble_eq_true rfl) rfl rfl (hY_no fun E => rfl) w (fun τ5 F6 w => ?_)
        refine ab_fin.s1i (i := .iconst 1) (k := 1) (pc' := 64) (n := 1) (by decide +kernel) rfl (by decide +kernel) rfl ?_
        exact ab_fin.q_ret (i := .ireturn) (k := 1) (v := some (.int 1)) (by decide +kernel) rfl F6 w
      · replace w := w.2 (Decidable.of_not_not q)
        refine ab_fin.s1i (i := .iconst 0) (k := 1) (pc' := 42) (n := 0) (by decide +kernel) rfl (by decide +kernel) rfl ?_
        exact ab_fin.q_ret (i := .ireturn) (k := 1) (v := some (.int 0)) (by decide +kernel) rfl F2 w
    · replace w := w.2 q
      exact ab_fin.q_thr hΦC (i := .new 80) (k := 3) (cls := "java/lang/IndexOutOfBoundsException") (by decide +kernel) (by decide +kernel) (fun ix q => by cases q; rfl) d8 (Nat.le_of_ble_eq_true rfl) F w
theorem T_X12_set_0 {Z : zT} {d : Nat} {σ : Sg} {l1 : Int32} {l2 : Int32} {K : kS} (F : FX ΦC σ.sh σ.r) (w : (¬ l1 = 0 → C_X12_set_26 Z (d + 1) σ l1 l2 K) ∧ (l1 = 0 → (l2 < 0 → C_X12_set_26 Z (d + 1) σ l1 l2 K) ∧ (¬ l2 < 0 → (3 < l2 → C_X12_set_26 Z (d + 1) σ l1 l2 K) ∧ (¬ 3 < l2 → K (.inl (some (.int (σ.i 0 11)))) (σ.wi 0 11 l2))))) : C_X12_set_0 Z (d + 1) σ l1 l2 K := by
  unfold C_X12_set_0
  refine ab_fin.s2 (i := .iload_n 1) (k := 1) (pc' := 1) (lv' := [(0, .ref 0), (1, .int l1), (2, .int l2)]) (st' := [.int l1]) (by decide +kernel) rfl rfl ?_
  refine ab_fin.br (c := ¬ l1 = 0) (i := .ifCond .ne 25) (off := 25) (t := 26) (pc' := 4) (r := []) (by decide +kernel) rfl (by decide +kernel) rfl (fun q => ?_) (fun q => ?_)
  · replace w := w.1 q
    exact ab_fin.lv ⟨(List.forall_mem_cons.mpr ⟨(List.Mem.head _), (List.forall_mem_cons.mpr ⟨(List.Mem.tail _ (List.Mem.head _)), (List.forall_mem_cons.mpr ⟨(List.Mem.tail _ (List.Mem.tail _ (List.Mem.head _))), (fun _ h => absurd h List.not_mem_nil)⟩)⟩)⟩), (show ([0, 1, 2] : List Nat).Nodup from by decide)⟩ w
  · replace w := w.2 (Decidable.of_not_not q)
    refine ab_fin.s2 (i := .iload_n 2) (k := 1) (pc' := 5) (lv' := [(0, .ref 0), (1, .int l1), (2, .int l2)]) (st' := [.int l2]) (by decide +kernel) rfl rfl ?_
    refine ab_fin.br (c := l2 < 0) (i := .ifCond .lt 21) (off := 21) (t := 26) (pc' := 8) (r := []) (by decide +kernel) rfl (by decide +kernel) rfl (fun q => ?_) (fun q => ?_)
    · replace w := w.1 q
      exact ab_fin.lv ⟨(List.forall_mem_cons.mpr ⟨(List.Mem.head _), (List.forall_mem_cons.mpr ⟨(List.Mem.tail _ (List.Mem.head _)), (List.forall_mem_cons.mpr ⟨(List.Mem.tail _ (List.Mem.tail _ (List.Mem.head _))), (fun _ h => absurd h List.not_mem_nil)⟩)⟩)⟩), (show ([0, 1, 2] : List Nat).Nodup from by decide)⟩ w
    · replace w := w.2 q
      refine ab_fin.s2 (i := .iload_n 2) (k := 1) (pc' := 9) (lv' := [(0, .ref 0), (1, .int l1), (2, .int l2)]) (st' := [.int l2]) (by decide +kernel) rfl rfl ?_
      refine ab_fin.s1i (i := .iconst 3) (k := 1) (pc' := 10) (n := 3) (by decide +kernel) rfl (by decide +kernel) rfl ?_
      refine ab_fin.br (c := 3 < l2) (i := .if_icmp .gt 16) (off := 16) (t := 26) (pc' := 13) (r := []) (by decide +kernel) rfl (by decide +kernel) rfl (fun q => ?_) (fun q => ?_)
      · replace w := w.1 q
        exact ab_fin.lv ⟨(List.forall_mem_cons.mpr ⟨(List.Mem.head _), (List.forall_mem_cons.mpr ⟨(List.Mem.tail _ (List.Mem.head _)), (List.forall_mem_cons.mpr ⟨(List.Mem.tail _ (List.Mem.tail _ (List.Mem.head _))), (fun _ h => absurd h List.not_mem_nil)⟩)⟩)⟩), (show ([0, 1, 2] : List Nat).Nodup from by decide)⟩ w
      · replace w := w.2 q
        refine ab_fin.s2 (i := .aload_n 0) (k := 1) (pc' := 14) (lv' := [(0, .ref 0), (1, .int l1), (2, .int l2)]) (st' := [.ref 0]) (by decide +kernel) rfl rfl ?_
        refine ab_fin.q_rI (x := (σ.i 0 11)) (ix := 138) (ci := 13) (k := 11) (pc' := 17) (by decide +kernel) rfl (c_rI (F.s t0_0) rfl) rfl ?_
        refine ab_fin.s2 (i := .istore_n 3) (k := 1) (pc' := 18) (lv' := [(3, .int (σ.i 0 11)), (0, .ref 0), (1, .int l1), (2, .int l2)]) (st' := []) (by decide +kernel) rfl rfl ?_
        refine ab_fin.s2 (i := .aload_n 0) (k := 1) (pc' := 19) (lv' := [(3, .int (σ.i 0 11)), (0, .ref 0), (1, .int l1), (2, .int l2)]) (st' := [.ref 0]) (by decide +kernel) rfl rfl ?_
        refine ab_fin.s2 (i := .iload_n 2) (k := 1) (pc' := 20) (lv' := [(3, .int (σ.i 0 11)), (0, .ref 0), (1, .int l1), (2, .int l2)]) (st' := [.int l2, .ref 0]) (by decide +kernel) rfl rfl ?_
        refine ab_fin.q_pF (ix := 138) (ci := 13) (k := 11) (h1 := conc (σ.wi 0 11 l2)) (pc' := 23) (by decide +kernel) rfl (c_pI (v := l2) (F.s t0_0) rfl) rfl rfl rfl ?_
        refine ab_fin.s3 (i := .goto 86) (k := 3) (t := 109) (st' := []) (by decide +kernel) (ab_gto (by decide +kernel)) ?_
        refine ab_fin.s2 (i := .iload_n 3) (k := 1) (pc' := 110) (lv' := [(3, .int (σ.i 0 11)), (0, .ref 0), (1, .int l1), (2, .int l2)]) (st' := [.int (σ.i 0 11)]) (by decide +kernel) rfl rfl ?_
        exact ab_fin.q_ret (i := .ireturn) (k := 1) (v := some (.int (σ.i 0 11))) (by decide +kernel) rfl F w
theorem T_X12_set_26 {Z : zT} {d : Nat} {σ : Sg} {l1 : Int32} {l2 : Int32} {K : kS} (F : FX ΦC σ.sh σ.r) (w : (¬ l1 = 1 → C_X12_set_72 Z (d + 1) σ l1 l2 K) ∧ (l1 = 1 → (l2 < 0 → C_X12_set_72 Z (d + 1) σ l1 l2 K) ∧ (¬ l2 < 0 → (3 ≤ l2 → C_X12_set_72 Z (d + 1) σ l1 l2 K) ∧ (¬ 3 ≤ l2 → K (.inl (some (.int (σ.i 1 15)))) ((σ.wi 1 15 l2).wi 1 16 ((σ.i 1 16) + (1 : Int32))))))) : C_X12_set_26 Z (d + 1) σ l1 l2 K := by
  unfold C_X12_set_26
  refine ab_fin.s2 (i := .iload_n 1) (k := 1) (pc' := 27) (lv' := [(0, .ref 0), (1, .int l1), (2, .int l2)]) (st' := [.int l1]) (by decide +kernel) rfl rfl ?_
  refine ab_fin.s1i (i := .iconst 1) (k := 1) (pc' := 28) (n := 1) (by decide +kernel) rfl (by decide +kernel) rfl ?_
  refine ab_fin.br (c := ¬ l1 = 1) (i := .if_icmp .ne 44) (off := 44) (t := 72) (pc' := 31) (r := []) (by decide +kernel) rfl (by decide +kernel) rfl (fun q => ?_) (fun q => ?_)
  · replace w := w.1 q
    exact ab_fin.lv ⟨(List.forall_mem_cons.mpr ⟨(List.Mem.head _), (List.forall_mem_cons.mpr ⟨(List.Mem.tail _ (List.Mem.head _)), (List.forall_mem_cons.mpr ⟨(List.Mem.tail _ (List.Mem.tail _ (List.Mem.head _))), (fun _ h => absurd h List.not_mem_nil)⟩)⟩)⟩), (show ([0, 1, 2] : List Nat).Nodup from by decide)⟩ w
  · replace w := w.2 (Decidable.of_not_not q)
    refine ab_fin.s2 (i := .iload_n 2) (k := 1) (pc' := 32) (lv' := [(0, .ref 0), (1, .int l1), (2, .int l2)]) (st' := [.int l2]) (by decide +kernel) rfl rfl ?_
    refine ab_fin.br (c := l2 < 0) (i := .ifCond .lt 40) (off := 40) (t := 72) (pc' := 35) (r := []) (by decide +kernel) rfl (by decide +kernel) rfl (fun q => ?_) (fun q => ?_)
    · replace w := w.1 q
      exact ab_fin.lv ⟨(List.forall_mem_cons.mpr ⟨(List.Mem.head _), (List.forall_mem_cons.mpr ⟨(List.Mem.tail _ (List.Mem.head _)), (List.forall_mem_cons.mpr ⟨(List.Mem.tail _ (List.Mem.tail _ (List.Mem.head _))), (fun _ h => absurd h List.not_mem_nil)⟩)⟩)⟩), (show ([0, 1, 2] : List Nat).Nodup from by decide)⟩ w
    · replace w := w.2 q
      refine ab_fin.s2 (i := .iload_n 2) (k := 1) (pc' := 36) (lv' := [(0, .ref 0), (1, .int l1), (2, .int l2)]) (st' := [.int l2]) (by decide +kernel) rfl rfl ?_
      refine ab_fin.s1i (i := .iconst 3) (k := 1) (pc' := 37) (n := 3) (by decide +kernel) rfl (by decide +kernel) rfl ?_
      refine ab_fin.br (c := 3 ≤ l2) (i := .if_icmp .ge 35) (off := 35) (t := 72) (pc' := 40) (r := []) (by decide +kernel) rfl (by decide +kernel) rfl (fun q => ?_) (fun q => ?_)
      · replace w := w.1 q
        exact ab_fin.lv ⟨(List.forall_mem_cons.mpr ⟨(List.Mem.head _), (List.forall_mem_cons.mpr ⟨(List.Mem.tail _ (List.Mem.head _)), (List.forall_mem_cons.mpr ⟨(List.Mem.tail _ (List.Mem.tail _ (List.Mem.head _))), (fun _ h => absurd h List.not_mem_nil)⟩)⟩)⟩), (show ([0, 1, 2] : List Nat).Nodup from by decide)⟩ w
      · replace w := w.2 q
        refine ab_fin.s2 (i := .aload_n 0) (k := 1) (pc' := 41) (lv' := [(0, .ref 0), (1, .int l1), (2, .int l2)]) (st' := [.ref 0]) (by decide +kernel) rfl rfl ?_
        refine ab_fin.q_rA (b := 1) (ix := 10) (ci := 13) (k := 0) (pc' := 44) (by decide +kernel) rfl (c_rA (F.s t0_0) rfl (rC_13_0 F t0_0)) rfl ?_
        refine ab_fin.q_rI (x := (σ.i 1 15)) (ix := 141) (ci := 12) (k := 15) (pc' := 47) (by decide +kernel) rfl (c_rI (F.s t0_1) rfl) rfl ?_
        refine ab_fin.s2 (i := .istore_n 3) (k := 1) (pc' := 48) (lv' := [(3, .int (σ.i 1 15)), (0, .ref 0), (1, .int l1), (2, .int l2)]) (st' := []) (by decide +kernel) rfl rfl ?_
        refine ab_fin.s2 (i := .aload_n 0) (k := 1) (pc' := 49) (lv' := [(3, .int (σ.i 1 15)), (0, .ref 0), (1, .int l1), (2, .int l2)]) (st' := [.ref 0]) (by decide +kernel) rfl rfl ?_
        refine ab_fin.q_rA (b := 1) (ix := 10) (ci := 13) (k := 0) (pc' := 52) (by decide +kernel) rfl (c_rA (F.s t0_0) rfl (rC_13_0 F t0_0)) rfl ?_
        refine ab_fin.s2 (i := .iload_n 2) (k := 1) (pc' := 53) (lv' := [(3, .int (σ.i 1 15)), (0, .ref 0), (1, .int l1), (2, .int l2)]) (st' := [.int l2, .ref 1]) (by decide +kernel) rfl rfl ?_
        refine ab_fin.q_pF (ix := 141) (ci := 12) (k := 15) (h1 := conc (σ.wi 1 15 l2)) (pc' := 56) (by decide +kernel) rfl (c_pI (v := l2) (F.s t0_1) rfl) rfl rfl rfl ?_
        refine ab_fin.s2 (i := .aload_n 0) (k := 1) (pc' := 57) (lv' := [(3, .int (σ.i 1 15)), (0, .ref 0), (1, .int l1), (2, .int l2)]) (st' := [.ref 0]) (by decide +kernel) rfl rfl ?_
        refine ab_fin.q_rA (b := 1) (ix := 10) (ci := 13) (k := 0) (pc' := 60) (by decide +kernel) rfl (c_rA (F.s t0_0) rfl (rC_13_0 F t0_0)) rfl ?_
        refine ab_fin.s1 (i := .dup) (k := 1) (pc' := 61) (st' := [.ref 1, .ref 1]) (by decide +kernel) rfl rfl ?_
        refine ab_fin.q_rI (x := (σ.i 1 16)) (ix := 144) (ci := 12) (k := 16) (pc' := 64) (by decide +kernel) rfl (c_rI (F.s t0_1) rfl) rfl ?_
        refine ab_fin.s1i (i := .iconst 1) (k := 1) (pc' := 65) (n := 1) (by decide +kernel) rfl (by decide +kernel) rfl ?_
        refine ab_fin.s1 (i := .iadd) (k := 1) (pc' := 66) (st' := [.int ((σ.i 1 16) + (1 : Int32)), .ref 1]) (by decide +kernel) rfl rfl ?_
        refine ab_fin.q_pF (ix := 144) (ci := 12) (k := 16) (h1 := conc ((σ.wi 1 15 l2).wi 1 16 ((σ.i 1 16) + (1 : Int32)))) (pc' := 69) (by decide +kernel) rfl (c_pI (v := ((σ.i 1 16) + (1 : Int32))) (F.s t0_1) rfl) rfl rfl rfl ?_
        refine ab_fin.s3 (i := .goto 40) (k := 3) (t := 109) (st' := []) (by decide +kernel) (ab_gto (by decide +kernel)) ?_
        refine ab_fin.s2 (i := .iload_n 3) (k := 1) (pc' := 110) (lv' := [(3, .int (σ.i 1 15)), (0, .ref 0), (1, .int l1), (2, .int l2)]) (st' := [.int (σ.i 1 15)]) (by decide +kernel) rfl rfl ?_
        exact ab_fin.q_ret (i := .ireturn) (k := 1) (v := some (.int (σ.i 1 15))) (by decide +kernel) rfl F w
theorem T_X12_set_72 {Z : zT} {d : Nat} {σ : Sg} {l1 : Int32} {l2 : Int32} {K : kS} (F : FX ΦC σ.sh σ.r) (d8 : 8 ≤ d) (w : (¬ l1 = 2 → K (.inr ("java/lang/IllegalArgumentException", σ.sh.length)) (σ.al (Sh.jnk 6))) ∧ (l1 = 2 → (l2 < 1 → K (.inr ("java/lang/IllegalArgumentException", σ.sh.length)) (σ.al (Sh.jnk 6))) ∧ (¬ l2 < 1 → (100000 < l2 → K (.inr ("java/lang/IllegalArgumentException", σ.sh.length)) (σ.al (Sh.jnk 6))) ∧ (¬ 100000 < l2 → K (.inl (some (.int (σ.i 0 12)))) (σ.wi 0 12 l2))))) : C_X12_set_72 Z (d + 1) σ l1 l2 K := by
  unfold C_X12_set_72
  refine ab_fin.s2 (i := .iload_n 1) (k := 1) (pc' := 73) (lv' := [(0, .ref 0), (1, .int l1), (2, .int l2)]) (st' := [.int l1]) (by decide +kernel) rfl rfl ?_
  refine ab_fin.s1i (i := .iconst 2) (k := 1) (pc' := 74) (n := 2) (by decide +kernel) rfl (by decide +kernel) rfl ?_
  refine ab_fin.br (c := ¬ l1 = 2) (i := .if_icmp .ne 27) (off := 27) (t := 101) (pc' := 77) (r := []) (by decide +kernel) rfl (by decide +kernel) rfl (fun q => ?_) (fun q => ?_)
  · replace w := w.1 q
    exact ab_fin.q_thr hΦC (i := .new 99) (k := 3) (cls := "java/lang/IllegalArgumentException") (by decide +kernel) (by decide +kernel) (fun ix q => by cases q; rfl) d8 (Nat.le_of_ble_eq_true rfl) F w
  · replace w := w.2 (Decidable.of_not_not q)
    refine ab_fin.s2 (i := .iload_n 2) (k := 1) (pc' := 78) (lv' := [(0, .ref 0), (1, .int l1), (2, .int l2)]) (st' := [.int l2]) (by decide +kernel) rfl rfl ?_
    refine ab_fin.s1i (i := .iconst 1) (k := 1) (pc' := 79) (n := 1) (by decide +kernel) rfl (by decide +kernel) rfl ?_
    refine ab_fin.br (c := l2 < 1) (i := .if_icmp .lt 22) (off := 22) (t := 101) (pc' := 82) (r := []) (by decide +kernel) rfl (by decide +kernel) rfl (fun q => ?_) (fun q => ?_)
    · replace w := w.1 q
      exact ab_fin.q_thr hΦC (i := .new 99) (k := 3) (cls := "java/lang/IllegalArgumentException") (by decide +kernel) (by decide +kernel) (fun ix q => by cases q; rfl) d8 (Nat.le_of_ble_eq_true rfl) F w
    · replace w := w.2 q
      refine ab_fin.s2 (i := .iload_n 2) (k := 1) (pc' := 83) (lv' := [(0, .ref 0), (1, .int l1), (2, .int l2)]) (st' := [.int l2]) (by decide +kernel) rfl rfl ?_
      refine ab_fin.s7 (i := .ldc 147) (k := 2) (pc' := 85) (st' := [.int 100000, .int l2]) (by decide +kernel) rfl rfl ?_
      refine ab_fin.br (c := 100000 < l2) (i := .if_icmp .gt 16) (off := 16) (t := 101) (pc' := 88) (r := []) (by decide +kernel) rfl (by decide +kernel) rfl (fun q => ?_) (fun q => ?_)
      · replace w := w.1 q
        exact ab_fin.q_thr hΦC (i := .new 99) (k := 3) (cls := "java/lang/IllegalArgumentException") (by decide +kernel) (by decide +kernel) (fun ix q => by cases q; rfl) d8 (Nat.le_of_ble_eq_true rfl) F w
      · replace w := w.2 q
        refine ab_fin.s2 (i := .aload_n 0) (k := 1) (pc' := 89) (lv' := [(0, .ref 0), (1, .int l1), (2, .int l2)]) (st' := [.ref 0]) (by decide +kernel) rfl rfl ?_
        refine ab_fin.q_rI (x := (σ.i 0 12)) (ix := 73) (ci := 13) (k := 12) (pc' := 92) (by decide +kernel) rfl (c_rI (F.s t0_0) rfl) rfl ?_
        refine ab_fin.s2 (i := .istore_n 3) (k := 1) (pc' := 93) (lv' := [(3, .int (σ.i 0 12)), (0, .ref 0), (1, .int l1), (2, .int l2)]) (st' := []) (by decide +kernel) rfl rfl ?_
        refine ab_fin.s2 (i := .aload_n 0) (k := 1) (pc' := 94) (lv' := [(3, .int (σ.i 0 12)), (0, .ref 0), (1, .int l1), (2, .int l2)]) (st' := [.ref 0]) (by decide +kernel) rfl rfl ?_
        refine ab_fin.s2 (i := .iload_n 2) (k := 1) (pc' := 95) (lv' := [(3, .int (σ.i 0 12)), (0, .ref 0), (1, .int l1), (2, .int l2)]) (st' := [.int l2, .ref 0]) (by decide +kernel) rfl rfl ?_
        refine ab_fin.q_pF (ix := 73) (ci := 13) (k := 12) (h1 := conc (σ.wi 0 12 l2)) (pc' := 98) (by decide +kernel) rfl (c_pI (v := l2) (F.s t0_0) rfl) rfl rfl rfl ?_
        refine ab_fin.s3 (i := .goto 11) (k := 3) (t := 109) (st' := []) (by decide +kernel) (ab_gto (by decide +kernel)) ?_
        refine ab_fin.s2 (i := .iload_n 3) (k := 1) (pc' := 110) (lv' := [(3, .int (σ.i 0 12)), (0, .ref 0), (1, .int l1), (2, .int l2)]) (st' := [.int (σ.i 0 12)]) (by decide +kernel) rfl rfl ?_
        exact ab_fin.q_ret (i := .ireturn) (k := 1) (v := some (.int (σ.i 0 12))) (by decide +kernel) rfl F w
theorem T_X12_count_0 {Z : zT} {d : Nat} {σ : Sg} {l1 : Int32} {K : kS} (F : FX ΦC σ.sh σ.r) (d8 : 8 ≤ d) (w : (l1 = 0 → K (.inl (some (.int (σ.i 28 0)))) σ) ∧ (l1 = 1 → K (.inl (some (.int (σ.i 28 1)))) σ) ∧ (l1 = 2 → K (.inl (some (.int (σ.i 10 0)))) σ) ∧ (l1 = 3 → K (.inl (some (.int (σ.i 28 2)))) σ) ∧ (l1 = 4 → K (.inl (some (.int (σ.i 40 2)))) σ) ∧ (l1 = 5 → K (.inl (some (.int ((2 : Int32) * (σ.i 0 10))))) σ) ∧ (l1 = 6 → K (.inl (some (.int (σ.i 0 9)))) σ) ∧ (¬ l1 = 0 → ¬ l1 = 1 → ¬ l1 = 2 → ¬ l1 = 3 → ¬ l1 = 4 → ¬ l1 = 5 → ¬ l1 = 6 → K (.inr ("java/lang/IllegalArgumentException", σ.sh.length)) (σ.al (Sh.jnk 6)))) : C_X12_count_0 Z (d + 1) σ l1 K := by
  unfold C_X12_count_0
  refine ab_fin.s2 (i := .iload_n 1) (k := 1) (pc' := 1) (lv' := [(0, .ref 0), (1, .int l1)]) (st' := [.int l1]) (by decide +kernel) rfl rfl ?_
  by_cases q0 : l1 = 0
  · refine ab_fin.s3 (i := .tableswitch 104 0 6 #[43, 53, 63, 74, 84, 92, 99]) (k := 43) (t := 44) (st' := []) (by decide +kernel) (by rw [q0]; exact ab_swI (off := 43) (by decide +kernel) (by decide +kernel) (by decide +kernel)) ?_
    replace w := w.1 q0
    refine ab_fin.s2 (i := .aload_n 0) (k := 1) (pc' := 45) (lv' := [(0, .ref 0), (1, .int l1)]) (st' := [.ref 0]) (by decide +kernel) rfl rfl ?_
    refine ab_fin.q_rA (b := 1) (ix := 10) (ci := 13) (k := 0) (pc' := 48) (by decide +kernel) rfl (c_rA (F.s t0_0) rfl (rC_13_0 F t0_0)) rfl ?_
    refine ab_fin.q_rA (b := 28) (ix := 148) (ci := 12) (k := 3) (pc' := 51) (by decide +kernel) rfl (c_rA (F.s t0_1) rfl (rC_12_3 F t0_1)) rfl ?_
    refine ab_fin.s1i (i := .iconst 0) (k := 1) (pc' := 52) (n := 0) (by decide +kernel) rfl (by decide +kernel) rfl ?_
    refine ab_fin.q_eI (x := (σ.i 28 0)) (pc' := 53) (by decide +kernel) (c_eI' (F.s t0_28) (show ib (0 : Int32) 4 by decide +kernel) (by decide +kernel)) rfl ?_
    exact ab_fin.q_ret (i := .ireturn) (k := 1) (v := some (.int (σ.i 28 0))) (by decide +kernel) rfl F w
  by_cases q1 : l1 = 1
  · refine ab_fin.s3 (i := .tableswitch 104 0 6 #[43, 53, 63, 74, 84, 92, 99]) (k := 43) (t := 54) (st' := []) (by decide +kernel) (by rw [q1]; exact ab_swI (off := 53) (by decide +kernel) (by decide +kernel) (by decide +kernel)) ?_
    replace w := w.2.1 q1
    refine ab_fin.s2 (i := .aload_n 0) (k := 1) (pc' := 55) (lv' := [(0, .ref 0), (1, .int l1)]) (st' := [.ref 0]) (by decide +kernel) rfl rfl ?_
    refine ab_fin.q_rA (b := 1) (ix := 10) (ci := 13) (k := 0) (pc' := 58) (by decide +kernel) rfl (c_rA (F.s t0_0) rfl (rC_13_0 F t0_0)) rfl ?_
    refine ab_fin.q_rA (b := 28) (ix := 148) (ci := 12) (k := 3) (pc' := 61) (by decide +kernel) rfl (c_rA (F.s t0_1) rfl (rC_12_3 F t0_1)) rfl ?_
    refine ab_fin.s1i (i := .iconst 1) (k := 1) (pc' := 62) (n := 1) (by decide +kernel) rfl (by decide +kernel) rfl ?_
    refine ab_fin.q_eI (x := (σ.i 28 1)) (pc' := 63) (by decide +kernel) (c_eI' (F.s t0_28) (show ib (1 : Int32) 4 by decide +kernel) (by decide +kernel)) rfl ?_
    exact ab_fin.q_ret (i := .ireturn) (k := 1) (v := some (.int (σ.i 28 1))) (by decide +kernel) rfl F w
  by_cases q2 : l1 = 2
  · refine ab_fin.s3 (i := .tableswitch 104 0 6 #[43, 53, 63, 74, 84, 92, 99]) (k := 43) (t := 64) (st' := []) (by decide +kernel) (by rw [q2]; exact ab_swI (off := 63) (by decide +kernel) (by decide +kernel) (by decide +kernel)) ?_
    replace w := w.2.2.1 q2
    refine ab_fin.s2 (i := .aload_n 0) (k := 1) (pc' := 65) (lv' := [(0, .ref 0), (1, .int l1)]) (st' := [.ref 0]) (by decide +kernel) rfl rfl ?_
    refine ab_fin.q_rA (b := 1) (ix := 10) (ci := 13) (k := 0) (pc' := 68) (by decide +kernel) rfl (c_rA (F.s t0_0) rfl (rC_13_0 F t0_0)) rfl ?_
    refine ab_fin.q_rA (b := 10) (ix := 119) (ci := 12) (k := 1) (pc' := 71) (by decide +kernel) rfl (c_rA (F.s t0_1) rfl (rC_12_1 F t0_1)) rfl ?_
    refine ab_fin.q_rI (x := (σ.i 10 0)) (ix := 123) (ci := 6) (k := 0) (pc' := 74) (by decide +kernel) rfl (c_rI (F.s t0_10) rfl) rfl ?_
    exact ab_fin.q_ret (i := .ireturn) (k := 1) (v := some (.int (σ.i 10 0))) (by decide +kernel) rfl F w
  by_cases q3 : l1 = 3
  · refine ab_fin.s3 (i := .tableswitch 104 0 6 #[43, 53, 63, 74, 84, 92, 99]) (k := 43) (t := 75) (st' := []) (by decide +kernel) (by rw [q3]; exact ab_swI (off := 74) (by decide +kernel) (by decide +kernel) (by decide +kernel)) ?_
    replace w := w.2.2.2.1 q3
    refine ab_fin.s2 (i := .aload_n 0) (k := 1) (pc' := 76) (lv' := [(0, .ref 0), (1, .int l1)]) (st' := [.ref 0]) (by decide +kernel) rfl rfl ?_
    refine ab_fin.q_rA (b := 1) (ix := 10) (ci := 13) (k := 0) (pc' := 79) (by decide +kernel) rfl (c_rA (F.s t0_0) rfl (rC_13_0 F t0_0)) rfl ?_
    refine ab_fin.q_rA (b := 28) (ix := 148) (ci := 12) (k := 3) (pc' := 82) (by decide +kernel) rfl (c_rA (F.s t0_1) rfl (rC_12_3 F t0_1)) rfl ?_
    refine ab_fin.s1i (i := .iconst 2) (k := 1) (pc' := 83) (n := 2) (by decide +kernel) rfl (by decide +kernel) rfl ?_
    refine ab_fin.q_eI (x := (σ.i 28 2)) (pc' := 84) (by decide +kernel) (c_eI' (F.s t0_28) (show ib (2 : Int32) 4 by decide +kernel) (by decide +kernel)) rfl ?_
    exact ab_fin.q_ret (i := .ireturn) (k := 1) (v := some (.int (σ.i 28 2))) (by decide +kernel) rfl F w
  by_cases q4 : l1 = 4
  · refine ab_fin.s3 (i := .tableswitch 104 0 6 #[43, 53, 63, 74, 84, 92, 99]) (k := 43) (t := 85) (st' := []) (by decide +kernel) (by rw [q4]; exact ab_swI (off := 84) (by decide +kernel) (by decide +kernel) (by decide +kernel)) ?_
    replace w := w.2.2.2.2.1 q4
    refine ab_fin.s2 (i := .aload_n 0) (k := 1) (pc' := 86) (lv' := [(0, .ref 0), (1, .int l1)]) (st' := [.ref 0]) (by decide +kernel) rfl rfl ?_
    refine ab_fin.q_rA (b := 40) (ix := 21) (ci := 13) (k := 1) (pc' := 89) (by decide +kernel) rfl (c_rA (F.s t0_0) rfl (rC_13_1 F t0_0)) rfl ?_
    refine ab_fin.q_rI (x := (σ.i 40 2)) (ix := 151) (ci := 8) (k := 2) (pc' := 92) (by decide +kernel) rfl (c_rI (F.s t0_40) rfl) rfl ?_
    exact ab_fin.q_ret (i := .ireturn) (k := 1) (v := some (.int (σ.i 40 2))) (by decide +kernel) rfl F w
  by_cases q5 : l1 = 5
  · refine ab_fin.s3 (i := .tableswitch 104 0 6 #[43, 53, 63, 74, 84, 92, 99]) (k := 43) (t := 93) (st' := []) (by decide +kernel) (by rw [q5]; exact ab_swI (off := 92) (by decide +kernel) (by decide +kernel) (by decide +kernel)) ?_
    replace w := w.2.2.2.2.2.1 q5
    refine ab_fin.s1i (i := .iconst 2) (k := 1) (pc' := 94) (n := 2) (by decide +kernel) rfl (by decide +kernel) rfl ?_
    refine ab_fin.s2 (i := .aload_n 0) (k := 1) (pc' := 95) (lv' := [(0, .ref 0), (1, .int l1)]) (st' := [.ref 0, .int 2]) (by decide +kernel) rfl rfl ?_
    refine ab_fin.q_rI (x := (σ.i 0 10)) (ix := 154) (ci := 13) (k := 10) (pc' := 98) (by decide +kernel) rfl (c_rI (F.s t0_0) rfl) rfl ?_
    refine ab_fin.s1 (i := .imul) (k := 1) (pc' := 99) (st' := [.int ((2 : Int32) * (σ.i 0 10))]) (by decide +kernel) rfl rfl ?_
    exact ab_fin.q_ret (i := .ireturn) (k := 1) (v := some (.int ((2 : Int32) * (σ.i 0 10)))) (by decide +kernel) rfl F w
  by_cases q6 : l1 = 6
  · refine ab_fin.s3 (i := .tableswitch 104 0 6 #[43, 53, 63, 74, 84, 92, 99]) (k := 43) (t := 100) (st' := []) (by decide +kernel) (by rw [q6]; exact ab_swI (off := 99) (by decide +kernel) (by decide +kernel) (by decide +kernel)) ?_
    replace w := w.2.2.2.2.2.2.1 q6
    refine ab_fin.s2 (i := .aload_n 0) (k := 1) (pc' := 101) (lv' := [(0, .ref 0), (1, .int l1)]) (st' := [.ref 0]) (by decide +kernel) rfl rfl ?_
    refine ab_fin.q_rI (x := (σ.i 0 9)) (ix := 77) (ci := 13) (k := 9) (pc' := 104) (by decide +kernel) rfl (c_rI (F.s t0_0) rfl) rfl ?_
    exact ab_fin.q_ret (i := .ireturn) (k := 1) (v := some (.int (σ.i 0 9))) (by decide +kernel) rfl F w
  have hsw : ab_s3 (.tableswitch 104 0 6 #[43, 53, 63, 74, 84, 92, 99]) 43 1 (.int l1 :: []) = some (105, []) := by
    clear w
    have qd : Int32.toInt l1 < 0 ∨ 6 < Int32.toInt l1 := by
      simp only [← Int32.toInt_inj, show (0 : Int32).toInt = 0 from rfl, show (1 : Int32).toInt = 1 from rfl, show (2 : Int32).toInt = 2 from rfl, show (3 : Int32).toInt = 3 from rfl, show (4 : Int32).toInt = 4 from rfl, show (5 : Int32).toInt = 5 from rfl, show (6 : Int32).toInt = 6 from rfl] at q0 q1 q2 q3 q4 q5 q6 
      omega
    exact ab_swD qd (by decide +kernel)
  refine ab_fin.s3 (i := .tableswitch 104 0 6 #[43, 53, 63, 74, 84, 92, 99]) (k := 43) (t := 105) (st' := []) (by decide +kernel) hsw ?_
  replace w := w.2.2.2.2.2.2.2 q0 q1 q2 q3 q4 q5 q6
  exact ab_fin.q_thr hΦC (i := .new 99) (k := 3) (cls := "java/lang/IllegalArgumentException") (by decide +kernel) (by decide +kernel) (fun ix q => by cases q; rfl) d8 (Nat.le_of_ble_eq_true rfl) F w
theorem T_X12_below_0 {Z : zT} {d : Nat} {σ : Sg} {l1 : Int32} {l2 : Int32} {K : kS} (F : FX ΦC σ.sh σ.r) (d8 : 8 ≤ d) (w : C_X11_isKind_0 Z d σ l1 (yI K fun v3 τ1 => (v3 = 0 → K (.inr ("java/lang/IndexOutOfBoundsException", τ1.sh.length)) (τ1.al (Sh.jnk 6))) ∧ (¬ v3 = 0 → C_X11_isKind_0 Z d τ1 l2 (yI K fun v6 τ4 => (¬ v6 = 0 → C_X2_isBelow_0 Z d τ4 l1 l2 (yI K fun v9 τ7 => narrow .boolean (.int v9) = .int v9 ∧ K (.inl (some (.int v9))) τ7)) ∧ (v6 = 0 → K (.inr ("java/lang/IndexOutOfBoundsException", τ4.sh.length)) (τ4.al (Sh.jnk 6))))))) : C_X12_below_0 Z (d + 1) σ l1 l2 K := by
  unfold C_X12_below_0
  refine ab_fin.s2 (i := .aload_n 0) (k := 1) (pc' := 1) (lv' := [(0, .ref 0), (1, .int l1), (2, .int l2)]) (st' := [.ref 0]) (by decide +kernel) rfl rfl ?_
  refine ab_fin.q_rA (b := 1) (ix := 10) (ci := 13) (k := 0) (pc' := 4) (by decide +kernel) rfl (c_rA (F.s t0_0) rfl (rC_13_0 F t0_0)) rfl ?_
  refine ab_fin.s2 (i := .iload_n 1) (k := 1) (pc' := 5) (lv' := [(0, .ref 0), (1, .int l1), (2, .int l2)]) (st' := [.int l1, .ref 1]) (by decide +kernel) rfl rfl ?_
  refine ab_fin.q_yI (i := .invokevirtual 157) (k := 3) (y := 2817) (As := [.ref 1, .int l1]) (rest := []) (M' := (mX11_isKind, [])) (lv2 := [(0, .ref 1), (1, .int l1)]) (pc' := 8) (X := K) (by decide +kernel) (ab_cv rfl rfl (conc_get (σ := σ) (F.s t0_1)) ⟨(Nat.le_of_ble_eq_true rfl), (Nat.le_of_ble_eq_true rfl)⟩ rfl) rfl (Nat.le_of_ble_eq_true rfl) rfl rfl (hY_no fun E => rfl) w (fun v3 τ1 F2 w => ?_)
  refine ab_fin.br (c := v3 = 0) (i := .ifCond .eq 14) (off := 14) (t := 22) (pc' := 11) (r := []) (by decide +kernel) rfl (by decide +kernel) rfl (fun q => ?_) (fun q => ?_)
  · replace w := w.1 q
    exact ab_fin.q_thr hΦC (i := .new 80) (k := 3) (cls := "java/lang/IndexOutOfBoundsException") (by decide +kernel) (by decide +kernel) (fun ix q => by cases q; rfl) d8 (Nat.le_of_ble_eq_true rfl) F2 w
  · replace w := w.2 q
    refine ab_fin.s2 (i := .aload_n 0) (k := 1) (pc' := 12) (lv' := [(0, .ref 0), (1, .int l1), (2, .int l2)]) (st' := [.ref 0]) (by decide +kernel) rfl rfl ?_
    refine ab_fin.q_rA (b := 1) (ix := 10) (ci := 13) (k := 0) (pc' := 15) (by decide +kernel) rfl (c_rA (F2.s t0_0) rfl (rC_13_0 F2 t0_0)) rfl ?_
    refine ab_fin.s2 (i := .iload_n 2) (k := 1) (pc' := 16) (lv' := [(0, .ref 0), (1, .int l1), (2, .int l2)]) (st' := [.int l2, .ref 1]) (by decide +kernel) rfl rfl ?_
    refine ab_fin.q_yI (i := .invokevirtual 157) (k := 3) (y := 2817) (As := [.ref 1, .int l2]) (rest := []) (M' := (mX11_isKind, [])) (lv2 := [(0, .ref 1), (1, .int l2)]) (pc' := 19) (X := K) (by decide +kernel) (ab_cv rfl rfl (conc_get (σ := τ1) (F2.s t0_1)) ⟨(Nat.le_of_ble_eq_true rfl), (Nat.le_of_ble_eq_true rfl)⟩ rfl) rfl (Nat.le_of_ble_eq_true rfl) rfl rfl (hY_no fun E => rfl) w (fun v6 τ4 F5 w => ?_)
    refine ab_fin.br (c := ¬ v6 = 0) (i := .ifCond .ne 11) (off := 11) (t := 30) (pc' := 22) (r := []) (by decide +kernel) rfl (by decide +kernel) rfl (fun q => ?_) (fun q => ?_)
    · replace w := w.1 q
      refine ab_fin.s2 (i := .aload_n 0) (k := 1) (pc' := 31) (lv' := [(0, .ref 0), (1, .int l1), (2, .int l2)]) (st' := [.ref 0]) (by decide +kernel) rfl rfl ?_
      refine ab_fin.q_rA (b := 1) (ix := 10) (ci := 13) (k := 0) (pc' := 34) (by decide +kernel) rfl (c_rA (F5.s t0_0) rfl (rC_13_0 F5 t0_0)) rfl ?_
      refine ab_fin.q_rA (b := 2) (ix := 160) (ci := 12) (k := 0) (pc' := 37) (by decide +kernel) rfl (c_rA (F5.s t0_1) rfl (rC_12_0 F5 t0_1)) rfl ?_
      refine ab_fin.s2 (i := .iload_n 1) (k := 1) (pc' := 38) (lv' := [(0, .ref 0), (1, .int l1), (2, .int l2)]) (st' := [.int l1, .ref 2]) (by decide +kernel) rfl rfl ?_
      refine ab_fin.s2 (i := .iload_n 2) (k := 1) (pc' := 39) (lv' := [(0, .ref 0), (1, .int l1), (2, .int l2)]) (st' := [.int l2, .int l1, .ref 2]) (by decide +kernel) rfl rfl ?_
      refine ab_fin.q_yI (i := .invokevirtual 164) (k := 3) (y := 513) (As := [.ref 2, .int l1, .int l2]) (rest := []) (M' := (mX2_isBelow, [])) (lv2 := [(0, .ref 2), (1, .int l1), (2, .int l2)]) (pc' := 42) (X := K) (by decide +kernel) (ab_cv rfl rfl (conc_get (σ := τ4) (F5.s t0_2)) ⟨(Nat.le_of_ble_eq_true rfl), (Nat.le_of_ble_eq_true rfl)⟩ rfl) rfl (Nat.le_of_ble_eq_true rfl) rfl rfl (hY_no fun E => rfl) w (fun v9 τ7 F8 w => ?_)
      exact ab_fin.q_rtN (ty := .boolean) (by decide +kernel) rfl w.1 F8 w.2
    · replace w := w.2 (Decidable.of_not_not q)
      exact ab_fin.q_thr hΦC (i := .new 80) (k := 3) (cls := "java/lang/IndexOutOfBoundsException") (by decide +kernel) (by decide +kernel) (fun ix q => by cases q; rfl) d8 (Nat.le_of_ble_eq_true rfl) F5 w
theorem T_X12_row_0 {Z : zT} {d : Nat} {σ : Sg} {l1 : Int32} {l2 : Int32} {l3 : Int32} {K : kS} (F : FX ΦC σ.sh σ.r) (d8 : 8 ≤ d) (w : C_X11_isKind_0 Z d σ l1 (yI K fun v3 τ1 => (v3 = 0 → K (.inr ("java/lang/IndexOutOfBoundsException", τ1.sh.length)) (τ1.al (Sh.jnk 6))) ∧ (¬ v3 = 0 → (0 ≤ l3 → (l2 < 0 → K (.inr ("java/lang/IllegalArgumentException", τ1.sh.length)) (τ1.al (Sh.jnk 6))) ∧ (¬ l2 < 0 → (l2 < 3 → ib l1 24 ∧ (((τ1.i 5 l1.toNatClampNeg) ≤ l3 → K (.inl (some (.int (-1)))) τ1) ∧ (¬ (τ1.i 5 l1.toNatClampNeg) ≤ l3 → C_X2_inRow_0 Z d τ1 l2 l1 l3 (yI K fun v7 τ5 => K (.inl (some (.int v7))) τ5)))) ∧ (¬ l2 < 3 → K (.inr ("java/lang/IllegalArgumentException", τ1.sh.length)) (τ1.al (Sh.jnk 6))))) ∧ (¬ 0 ≤ l3 → K (.inr ("java/lang/IndexOutOfBoundsException", τ1.sh.length)) (τ1.al (Sh.jnk 6)))))) : C_X12_row_0 Z (d + 1) σ l1 l2 l3 K := by
  unfold C_X12_row_0
  refine ab_fin.s2 (i := .aload_n 0) (k := 1) (pc' := 1) (lv' := [(0, .ref 0), (1, .int l1), (2, .int l2), (3, .int l3)]) (st' := [.ref 0]) (by decide +kernel) rfl rfl ?_
  refine ab_fin.q_rA (b := 1) (ix := 10) (ci := 13) (k := 0) (pc' := 4) (by decide +kernel) rfl (c_rA (F.s t0_0) rfl (rC_13_0 F t0_0)) rfl ?_
  refine ab_fin.s2 (i := .iload_n 1) (k := 1) (pc' := 5) (lv' := [(0, .ref 0), (1, .int l1), (2, .int l2), (3, .int l3)]) (st' := [.int l1, .ref 1]) (by decide +kernel) rfl rfl ?_
  refine ab_fin.q_yI (i := .invokevirtual 157) (k := 3) (y := 2817) (As := [.ref 1, .int l1]) (rest := []) (M' := (mX11_isKind, [])) (lv2 := [(0, .ref 1), (1, .int l1)]) (pc' := 8) (X := K) (by decide +kernel) (ab_cv rfl rfl (conc_get (σ := σ) (F.s t0_1)) ⟨(Nat.le_of_ble_eq_true rfl), (Nat.le_of_ble_eq_true rfl)⟩ rfl) rfl (Nat.le_of_ble_eq_true rfl) rfl rfl (hY_no fun E => rfl) w (fun v3 τ1 F2 w => ?_)
  refine ab_fin.br (c := v3 = 0) (i := .ifCond .eq 7) (off := 7) (t := 15) (pc' := 11) (r := []) (by decide +kernel) rfl (by decide +kernel) rfl (fun q => ?_) (fun q => ?_)
  · replace w := w.1 q
    exact ab_fin.q_thr hΦC (i := .new 80) (k := 3) (cls := "java/lang/IndexOutOfBoundsException") (by decide +kernel) (by decide +kernel) (fun ix q => by cases q; rfl) d8 (Nat.le_of_ble_eq_true rfl) F2 w
  · replace w := w.2 q
    refine ab_fin.s2 (i := .iload_n 3) (k := 1) (pc' := 12) (lv' := [(0, .ref 0), (1, .int l1), (2, .int l2), (3, .int l3)]) (st' := [.int l3]) (by decide +kernel) rfl rfl ?_
    refine ab_fin.br (c := 0 ≤ l3) (i := .ifCond .ge 11) (off := 11) (t := 23) (pc' := 15) (r := []) (by decide +kernel) rfl (by decide +kernel) rfl (fun q => ?_) (fun q => ?_)
    · replace w := w.1 q
      refine ab_fin.s2 (i := .iload_n 2) (k := 1) (pc' := 24) (lv' := [(0, .ref 0), (1, .int l1), (2, .int l2), (3, .int l3)]) (st' := [.int l2]) (by decide +kernel) rfl rfl ?_
      refine ab_fin.br (c := l2 < 0) (i := .ifCond .lt 8) (off := 8) (t := 32) (pc' := 27) (r := []) (by decide +kernel) rfl (by decide +kernel) rfl (fun q => ?_) (fun q => ?_)
      · replace w := w.1 q
        exact ab_fin.q_thr hΦC (i := .new 99) (k := 3) (cls := "java/lang/IllegalArgumentException") (by decide +kernel) (by decide +kernel) (fun ix q => by cases q; rfl) d8 (Nat.le_of_ble_eq_true rfl) F2 w
      · replace w := w.2 q
        refine ab_fin.s2 (i := .iload_n 2) (k := 1) (pc' := 28) (lv' := [(0, .ref 0), (1, .int l1), (2, .int l2), (3, .int l3)]) (st' := [.int l2]) (by decide +kernel) rfl rfl ?_
        refine ab_fin.s1i (i := .iconst 3) (k := 1) (pc' := 29) (n := 3) (by decide +kernel) rfl (by decide +kernel) rfl ?_
        refine ab_fin.br (c := l2 < 3) (i := .if_icmp .lt 11) (off := 11) (t := 40) (pc' := 32) (r := []) (by decide +kernel) rfl (by decide +kernel) rfl (fun q => ?_) (fun q => ?_)
        · replace w := w.1 q
          refine ab_fin.s2 (i := .iload_n 3) (k := 1) (pc' := 41) (lv' := [(0, .ref 0), (1, .int l1), (2, .int l2), (3, .int l3)]) (st' := [.int l3]) (by decide +kernel) rfl rfl ?_
          refine ab_fin.s2 (i := .aload_n 0) (k := 1) (pc' := 42) (lv' := [(0, .ref 0), (1, .int l1), (2, .int l2), (3, .int l3)]) (st' := [.ref 0, .int l3]) (by decide +kernel) rfl rfl ?_
          refine ab_fin.q_rA (b := 1) (ix := 10) (ci := 13) (k := 0) (pc' := 45) (by decide +kernel) rfl (c_rA (F2.s t0_0) rfl (rC_13_0 F2 t0_0)) rfl ?_
          refine ab_fin.q_rA (b := 2) (ix := 160) (ci := 12) (k := 0) (pc' := 48) (by decide +kernel) rfl (c_rA (F2.s t0_1) rfl (rC_12_0 F2 t0_1)) rfl ?_
          refine ab_fin.q_rA (b := 5) (ix := 170) (ci := 3) (k := 2) (pc' := 51) (by decide +kernel) rfl (c_rA (F2.s t0_2) rfl (rC_3_2 F2 t0_2)) rfl ?_
          refine ab_fin.s2 (i := .iload_n 1) (k := 1) (pc' := 52) (lv' := [(0, .ref 0), (1, .int l1), (2, .int l2), (3, .int l3)]) (st' := [.int l1, .ref 5, .int l3]) (by decide +kernel) rfl rfl ?_
          obtain ⟨e4, w⟩ := w
          refine ab_fin.q_eI (x := (τ1.i 5 l1.toNatClampNeg)) (pc' := 53) (by decide +kernel) (c_eI' (F2.s t0_5) e4 rfl) rfl ?_
          refine ab_fin.br (c := (τ1.i 5 l1.toNatClampNeg) ≤ l3) (i := .if_icmp .ge 19) (off := 19) (t := 72) (pc' := 56) (r := []) (by decide +kernel) rfl (by decide +kernel) rfl (fun q => ?_) (fun q => ?_)
          · replace w := w.1 q
            refine ab_fin.s1i (i := .iconst (-1)) (k := 1) (pc' := 73) (n := (-1)) (by decide +kernel) rfl (by decide +kernel) rfl ?_
            exact ab_fin.q_ret (i := .ireturn) (k := 1) (v := some (.int (-1))) (by decide +kernel) rfl F2 w
          · replace w := w.2 q
            refine ab_fin.s2 (i := .aload_n 0) (k := 1) (pc' := 57) (lv' := [(0, .ref 0), (1, .int l1), (2, .int l2), (3, .int l3)]) (st' := [.ref 0]) (by decide +kernel) rfl rfl ?_
            refine ab_fin.q_rA (b := 1) (ix := 10) (ci := 13) (k := 0) (pc' := 60) (by decide +kernel) rfl (c_rA (F2.s t0_0) rfl (rC_13_0 F2 t0_0)) rfl ?_
            refine ab_fin.q_rA (b := 2) (ix := 160) (ci := 12) (k := 0) (pc' := 63) (by decide +kernel) rfl (c_rA (F2.s t0_1) rfl (rC_12_0 F2 t0_1)) rfl ?_
            refine ab_fin.s2 (i := .iload_n 2) (k := 1) (pc' := 64) (lv' := [(0, .ref 0), (1, .int l1), (2, .int l2), (3, .int l3)]) (st' := [.int l2, .ref 2]) (by decide +kernel) rfl rfl ?_
            refine ab_fin.s2 (i := .iload_n 1) (k := 1) (pc' := 65) (lv' := [(0, .ref 0), (1, .int l1), (2, .int l2), (3, .int l3)]) (st' := [.int l1, .int l2, .ref 2]) (by decide +kernel) rfl rfl ?_
            refine ab_fin.s2 (i := .iload_n 3) (k := 1) (pc' := 66) (lv' := [(0, .ref 0), (1, .int l1), (2, .int l2), (3, .int l3)]) (st' := [.int l3, .int l1, .int l2, .ref 2]) (by decide +kernel) rfl rfl ?_
            refine ab_fin.q_yI (i := .invokevirtual 173) (k := 3) (y := 514) (As := [.ref 2, .int l2, .int l1, .int l3]) (rest := []) (M' := (mX2_inRow, [])) (lv2 := [(0, .ref 2), (1, .int l2), (2, .int l1), (3, .int l3)]) (pc' := 69) (X := K) (by decide +kernel) (ab_cv rfl rfl (conc_get (σ := τ1) (F2.s t0_2)) ⟨(Nat.le_of_ble_eq_true rfl), (Nat.le_of_ble_eq_true rfl)⟩ rfl) rfl (Nat.le_of_ble_eq_true rfl) rfl rfl (hY_no fun E => rfl) w (fun v7 τ5 F6 w => ?_)
            refine ab_fin.s3 (i := .goto 4) (k := 3) (t := 73) (st' := [.int v7]) (by decide +kernel) (ab_gto (by decide +kernel)) ?_
            exact ab_fin.q_ret (i := .ireturn) (k := 1) (v := some (.int v7)) (by decide +kernel) rfl F6 w
        · replace w := w.2 q
          exact ab_fin.q_thr hΦC (i := .new 99) (k := 3) (cls := "java/lang/IllegalArgumentException") (by decide +kernel) (by decide +kernel) (fun ix q => by cases q; rfl) d8 (Nat.le_of_ble_eq_true rfl) F2 w
    · replace w := w.2 q
      exact ab_fin.q_thr hΦC (i := .new 80) (k := 3) (cls := "java/lang/IndexOutOfBoundsException") (by decide +kernel) (by decide +kernel) (fun ix q => by cases q; rfl) d8 (Nat.le_of_ble_eq_true rfl) F2 w
theorem T_X12_nearer_0 {Z : zT} {d : Nat} {σ : Sg} {l1 : Int32} {l2 : Int32} {l3 : Int32} {l4 : Int32} {l5 : Int32} {K : kS} (F : FX ΦC σ.sh σ.r) (d8 : 8 ≤ d) (w : C_X5_isThere_0 Z d σ l1 (yI K fun v3 τ1 => (v3 = 0 → K (.inr ("java/lang/IndexOutOfBoundsException", τ1.sh.length)) (τ1.al (Sh.jnk 6))) ∧ (¬ v3 = 0 → C_X5_isThere_0 Z d τ1 l2 (yI K fun v6 τ4 => (¬ v6 = 0 → ib l1 122 ∧ (ib (τ4.i 11 l1.toNatClampNeg) 24 ∧ (C_X12_nearer_84 Z (d + 1) (((τ4.wi 99 0 l3).wi 99 1 l4).wi 99 2 l5) l1 l2 (τ4.i 31 ((τ4.i 11 l1.toNatClampNeg).toNatClampNeg)) 0 K))) ∧ (v6 = 0 → K (.inr ("java/lang/IndexOutOfBoundsException", τ4.sh.length)) (τ4.al (Sh.jnk 6))))))) : C_X12_nearer_0 Z (d + 1) σ l1 l2 l3 l4 l5 K := by
  unfold C_X12_nearer_0
  refine ab_fin.s2 (i := .aload_n 0) (k := 1) (pc' := 1) (lv' := [(0, .ref 0), (1, .int l1), (2, .int l2), (3, .int l3), (4, .int l4), (5, .int l5)]) (st' := [.ref 0]) (by decide +kernel) rfl rfl ?_
  refine ab_fin.q_rA (b := 1) (ix := 10) (ci := 13) (k := 0) (pc' := 4) (by decide +kernel) rfl (c_rA (F.s t0_0) rfl (rC_13_0 F t0_0)) rfl ?_
  refine ab_fin.q_rA (b := 10) (ix := 119) (ci := 12) (k := 1) (pc' := 7) (by decide +kernel) rfl (c_rA (F.s t0_1) rfl (rC_12_1 F t0_1)) rfl ?_
  refine ab_fin.s2 (i := .iload_n 1) (k := 1) (pc' := 8) (lv' := [(0, .ref 0), (1, .int l1), (2, .int l2), (3, .int l3), (4, .int l4), (5, .int l5)]) (st' := [.int l1, .ref 10]) (by decide +kernel) rfl rfl ?_
  refine ab_fin.q_yI (i := .invokevirtual 128) (k := 3) (y := 1281) (As := [.ref 10, .int l1]) (rest := []) (M' := (mX5_isThere, [])) (lv2 := [(0, .ref 10), (1, .int l1)]) (pc' := 11) (X := K) (by decide +kernel) (ab_cv rfl rfl (conc_get (σ := σ) (F.s t0_10)) ⟨(Nat.le_of_ble_eq_true rfl), (Nat.le_of_ble_eq_true rfl)⟩ rfl) rfl (Nat.le_of_ble_eq_true rfl) rfl rfl (hY_no fun E => rfl) w (fun v3 τ1 F2 w => ?_)
  refine ab_fin.br (c := v3 = 0) (i := .ifCond .eq 17) (off := 17) (t := 28) (pc' := 14) (r := []) (by decide +kernel) rfl (by decide +kernel) rfl (fun q => ?_) (fun q => ?_)
  · replace w := w.1 q
    exact ab_fin.q_thr hΦC (i := .new 80) (k := 3) (cls := "java/lang/IndexOutOfBoundsException") (by decide +kernel) (by decide +kernel) (fun ix q => by cases q; rfl) d8 (Nat.le_of_ble_eq_true rfl) F2 w
  · replace w := w.2 q
    refine ab_fin.s2 (i := .aload_n 0) (k := 1) (pc' := 15) (lv' := [(0, .ref 0), (1, .int l1), (2, .int l2), (3, .int l3), (4, .int l4), (5, .int l5)]) (st' := [.ref 0]) (by decide +kernel) rfl rfl ?_
    refine ab_fin.q_rA (b := 1) (ix := 10) (ci := 13) (k := 0) (pc' := 18) (by decide +kernel) rfl (c_rA (F2.s t0_0) rfl (rC_13_0 F2 t0_0)) rfl ?_
    refine ab_fin.q_rA (b := 10) (ix := 119) (ci := 12) (k := 1) (pc' := 21) (by decide +kernel) rfl (c_rA (F2.s t0_1) rfl (rC_12_1 F2 t0_1)) rfl ?_
    refine ab_fin.s2 (i := .iload_n 2) (k := 1) (pc' := 22) (lv' := [(0, .ref 0), (1, .int l1), (2, .int l2), (3, .int l3), (4, .int l4), (5, .int l5)]) (st' := [.int l2, .ref 10]) (by decide +kernel) rfl rfl ?_
    refine ab_fin.q_yI (i := .invokevirtual 128) (k := 3) (y := 1281) (As := [.ref 10, .int l2]) (rest := []) (M' := (mX5_isThere, [])) (lv2 := [(0, .ref 10), (1, .int l2)]) (pc' := 25) (X := K) (by decide +kernel) (ab_cv rfl rfl (conc_get (σ := τ1) (F2.s t0_10)) ⟨(Nat.le_of_ble_eq_true rfl), (Nat.le_of_ble_eq_true rfl)⟩ rfl) rfl (Nat.le_of_ble_eq_true rfl) rfl rfl (hY_no fun E => rfl) w (fun v6 τ4 F5 w => ?_)
    refine ab_fin.br (c := ¬ v6 = 0) (i := .ifCond .ne 11) (off := 11) (t := 36) (pc' := 28) (r := []) (by decide +kernel) rfl (by decide +kernel) rfl (fun q => ?_) (fun q => ?_)
    · replace w := w.1 q
      refine ab_fin.s2 (i := .aload_n 0) (k := 1) (pc' := 37) (lv' := [(0, .ref 0), (1, .int l1), (2, .int l2), (3, .int l3), (4, .int l4), (5, .int l5)]) (st' := [.ref 0]) (by decide +kernel) rfl rfl ?_
      refine ab_fin.q_rA (b := 99) (ix := 66) (ci := 13) (k := 7) (pc' := 40) (by decide +kernel) rfl (c_rA (F5.s t0_0) rfl (rC_13_7 F5 t0_0)) rfl ?_
      refine ab_fin.s1i (i := .iconst 0) (k := 1) (pc' := 41) (n := 0) (by decide +kernel) rfl (by decide +kernel) rfl ?_
      refine ab_fin.s2 (i := .iload_n 3) (k := 1) (pc' := 42) (lv' := [(0, .ref 0), (1, .int l1), (2, .int l2), (3, .int l3), (4, .int l4), (5, .int l5)]) (st' := [.int l3, .int 0, .ref 99]) (by decide +kernel) rfl rfl ?_
      refine ab_fin.q_sI (h1 := conc (τ4.wi 99 0 l3)) (pc' := 43) (by decide +kernel) (c_sI' (F5.s t0_99) (show ib (0 : Int32) 3 by decide +kernel) (by decide +kernel)) rfl ?_
      refine ab_fin.s2 (i := .aload_n 0) (k := 1) (pc' := 44) (lv' := [(0, .ref 0), (1, .int l1), (2, .int l2), (3, .int l3), (4, .int l4), (5, .int l5)]) (st' := [.ref 0]) (by decide +kernel) rfl rfl ?_
      refine ab_fin.q_rA (b := 99) (ix := 66) (ci := 13) (k := 7) (pc' := 47) (by decide +kernel) rfl (c_rA (F5.s t0_0) rfl (rC_13_7 F5 t0_0)) rfl ?_
      refine ab_fin.s1i (i := .iconst 1) (k := 1) (pc' := 48) (n := 1) (by decide +kernel) rfl (by decide +kernel) rfl ?_
      refine ab_fin.s2 (i := .iload 4) (k := 2) (pc' := 50) (lv' := [(0, .ref 0), (1, .int l1), (2, .int l2), (3, .int l3), (4, .int l4), (5, .int l5)]) (st' := [.int l4, .int 1, .ref 99]) (by decide +kernel) rfl rfl ?_
      refine ab_fin.q_sI (h1 := conc ((τ4.wi 99 0 l3).wi 99 1 l4)) (pc' := 51) (by decide +kernel) (c_sI' (F5.s t0_99) (show ib (1 : Int32) 3 by decide +kernel) (by decide +kernel)) rfl ?_
      refine ab_fin.s2 (i := .aload_n 0) (k := 1) (pc' := 52) (lv' := [(0, .ref 0), (1, .int l1), (2, .int l2), (3, .int l3), (4, .int l4), (5, .int l5)]) (st' := [.ref 0]) (by decide +kernel) rfl rfl ?_
      refine ab_fin.q_rA (b := 99) (ix := 66) (ci := 13) (k := 7) (pc' := 55) (by decide +kernel) rfl (c_rA (F5.s t0_0) rfl (rC_13_7 F5 t0_0)) rfl ?_
      refine ab_fin.s1i (i := .iconst 2) (k := 1) (pc' := 56) (n := 2) (by decide +kernel) rfl (by decide +kernel) rfl ?_
      refine ab_fin.s2 (i := .iload 5) (k := 2) (pc' := 58) (lv' := [(0, .ref 0), (1, .int l1), (2, .int l2), (3, .int l3), (4, .int l4), (5, .int l5)]) (st' := [.int l5, .int 2, .ref 99]) (by decide +kernel) rfl rfl ?_
      refine ab_fin.q_sI (h1 := conc (((τ4.wi 99 0 l3).wi 99 1 l4).wi 99 2 l5)) (pc' := 59) (by decide +kernel) (c_sI' (F5.s t0_99) (show ib (2 : Int32) 3 by decide +kernel) (by decide +kernel)) rfl ?_
      refine ab_fin.s2 (i := .aload_n 0) (k := 1) (pc' := 60) (lv' := [(0, .ref 0), (1, .int l1), (2, .int l2), (3, .int l3), (4, .int l4), (5, .int l5)]) (st' := [.ref 0]) (by decide +kernel) rfl rfl ?_
      refine ab_fin.q_rA (b := 1) (ix := 10) (ci := 13) (k := 0) (pc' := 63) (by decide +kernel) rfl (c_rA (F5.s t0_0) rfl (rC_13_0 F5 t0_0)) rfl ?_
      refine ab_fin.q_rA (b := 31) (ix := 177) (ci := 12) (k := 6) (pc' := 66) (by decide +kernel) rfl (c_rA (F5.s t0_1) rfl (rC_12_6 F5 t0_1)) rfl ?_
      refine ab_fin.s2 (i := .aload_n 0) (k := 1) (pc' := 67) (lv' := [(0, .ref 0), (1, .int l1), (2, .int l2), (3, .int l3), (4, .int l4), (5, .int l5)]) (st' := [.ref 0, .ref 31]) (by decide +kernel) rfl rfl ?_
      refine ab_fin.q_rA (b := 1) (ix := 10) (ci := 13) (k := 0) (pc' := 70) (by decide +kernel) rfl (c_rA (F5.s t0_0) rfl (rC_13_0 F5 t0_0)) rfl ?_
      refine ab_fin.q_rA (b := 10) (ix := 119) (ci := 12) (k := 1) (pc' := 73) (by decide +kernel) rfl (c_rA (F5.s t0_1) rfl (rC_12_1 F5 t0_1)) rfl ?_
      refine ab_fin.q_rA (b := 11) (ix := 132) (ci := 6) (k := 1) (pc' := 76) (by decide +kernel) rfl (c_rA (F5.s t0_10) rfl (rC_6_1 F5 t0_10)) rfl ?_
      refine ab_fin.s2 (i := .iload_n 1) (k := 1) (pc' := 77) (lv' := [(0, .ref 0), (1, .int l1), (2, .int l2), (3, .int l3), (4, .int l4), (5, .int l5)]) (st' := [.int l1, .ref 11, .ref 31]) (by decide +kernel) rfl rfl ?_
      obtain ⟨e7, w⟩ := w
      refine ab_fin.q_eI (x := (τ4.i 11 l1.toNatClampNeg)) (pc' := 78) (by decide +kernel) (c_eI' (F5.s t0_11) e7 rfl) rfl ?_
      obtain ⟨e8, w⟩ := w
      refine ab_fin.q_eI (x := (τ4.i 31 ((τ4.i 11 l1.toNatClampNeg).toNatClampNeg))) (pc' := 79) (by decide +kernel) (c_eI' (F5.s t0_31) e8 rfl) rfl ?_
      refine ab_fin.s2 (i := .istore 6) (k := 2) (pc' := 81) (lv' := [(6, .int (τ4.i 31 ((τ4.i 11 l1.toNatClampNeg).toNatClampNeg))), (0, .ref 0), (1, .int l1), (2, .int l2), (3, .int l3), (4, .int l4), (5, .int l5)]) (st' := []) (by decide +kernel) rfl rfl ?_
      refine ab_fin.s1i (i := .iconst 0) (k := 1) (pc' := 82) (n := 0) (by decide +kernel) rfl (by decide +kernel) rfl ?_
      refine ab_fin.s2 (i := .istore 7) (k := 2) (pc' := 84) (lv' := [(7, .int 0), (6, .int (τ4.i 31 ((τ4.i 11 l1.toNatClampNeg).toNatClampNeg))), (0, .ref 0), (1, .int l1), (2, .int l2), (3, .int l3), (4, .int l4), (5, .int l5)]) (st' := []) (by decide +kernel) rfl rfl ?_
      exact ab_fin.lv ⟨(List.forall_mem_cons.mpr ⟨(List.Mem.tail _ (List.Mem.tail _ (List.Mem.head _))), (List.forall_mem_cons.mpr ⟨(List.Mem.tail _ (List.Mem.tail _ (List.Mem.tail _ (List.Mem.head _)))), (List.forall_mem_cons.mpr ⟨(List.Mem.tail _ (List.Mem.tail _ (List.Mem.tail _ (List.Mem.tail _ (List.Mem.head _))))), (List.forall_mem_cons.mpr ⟨(List.Mem.tail _ (List.Mem.head _)), (List.forall_mem_cons.mpr ⟨(List.Mem.head _), (fun _ h => absurd h List.not_mem_nil)⟩)⟩)⟩)⟩)⟩), (show ([7, 6, 0, 1, 2, 3, 4, 5] : List Nat).Nodup from by decide)⟩ w
    · replace w := w.2 (Decidable.of_not_not q)
      exact ab_fin.q_thr hΦC (i := .new 80) (k := 3) (cls := "java/lang/IndexOutOfBoundsException") (by decide +kernel) (by decide +kernel) (fun ix q => by cases q; rfl) d8 (Nat.le_of_ble_eq_true rfl) F5 w
theorem T_X12_nearer_84 {Z : zT} {d : Nat} {σ : Sg} {l1 : Int32} {l2 : Int32} {l6 : Int32} {l7 : Int32} {K : kS} (F : FX ΦC σ.sh σ.r) (d8 : 8 ≤ d) (w : (l6 ≤ l7 → ib l1 122 ∧ (ib l2 122 ∧ (((σ.i 11 l1.toNatClampNeg) = (σ.i 11 l2.toNatClampNeg) → C_X11_fits_0 Z d σ l1 99 (yI K fun v5 τ3 => (v5 = 0 → K (.inr ("java/lang/IllegalArgumentException", τ3.sh.length)) (τ3.al (Sh.jnk 6))) ∧ (¬ v5 = 0 → C_X11_fits_0 Z d τ3 l2 99 (yI K fun v8 τ6 => (¬ v8 = 0 → C_X6_compare_0 Z d τ6 l1 l2 99 (yI K fun v11 τ9 => K (.inl (some (.int v11))) τ9)) ∧ (v8 = 0 → K (.inr ("java/lang/IllegalArgumentException", τ6.sh.length)) (τ6.al (Sh.jnk 6))))))) ∧ (¬ (σ.i 11 l1.toNatClampNeg) = (σ.i 11 l2.toNatClampNeg) → K (.inr ("java/lang/IllegalArgumentException", σ.sh.length)) (σ.al (Sh.jnk 6)))))) ∧ (¬ l6 ≤ l7 → ib l7 3 ∧ (C_X11_isKind_0 Z d σ (σ.i 99 l7.toNatClampNeg) (yI K fun v15 τ13 => (¬ v15 = 0 → C_X12_nearer_84 Z (d + 1) τ13 l1 l2 l6 (l7 + 1) K) ∧ (v15 = 0 → K (.inr ("java/lang/IndexOutOfBoundsException", τ13.sh.length)) (τ13.al (Sh.jnk 6))))))) : C_X12_nearer_84 Z (d + 1) σ l1 l2 l6 l7 K := by
  unfold C_X12_nearer_84
  refine ab_fin.s2 (i := .iload 7) (k := 2) (pc' := 86) (lv' := [(0, .ref 0), (1, .int l1), (2, .int l2), (6, .int l6), (7, .int l7)]) (st' := [.int l7]) (by decide +kernel) rfl rfl ?_
  refine ab_fin.s2 (i := .iload 6) (k := 2) (pc' := 88) (lv' := [(0, .ref 0), (1, .int l1), (2, .int l2), (6, .int l6), (7, .int l7)]) (st' := [.int l6, .int l7]) (by decide +kernel) rfl rfl ?_
  refine ab_fin.br (c := l6 ≤ l7) (i := .if_icmp .ge 34) (off := 34) (t := 122) (pc' := 91) (r := []) (by decide +kernel) rfl (by decide +kernel) rfl (fun q => ?_) (fun q => ?_)
  · replace w := w.1 q
    refine ab_fin.s2 (i := .aload_n 0) (k := 1) (pc' := 123) (lv' := [(0, .ref 0), (1, .int l1), (2, .int l2), (6, .int l6), (7, .int l7)]) (st' := [.ref 0]) (by decide +kernel) rfl rfl ?_
    refine ab_fin.q_rA (b := 1) (ix := 10) (ci := 13) (k := 0) (pc' := 126) (by decide +kernel) rfl (c_rA (F.s t0_0) rfl (rC_13_0 F t0_0)) rfl ?_
    refine ab_fin.q_rA (b := 10) (ix := 119) (ci := 12) (k := 1) (pc' := 129) (by decide +kernel) rfl (c_rA (F.s t0_1) rfl (rC_12_1 F t0_1)) rfl ?_
    refine ab_fin.q_rA (b := 11) (ix := 132) (ci := 6) (k := 1) (pc' := 132) (by decide +kernel) rfl (c_rA (F.s t0_10) rfl (rC_6_1 F t0_10)) rfl ?_
    refine ab_fin.s2 (i := .iload_n 1) (k := 1) (pc' := 133) (lv' := [(0, .ref 0), (1, .int l1), (2, .int l2), (6, .int l6), (7, .int l7)]) (st' := [.int l1, .ref 11]) (by decide +kernel) rfl rfl ?_
    obtain ⟨e1, w⟩ := w
    refine ab_fin.q_eI (x := (σ.i 11 l1.toNatClampNeg)) (pc' := 134) (by decide +kernel) (c_eI' (F.s t0_11) e1 rfl) rfl ?_
    refine ab_fin.s2 (i := .aload_n 0) (k := 1) (pc' := 135) (lv' := [(0, .ref 0), (1, .int l1), (2, .int l2), (6, .int l6), (7, .int l7)]) (st' := [.ref 0, .int (σ.i 11 l1.toNatClampNeg)]) (by decide +kernel) rfl rfl ?_
    refine ab_fin.q_rA (b := 1) (ix := 10) (ci := 13) (k := 0) (pc' := 138) (by decide +kernel) rfl (c_rA (F.s t0_0) rfl (rC_13_0 F t0_0)) rfl ?_
    refine ab_fin.q_rA (b := 10) (ix := 119) (ci := 12) (k := 1) (pc' := 141) (by decide +kernel) rfl (c_rA (F.s t0_1) rfl (rC_12_1 F t0_1)) rfl ?_
    refine ab_fin.q_rA (b := 11) (ix := 132) (ci := 6) (k := 1) (pc' := 144) (by decide +kernel) rfl (c_rA (F.s t0_10) rfl (rC_6_1 F t0_10)) rfl ?_
    refine ab_fin.s2 (i := .iload_n 2) (k := 1) (pc' := 145) (lv' := [(0, .ref 0), (1, .int l1), (2, .int l2), (6, .int l6), (7, .int l7)]) (st' := [.int l2, .ref 11, .int (σ.i 11 l1.toNatClampNeg)]) (by decide +kernel) rfl rfl ?_
    obtain ⟨e2, w⟩ := w
    refine ab_fin.q_eI (x := (σ.i 11 l2.toNatClampNeg)) (pc' := 146) (by decide +kernel) (c_eI' (F.s t0_11) e2 rfl) rfl ?_
    refine ab_fin.br (c := (σ.i 11 l1.toNatClampNeg) = (σ.i 11 l2.toNatClampNeg)) (i := .if_icmp .eq 11) (off := 11) (t := 157) (pc' := 149) (r := []) (by decide +kernel) rfl (by decide +kernel) rfl (fun q => ?_) (fun q => ?_)
    · replace w := w.1 q
      refine ab_fin.s2 (i := .aload_n 0) (k := 1) (pc' := 158) (lv' := [(0, .ref 0), (1, .int l1), (2, .int l2), (6, .int l6), (7, .int l7)]) (st' := [.ref 0]) (by decide +kernel) rfl rfl ?_
      refine ab_fin.q_rA (b := 1) (ix := 10) (ci := 13) (k := 0) (pc' := 161) (by decide +kernel) rfl (c_rA (F.s t0_0) rfl (rC_13_0 F t0_0)) rfl ?_
      refine ab_fin.s2 (i := .iload_n 1) (k := 1) (pc' := 162) (lv' := [(0, .ref 0), (1, .int l1), (2, .int l2), (6, .int l6), (7, .int l7)]) (st' := [.int l1, .ref 1]) (by decide +kernel) rfl rfl ?_
      refine ab_fin.s2 (i := .aload_n 0) (k := 1) (pc' := 163) (lv' := [(0, .ref 0), (1, .int l1), (2, .int l2), (6, .int l6), (7, .int l7)]) (st' := [.ref 0, .int l1, .ref 1]) (by decide +kernel) rfl rfl ?_
      refine ab_fin.q_rA (b := 99) (ix := 66) (ci := 13) (k := 7) (pc' := 166) (by decide +kernel) rfl (c_rA (F.s t0_0) rfl (rC_13_7 F t0_0)) rfl ?_
      refine ab_fin.q_yI (i := .invokevirtual 180) (k := 3) (y := 2829) (As := [.ref 1, .int l1, .ref 99]) (rest := []) (M' := (mX11_fits, [])) (lv2 := [(0, .ref 1), (1, .int l1), (2, .ref 99)]) (pc' := 169) (X := K) (by decide +kernel) (ab_cv rfl rfl (conc_get (σ := σ) (F.s t0_1)) ⟨(Nat.le_of_ble_eq_true rfl), (Nat.le_of_ble_eq_true rfl)⟩ rfl) rfl (Nat.le_of_ble_eq_true rfl) rfl rfl (hY_no fun E => rfl) w (fun v5 τ3 F4 w => ?_)
      refine ab_fin.br (c := v5 = 0) (i := .ifCond .eq 18) (off := 18) (t := 187) (pc' := 172) (r := []) (by decide +kernel) rfl (by decide +kernel) rfl (fun q => ?_) (fun q => ?_)
      · replace w := w.1 q
        exact ab_fin.q_thr hΦC (i := .new 99) (k := 3) (cls := "java/lang/IllegalArgumentException") (by decide +kernel) (by decide +kernel) (fun ix q => by cases q; rfl) d8 (Nat.le_of_ble_eq_true rfl) F4 w
      · replace w := w.2 q
        refine ab_fin.s2 (i := .aload_n 0) (k := 1) (pc' := 173) (lv' := [(0, .ref 0), (1, .int l1), (2, .int l2), (6, .int l6), (7, .int l7)]) (st' := [.ref 0]) (by decide +kernel) rfl rfl ?_
        refine ab_fin.q_rA (b := 1) (ix := 10) (ci := 13) (k := 0) (pc' := 176) (by decide +kernel) rfl (c_rA (F4.s t0_0) rfl (rC_13_0 F4 t0_0)) rfl ?_
        refine ab_fin.s2 (i := .iload_n 2) (k := 1) (pc' := 177) (lv' := [(0, .ref 0), (1, .int l1), (2, .int l2), (6, .int l6), (7, .int l7)]) (st' := [.int l2, .ref 1]) (by decide +kernel) rfl rfl ?_
        refine ab_fin.s2 (i := .aload_n 0) (k := 1) (pc' := 178) (lv' := [(0, .ref 0), (1, .int l1), (2, .int l2), (6, .int l6), (7, .int l7)]) (st' := [.ref 0, .int l2, .ref 1]) (by decide +kernel) rfl rfl ?_
        refine ab_fin.q_rA (b := 99) (ix := 66) (ci := 13) (k := 7) (pc' := 181) (by decide +kernel) rfl (c_rA (F4.s t0_0) rfl (rC_13_7 F4 t0_0)) rfl ?_
        refine ab_fin.q_yI (i := .invokevirtual 180) (k := 3) (y := 2829) (As := [.ref 1, .int l2, .ref 99]) (rest := []) (M' := (mX11_fits, [])) (lv2 := [(0, .ref 1), (1, .int l2), (2, .ref 99)]) (pc' := 184) (X := K) (by decide +kernel) (ab_cv rfl rfl (conc_get (σ := τ3) (F4.s t0_1)) ⟨(Nat.le_of_ble_eq_true rfl), (Nat.le_of_ble_eq_true rfl)⟩ rfl) rfl (Nat.le_of_ble_eq_true rfl) rfl rfl (hY_no fun E => rfl) w (fun v8 τ6 F7 w => ?_)
        refine ab_fin.br (c := ¬ v8 = 0) (i := .ifCond .ne 11) (off := 11) (t := 195) (pc' := 187) (r := []) (by decide +kernel) rfl (by decide +kernel) rfl (fun q => ?_) (fun q => ?_)
        · replace w := w.1 q
          refine ab_fin.s2 (i := .aload_n 0) (k := 1) (pc' := 196) (lv' := [(0, .ref 0), (1, .int l1), (2, .int l2), (6, .int l6), (7, .int l7)]) (st' := [.ref 0]) (by decide +kernel) rfl rfl ?_
          refine ab_fin.q_rA (b := 46) (ix := 28) (ci := 13) (k := 2) (pc' := 199) (by decide +kernel) rfl (c_rA (F7.s t0_0) rfl (rC_13_2 F7 t0_0)) rfl ?_
          refine ab_fin.s2 (i := .iload_n 1) (k := 1) (pc' := 200) (lv' := [(0, .ref 0), (1, .int l1), (2, .int l2), (6, .int l6), (7, .int l7)]) (st' := [.int l1, .ref 46]) (by decide +kernel) rfl rfl ?_
          refine ab_fin.s2 (i := .iload_n 2) (k := 1) (pc' := 201) (lv' := [(0, .ref 0), (1, .int l1), (2, .int l2), (6, .int l6), (7, .int l7)]) (st' := [.int l2, .int l1, .ref 46]) (by decide +kernel) rfl rfl ?_
          refine ab_fin.s2 (i := .aload_n 0) (k := 1) (pc' := 202) (lv' := [(0, .ref 0), (1, .int l1), (2, .int l2), (6, .int l6), (7, .int l7)]) (st' := [.ref 0, .int l2, .int l1, .ref 46]) (by decide +kernel) rfl rfl ?_
          refine ab_fin.q_rA (b := 99) (ix := 66) (ci := 13) (k := 7) (pc' := 205) (by decide +kernel) rfl (c_rA (F7.s t0_0) rfl (rC_13_7 F7 t0_0)) rfl ?_
          refine ab_fin.q_yI (i := .invokevirtual 184) (k := 3) (y := 1538) (As := [.ref 46, .int l1, .int l2, .ref 99]) (rest := []) (M' := (mX6_compare, [])) (lv2 := [(0, .ref 46), (1, .int l1), (2, .int l2), (3, .ref 99)]) (pc' := 208) (X := K) (by decide +kernel) (ab_cv rfl rfl (conc_get (σ := τ6) (F7.s t0_46)) ⟨(Nat.le_of_ble_eq_true rfl), (Nat.le_of_ble_eq_true rfl)⟩ rfl) rfl (Nat.le_of_ble_eq_true rfl) rfl rfl (hY_no fun E => rfl) w (fun v11 τ9 F10 w => ?_)
          exact ab_fin.q_ret (i := .ireturn) (k := 1) (v := some (.int v11)) (by decide +kernel) rfl F10 w
        · replace w := w.2 (Decidable.of_not_not q)
          exact ab_fin.q_thr hΦC (i := .new 99) (k := 3) (cls := "java/lang/IllegalArgumentException") (by decide +kernel) (by decide +kernel) (fun ix q => by cases q; rfl) d8 (Nat.le_of_ble_eq_true rfl) F7 w
    · replace w := w.2 q
      exact ab_fin.q_thr hΦC (i := .new 99) (k := 3) (cls := "java/lang/IllegalArgumentException") (by decide +kernel) (by decide +kernel) (fun ix q => by cases q; rfl) d8 (Nat.le_of_ble_eq_true rfl) F w
  · replace w := w.2 q
    refine ab_fin.s2 (i := .aload_n 0) (k := 1) (pc' := 92) (lv' := [(0, .ref 0), (1, .int l1), (2, .int l2), (6, .int l6), (7, .int l7)]) (st' := [.ref 0]) (by decide +kernel) rfl rfl ?_
    refine ab_fin.q_rA (b := 1) (ix := 10) (ci := 13) (k := 0) (pc' := 95) (by decide +kernel) rfl (c_rA (F.s t0_0) rfl (rC_13_0 F t0_0)) rfl ?_
    refine ab_fin.s2 (i := .aload_n 0) (k := 1) (pc' := 96) (lv' := [(0, .ref 0), (1, .int l1), (2, .int l2), (6, .int l6), (7, .int l7)]) (st' := [.ref 0, .ref 1]) (by decide +kernel) rfl rfl ?_
    refine ab_fin.q_rA (b := 99) (ix := 66) (ci := 13) (k := 7) (pc' := 99) (by decide +kernel) rfl (c_rA (F.s t0_0) rfl (rC_13_7 F t0_0)) rfl ?_
    refine ab_fin.s2 (i := .iload 7) (k := 2) (pc' := 101) (lv' := [(0, .ref 0), (1, .int l1), (2, .int l2), (6, .int l6), (7, .int l7)]) (st' := [.int l7, .ref 99, .ref 1]) (by decide +kernel) rfl rfl ?_
    obtain ⟨e12, w⟩ := w
    refine ab_fin.q_eI (x := (σ.i 99 l7.toNatClampNeg)) (pc' := 102) (by decide +kernel) (c_eI' (F.s t0_99) e12 rfl) rfl ?_
    refine ab_fin.q_yI (i := .invokevirtual 157) (k := 3) (y := 2817) (As := [.ref 1, .int (σ.i 99 l7.toNatClampNeg)]) (rest := []) (M' := (mX11_isKind, [])) (lv2 := [(0, .ref 1), (1, .int (σ.i 99 l7.toNatClampNeg))]) (pc' := 105) (X := K) (by decide +kernel) (ab_cv rfl rfl (conc_get (σ := σ) (F.s t0_1)) ⟨(Nat.le_of_ble_eq_true rfl), (Nat.le_of_ble_eq_true rfl)⟩ rfl) rfl (Nat.le_of_ble_eq_true rfl) rfl rfl (hY_no fun E => rfl) w (fun v15 τ13 F14 w => ?_)
    refine ab_fin.br (c := ¬ v15 = 0) (i := .ifCond .ne 11) (off := 11) (t := 116) (pc' := 108) (r := []) (by decide +kernel) rfl (by decide +kernel) rfl (fun q => ?_) (fun q => ?_)
    · replace w := w.1 q
      refine ab_fin.q_inc (n := 7) (c := 1) (pc' := 119) (lv' := [(7, .int (l7 + 1)), (0, .ref 0), (1, .int l1), (2, .int l2), (6, .int l6)]) (by decide +kernel) (by decide) rfl rfl rfl rfl ?_
      refine ab_fin.s3 (i := .goto (-35)) (k := 3) (t := 84) (st' := []) (by decide +kernel) (ab_gto (by decide +kernel)) ?_
      exact ab_fin.lv ⟨(List.forall_mem_cons.mpr ⟨(List.Mem.tail _ (List.Mem.head _)), (List.forall_mem_cons.mpr ⟨(List.Mem.tail _ (List.Mem.tail _ (List.Mem.head _))), (List.forall_mem_cons.mpr ⟨(List.Mem.tail _ (List.Mem.tail _ (List.Mem.tail _ (List.Mem.head _)))), (List.forall_mem_cons.mpr ⟨(List.Mem.tail _ (List.Mem.tail _ (List.Mem.tail _ (List.Mem.tail _ (List.Mem.head _))))), (List.forall_mem_cons.mpr ⟨(List.Mem.head _), (fun _ h => absurd h List.not_mem_nil)⟩)⟩)⟩)⟩)⟩), (show ([7, 0, 1, 2, 6] : List Nat).Nodup from by decide)⟩ w
    · replace w := w.2 (Decidable.of_not_not q)
      exact ab_fin.q_thr hΦC (i := .new 80) (k := 3) (cls := "java/lang/IndexOutOfBoundsException") (by decide +kernel) (by decide +kernel) (fun ix q => by cases q; rfl) d8 (Nat.le_of_ble_eq_true rfl) F14 w
theorem T_X12_call_0 {Z : zT} {d : Nat} {σ : Sg} {l1 : Int32} {l2 : Int32} {K : kS} (F : FX ΦC σ.sh σ.r) (d8 : 8 ≤ d) (w : (l1 < 0 → K (.inr ("java/lang/IndexOutOfBoundsException", σ.sh.length)) (σ.al (Sh.jnk 6))) ∧ (¬ l1 < 0 → (l1 < (σ.i 28 1) → (l2 = 0 → C_X11_methodsOf_0 Z d σ l1 (yI K fun v3 τ1 => K (.inl (some (.int v3))) τ1)) ∧ (l2 = 1 → C_X3_countLists_0 Z d σ l1 (yI K fun v6 τ4 => K (.inl (some (.int v6))) τ4)) ∧ (l2 = 2 → C_X3_countCells_0 Z d σ l1 (yI K fun v9 τ7 => K (.inl (some (.int v9))) τ7)) ∧ (l2 = 3 → C_X3_countPressed_0 Z d σ l1 (yI K fun v12 τ10 => K (.inl (some (.int v12))) τ10)) ∧ (l2 = 4 → C_X3_countNodes_0 Z d σ l1 (yI K fun v15 τ13 => K (.inl (some (.int v15))) τ13)) ∧ (l2 = 5 → C_X10_judge_0 Z d σ l1 (yI K fun v18 τ16 => K (.inl (some (.int v18))) τ16)) ∧ (l2 = 6 → C_X10_judge_0 Z d σ l1 (yI K fun v21 τ19 => ib (((l1 * (3 : Int32)) + l2) - (6 : Int32)) 72 ∧ (K (.inl (some (.int (τ19.i 70 ((((l1 * (3 : Int32)) + l2) - (6 : Int32)).toNatClampNeg))))) τ19))) ∧ (l2 = 7 → C_X10_judge_0 Z d σ l1 (yI K fun v25 τ23 => ib (((l1 * (3 : Int32)) + l2) - (6 : Int32)) 72 ∧ (K (.inl (some (.int (τ23.i 70 ((((l1 * (3 : Int32)) + l2) - (6 : Int32)).toNatClampNeg))))) τ23))) ∧ (l2 = 8 → C_X10_judge_0 Z d σ l1 (yI K fun v29 τ27 => ib (((l1 * (3 : Int32)) + l2) - (6 : Int32)) 72 ∧ (K (.inl (some (.int (τ27.i 70 ((((l1 * (3 : Int32)) + l2) - (6 : Int32)).toNatClampNeg))))) τ27))) ∧ (¬ l2 = 0 → ¬ l2 = 1 → ¬ l2 = 2 → ¬ l2 = 3 → ¬ l2 = 4 → ¬ l2 = 5 → ¬ l2 = 6 → ¬ l2 = 7 → ¬ l2 = 8 → K (.inr ("java/lang/IllegalArgumentException", σ.sh.length)) (σ.al (Sh.jnk 6)))) ∧ (¬ l1 < (σ.i 28 1) → K (.inr ("java/lang/IndexOutOfBoundsException", σ.sh.length)) (σ.al (Sh.jnk 6))))) : C_X12_call_0 Z (d + 1) σ l1 l2 K := by
  unfold C_X12_call_0
  refine ab_fin.s2 (i := .iload_n 1) (k := 1) (pc' := 1) (lv' := [(0, .ref 0), (1, .int l1), (2, .int l2)]) (st' := [.int l1]) (by decide +kernel) rfl rfl ?_
  refine ab_fin.br (c := l1 < 0) (i := .ifCond .lt 16) (off := 16) (t := 17) (pc' := 4) (r := []) (by decide +kernel) rfl (by decide +kernel) rfl (fun q => ?_) (fun q => ?_)
  · replace w := w.1 q
    exact ab_fin.q_thr hΦC (i := .new 80) (k := 3) (cls := "java/lang/IndexOutOfBoundsException") (by decide +kernel) (by decide +kernel) (fun ix q => by cases q; rfl) d8 (Nat.le_of_ble_eq_true rfl) F w
  · replace w := w.2 q
    refine ab_fin.s2 (i := .iload_n 1) (k := 1) (pc' := 5) (lv' := [(0, .ref 0), (1, .int l1), (2, .int l2)]) (st' := [.int l1]) (by decide +kernel) rfl rfl ?_
    refine ab_fin.s2 (i := .aload_n 0) (k := 1) (pc' := 6) (lv' := [(0, .ref 0), (1, .int l1), (2, .int l2)]) (st' := [.ref 0, .int l1]) (by decide +kernel) rfl rfl ?_
    refine ab_fin.q_rA (b := 1) (ix := 10) (ci := 13) (k := 0) (pc' := 9) (by decide +kernel) rfl (c_rA (F.s t0_0) rfl (rC_13_0 F t0_0)) rfl ?_
    refine ab_fin.q_rA (b := 28) (ix := 148) (ci := 12) (k := 3) (pc' := 12) (by decide +kernel) rfl (c_rA (F.s t0_1) rfl (rC_12_3 F t0_1)) rfl ?_
    refine ab_fin.s1i (i := .iconst 1) (k := 1) (pc' := 13) (n := 1) (by decide +kernel) rfl (by decide +kernel) rfl ?_
    refine ab_fin.q_eI (x := (σ.i 28 1)) (pc' := 14) (by decide +kernel) (c_eI' (F.s t0_28) (show ib (1 : Int32) 4 by decide +kernel) (by decide +kernel)) rfl ?_
    refine ab_fin.br (c := l1 < (σ.i 28 1)) (i := .if_icmp .lt 11) (off := 11) (t := 25) (pc' := 17) (r := []) (by decide +kernel) rfl (by decide +kernel) rfl (fun q => ?_) (fun q => ?_)
    · replace w := w.1 q
      refine ab_fin.s2 (i := .iload_n 2) (k := 1) (pc' := 26) (lv' := [(0, .ref 0), (1, .int l1), (2, .int l2)]) (st' := [.int l2]) (by decide +kernel) rfl rfl ?_
      by_cases q0 : l2 = 0
      · refine ab_fin.s3 (i := .tableswitch 130 0 8 #[50, 59, 68, 77, 86, 95, 104, 104, 104]) (k := 50) (t := 76) (st' := []) (by decide +kernel) (by rw [q0]; exact ab_swI (off := 50) (by decide +kernel) (by decide +kernel) (by decide +kernel)) ?_
        replace w := w.1 q0
        refine ab_fin.s2 (i := .aload_n 0) (k := 1) (pc' := 77) (lv' := [(0, .ref 0), (1, .int l1), (2, .int l2)]) (st' := [.ref 0]) (by decide +kernel) rfl rfl ?_
        refine ab_fin.q_rA (b := 1) (ix := 10) (ci := 13) (k := 0) (pc' := 80) (by decide +kernel) rfl (c_rA (F.s t0_0) rfl (rC_13_0 F t0_0)) rfl ?_
        refine ab_fin.s2 (i := .iload_n 1) (k := 1) (pc' := 81) (lv' := [(0, .ref 0), (1, .int l1), (2, .int l2)]) (st' := [.int l1, .ref 1]) (by decide +kernel) rfl rfl ?_
        refine ab_fin.q_yI (i := .invokevirtual 188) (k := 3) (y := 2827) (As := [.ref 1, .int l1]) (rest := []) (M' := (mX11_methodsOf, [])) (lv2 := [(0, .ref 1), (1, .int l1)]) (pc' := 84) (X := K) (by decide +kernel) (ab_cv rfl rfl (conc_get (σ := σ) (F.s t0_1)) ⟨(Nat.le_of_ble_eq_true rfl), (Nat.le_of_ble_eq_true rfl)⟩ rfl) rfl (Nat.le_of_ble_eq_true rfl) rfl rfl (hY_no fun E => rfl) w (fun v3 τ1 F2 w => ?_)
        exact ab_fin.q_ret (i := .ireturn) (k := 1) (v := some (.int v3)) (by decide +kernel) rfl F2 w
      by_cases q1 : l2 = 1
      · refine ab_fin.s3 (i := .tableswitch 130 0 8 #[50, 59, 68, 77, 86, 95, 104, 104, 104]) (k := 50) (t := 85) (st' := []) (by decide +kernel) (by rw [q1]; exact ab_swI (off := 59) (by decide +kernel) (by decide +kernel) (by decide +kernel)) ?_
        replace w := w.2.1 q1
        refine ab_fin.s2 (i := .aload_n 0) (k := 1) (pc' := 86) (lv' := [(0, .ref 0), (1, .int l1), (2, .int l2)]) (st' := [.ref 0]) (by decide +kernel) rfl rfl ?_
        refine ab_fin.q_rA (b := 56) (ix := 35) (ci := 13) (k := 3) (pc' := 89) (by decide +kernel) rfl (c_rA (F.s t0_0) rfl (rC_13_3 F t0_0)) rfl ?_
        refine ab_fin.s2 (i := .iload_n 1) (k := 1) (pc' := 90) (lv' := [(0, .ref 0), (1, .int l1), (2, .int l2)]) (st' := [.int l1, .ref 56]) (by decide +kernel) rfl rfl ?_
        refine ab_fin.q_yI (i := .invokevirtual 192) (k := 3) (y := 769) (As := [.ref 56, .int l1]) (rest := []) (M' := (mX3_countLists, [])) (lv2 := [(0, .ref 56), (1, .int l1)]) (pc' := 93) (X := K) (by decide +kernel) (ab_cv rfl rfl (conc_get (σ := σ) (F.s t0_56)) ⟨(Nat.le_of_ble_eq_true rfl), (Nat.le_of_ble_eq_true rfl)⟩ rfl) rfl (Nat.le_of_ble_eq_true rfl) rfl rfl (hY_no fun E => rfl) w (fun v6 τ4 F5 w => ?_)
        exact ab_fin.q_ret (i := .ireturn) (k := 1) (v := some (.int v6)) (by decide +kernel) rfl F5 w
      by_cases q2 : l2 = 2
      · refine ab_fin.s3 (i := .tableswitch 130 0 8 #[50, 59, 68, 77, 86, 95, 104, 104, 104]) (k := 50) (t := 94) (st' := []) (by decide +kernel) (by rw [q2]; exact ab_swI (off := 68) (by decide +kernel) (by decide +kernel) (by decide +kernel)) ?_
        replace w := w.2.2.1 q2
        refine ab_fin.s2 (i := .aload_n 0) (k := 1) (pc' := 95) (lv' := [(0, .ref 0), (1, .int l1), (2, .int l2)]) (st' := [.ref 0]) (by decide +kernel) rfl rfl ?_
        refine ab_fin.q_rA (b := 56) (ix := 35) (ci := 13) (k := 3) (pc' := 98) (by decide +kernel) rfl (c_rA (F.s t0_0) rfl (rC_13_3 F t0_0)) rfl ?_
        refine ab_fin.s2 (i := .iload_n 1) (k := 1) (pc' := 99) (lv' := [(0, .ref 0), (1, .int l1), (2, .int l2)]) (st' := [.int l1, .ref 56]) (by decide +kernel) rfl rfl ?_
        refine ab_fin.q_yI (i := .invokevirtual 195) (k := 3) (y := 770) (As := [.ref 56, .int l1]) (rest := []) (M' := (mX3_countCells, [])) (lv2 := [(0, .ref 56), (1, .int l1)]) (pc' := 102) (X := K) (by decide +kernel) (ab_cv rfl rfl (conc_get (σ := σ) (F.s t0_56)) ⟨(Nat.le_of_ble_eq_true rfl), (Nat.le_of_ble_eq_true rfl)⟩ rfl) rfl (Nat.le_of_ble_eq_true rfl) rfl rfl (hY_no fun E => rfl) w (fun v9 τ7 F8 w => ?_)
        exact ab_fin.q_ret (i := .ireturn) (k := 1) (v := some (.int v9)) (by decide +kernel) rfl F8 w
      by_cases q3 : l2 = 3
      · refine ab_fin.s3 (i := .tableswitch 130 0 8 #[50, 59, 68, 77, 86, 95, 104, 104, 104]) (k := 50) (t := 103) (st' := []) (by decide +kernel) (by rw [q3]; exact ab_swI (off := 77) (by decide +kernel) (by decide +kernel) (by decide +kernel)) ?_
        replace w := w.2.2.2.1 q3
        refine ab_fin.s2 (i := .aload_n 0) (k := 1) (pc' := 104) (lv' := [(0, .ref 0), (1, .int l1), (2, .int l2)]) (st' := [.ref 0]) (by decide +kernel) rfl rfl ?_
        refine ab_fin.q_rA (b := 56) (ix := 35) (ci := 13) (k := 3) (pc' := 107) (by decide +kernel) rfl (c_rA (F.s t0_0) rfl (rC_13_3 F t0_0)) rfl ?_
        refine ab_fin.s2 (i := .iload_n 1) (k := 1) (pc' := 108) (lv' := [(0, .ref 0), (1, .int l1), (2, .int l2)]) (st' := [.int l1, .ref 56]) (by decide +kernel) rfl rfl ?_
        refine ab_fin.q_yI (i := .invokevirtual 198) (k := 3) (y := 771) (As := [.ref 56, .int l1]) (rest := []) (M' := (mX3_countPressed, [])) (lv2 := [(0, .ref 56), (1, .int l1)]) (pc' := 111) (X := K) (by decide +kernel) (ab_cv rfl rfl (conc_get (σ := σ) (F.s t0_56)) ⟨(Nat.le_of_ble_eq_true rfl), (Nat.le_of_ble_eq_true rfl)⟩ rfl) rfl (Nat.le_of_ble_eq_true rfl) rfl rfl (hY_no fun E => rfl) w (fun v12 τ10 F11 w => ?_)
        exact ab_fin.q_ret (i := .ireturn) (k := 1) (v := some (.int v12)) (by decide +kernel) rfl F11 w
      by_cases q4 : l2 = 4
      · refine ab_fin.s3 (i := .tableswitch 130 0 8 #[50, 59, 68, 77, 86, 95, 104, 104, 104]) (k := 50) (t := 112) (st' := []) (by decide +kernel) (by rw [q4]; exact ab_swI (off := 86) (by decide +kernel) (by decide +kernel) (by decide +kernel)) ?_
        replace w := w.2.2.2.2.1 q4
        refine ab_fin.s2 (i := .aload_n 0) (k := 1) (pc' := 113) (lv' := [(0, .ref 0), (1, .int l1), (2, .int l2)]) (st' := [.ref 0]) (by decide +kernel) rfl rfl ?_
        refine ab_fin.q_rA (b := 56) (ix := 35) (ci := 13) (k := 3) (pc' := 116) (by decide +kernel) rfl (c_rA (F.s t0_0) rfl (rC_13_3 F t0_0)) rfl ?_
        refine ab_fin.s2 (i := .iload_n 1) (k := 1) (pc' := 117) (lv' := [(0, .ref 0), (1, .int l1), (2, .int l2)]) (st' := [.int l1, .ref 56]) (by decide +kernel) rfl rfl ?_
        refine ab_fin.q_yI (i := .invokevirtual 201) (k := 3) (y := 772) (As := [.ref 56, .int l1]) (rest := []) (M' := (mX3_countNodes, [])) (lv2 := [(0, .ref 56), (1, .int l1)]) (pc' := 120) (X := K) (by decide +kernel) (ab_cv rfl rfl (conc_get (σ := σ) (F.s t0_56)) ⟨(Nat.le_of_ble_eq_true rfl), (Nat.le_of_ble_eq_true rfl)⟩ rfl) rfl (Nat.le_of_ble_eq_true rfl) rfl rfl (hY_no fun E => rfl) w (fun v15 τ13 F14 w => ?_)
        exact ab_fin.q_ret (i := .ireturn) (k := 1) (v := some (.int v15)) (by decide +kernel) rfl F14 w
      by_cases q5 : l2 = 5
      · refine ab_fin.s3 (i := .tableswitch 130 0 8 #[50, 59, 68, 77, 86, 95, 104, 104, 104]) (k := 50) (t := 121) (st' := []) (by decide +kernel) (by rw [q5]; exact ab_swI (off := 95) (by decide +kernel) (by decide +kernel) (by decide +kernel)) ?_
        replace w := w.2.2.2.2.2.1 q5
        refine ab_fin.s2 (i := .aload_n 0) (k := 1) (pc' := 122) (lv' := [(0, .ref 0), (1, .int l1), (2, .int l2)]) (st' := [.ref 0]) (by decide +kernel) rfl rfl ?_
        refine ab_fin.q_rA (b := 67) (ix := 44) (ci := 13) (k := 4) (pc' := 125) (by decide +kernel) rfl (c_rA (F.s t0_0) rfl (rC_13_4 F t0_0)) rfl ?_
        refine ab_fin.s2 (i := .iload_n 1) (k := 1) (pc' := 126) (lv' := [(0, .ref 0), (1, .int l1), (2, .int l2)]) (st' := [.int l1, .ref 67]) (by decide +kernel) rfl rfl ?_
        refine ab_fin.q_yI (i := .invokevirtual 204) (k := 3) (y := 2561) (As := [.ref 67, .int l1]) (rest := []) (M' := (mX10_judge, [])) (lv2 := [(0, .ref 67), (1, .int l1)]) (pc' := 129) (X := K) (by decide +kernel) (ab_cv rfl rfl (conc_get (σ := σ) (F.s t0_67)) ⟨(Nat.le_of_ble_eq_true rfl), (Nat.le_of_ble_eq_true rfl)⟩ rfl) rfl (Nat.le_of_ble_eq_true rfl) rfl rfl (hY_no fun E => rfl) w (fun v18 τ16 F17 w => ?_)
        exact ab_fin.q_ret (i := .ireturn) (k := 1) (v := some (.int v18)) (by decide +kernel) rfl F17 w
      by_cases q6 : l2 = 6
      · refine ab_fin.s3 (i := .tableswitch 130 0 8 #[50, 59, 68, 77, 86, 95, 104, 104, 104]) (k := 50) (t := 130) (st' := []) (by decide +kernel) (by rw [q6]; exact ab_swI (off := 104) (by decide +kernel) (by decide +kernel) (by decide +kernel)) ?_
        replace w := w.2.2.2.2.2.2.1 q6
        refine ab_fin.s2 (i := .aload_n 0) (k := 1) (pc' := 131) (lv' := [(0, .ref 0), (1, .int l1), (2, .int l2)]) (st' := [.ref 0]) (by decide +kernel) rfl rfl ?_
        refine ab_fin.q_rA (b := 67) (ix := 44) (ci := 13) (k := 4) (pc' := 134) (by decide +kernel) rfl (c_rA (F.s t0_0) rfl (rC_13_4 F t0_0)) rfl ?_
        refine ab_fin.s2 (i := .iload_n 1) (k := 1) (pc' := 135) (lv' := [(0, .ref 0), (1, .int l1), (2, .int l2)]) (st' := [.int l1, .ref 67]) (by decide +kernel) rfl rfl ?_
        refine ab_fin.q_yI (i := .invokevirtual 204) (k := 3) (y := 2561) (As := [.ref 67, .int l1]) (rest := []) (M' := (mX10_judge, [])) (lv2 := [(0, .ref 67), (1, .int l1)]) (pc' := 138) (X := K) (by decide +kernel) (ab_cv rfl rfl (conc_get (σ := σ) (F.s t0_67)) ⟨(Nat.le_of_ble_eq_true rfl), (Nat.le_of_ble_eq_true rfl)⟩ rfl) rfl (Nat.le_of_ble_eq_true rfl) rfl rfl (hY_no fun E => rfl) w (fun v21 τ19 F20 w => ?_)
        refine ab_fin.s1 (i := .pop) (k := 1) (pc' := 139) (st' := []) (by decide +kernel) rfl rfl ?_
        refine ab_fin.s2 (i := .aload_n 0) (k := 1) (pc' := 140) (lv' := [(0, .ref 0), (1, .int l1), (2, .int l2)]) (st' := [.ref 0]) (by decide +kernel) rfl rfl ?_
        refine ab_fin.q_rA (b := 67) (ix := 44) (ci := 13) (k := 4) (pc' := 143) (by decide +kernel) rfl (c_rA (F20.s t0_0) rfl (rC_13_4 F20 t0_0)) rfl ?_
        refine ab_fin.q_rA (b := 70) (ix := 207) (ci := 11) (k := 5) (pc' := 146) (by decide +kernel) rfl (c_rA (F20.s t0_67) rfl (rC_11_5 F20 t0_67)) rfl ?_
        refine ab_fin.s2 (i := .iload_n 1) (k := 1) (pc' := 147) (lv' := [(0, .ref 0), (1, .int l1), (2, .int l2)]) (st' := [.int l1, .ref 70]) (by decide +kernel) rfl rfl ?_
        refine ab_fin.s1i (i := .iconst 3) (k := 1) (pc' := 148) (n := 3) (by decide +kernel) rfl (by decide +kernel) rfl ?_
        refine ab_fin.s1 (i := .imul) (k := 1) (pc' := 149) (st' := [.int (l1 * (3 : Int32)), .ref 70]) (by decide +kernel) rfl rfl ?_
        refine ab_fin.s2 (i := .iload_n 2) (k := 1) (pc' := 150) (lv' := [(0, .ref 0), (1, .int l1), (2, .int l2)]) (st' := [.int l2, .int (l1 * (3 : Int32)), .ref 70]) (by decide +kernel) rfl rfl ?_
        refine ab_fin.s1 (i := .iadd) (k := 1) (pc' := 151) (st' := [.int ((l1 * (3 : Int32)) + l2), .ref 70]) (by decide +kernel) rfl rfl ?_
        refine ab_fin.s1i (i := .bipush 6) (k := 2) (pc' := 153) (n := 6) (by decide +kernel) rfl (by decide +kernel) rfl ?_
        refine ab_fin.s1 (i := .isub) (k := 1) (pc' := 154) (st' := [.int (((l1 * (3 : Int32)) + l2) - (6 : Int32)), .ref 70]) (by decide +kernel) rfl rfl ?_
        obtain ⟨e22, w⟩ := w
        refine ab_fin.q_eI (x := (τ19.i 70 ((((l1 * (3 : Int32)) + l2) - (6 : Int32)).toNatClampNeg))) (pc' := 155) (by decide +kernel) (c_eI' (F20.s t0_70) e22 rfl) rfl ?_
        exact ab_fin.q_ret (i := .ireturn) (k := 1) (v := some (.int (τ19.i 70 ((((l1 * (3 : Int32)) + l2) - (6 : Int32)).toNatClampNeg)))) (by decide +kernel) rfl F20 w
      by_cases q7 : l2 = 7
      · refine ab_fin.s3 (i := .tableswitch 130 0 8 #[50, 59, 68, 77, 86, 95, 104, 104, 104]) (k := 50) (t := 130) (st' := []) (by decide +kernel) (by rw [q7]; exact ab_swI (off := 104) (by decide +kernel) (by decide +kernel) (by decide +kernel)) ?_
        replace w := w.2.2.2.2.2.2.2.1 q7
        refine ab_fin.s2 (i := .aload_n 0) (k := 1) (pc' := 131) (lv' := [(0, .ref 0), (1, .int l1), (2, .int l2)]) (st' := [.ref 0]) (by decide +kernel) rfl rfl ?_
        refine ab_fin.q_rA (b := 67) (ix := 44) (ci := 13) (k := 4) (pc' := 134) (by decide +kernel) rfl (c_rA (F.s t0_0) rfl (rC_13_4 F t0_0)) rfl ?_
        refine ab_fin.s2 (i := .iload_n 1) (k := 1) (pc' := 135) (lv' := [(0, .ref 0), (1, .int l1), (2, .int l2)]) (st' := [.int l1, .ref 67]) (by decide +kernel) rfl rfl ?_
        refine ab_fin.q_yI (i := .invokevirtual 204) (k := 3) (y := 2561) (As := [.ref 67, .int l1]) (rest := []) (M' := (mX10_judge, [])) (lv2 := [(0, .ref 67), (1, .int l1)]) (pc' := 138) (X := K) (by decide +kernel) (ab_cv rfl rfl (conc_get (σ := σ) (F.s t0_67)) ⟨(Nat.le_of_ble_eq_true rfl), (Nat.le_of_ble_eq_true rfl)⟩ rfl) rfl (Nat.le_of_ble_eq_true rfl) rfl rfl (hY_no fun E => rfl) w (fun v25 τ23 F24 w => ?_)
        refine ab_fin.s1 (i := .pop) (k := 1) (pc' := 139) (st' := []) (by decide +kernel) rfl rfl ?_
        refine ab_fin.s2 (i := .aload_n 0) (k := 1) (pc' := 140) (lv' := [(0, .ref 0), (1, .int l1), (2, .int l2)]) (st' := [.ref 0]) (by decide +kernel) rfl rfl ?_
        refine ab_fin.q_rA (b := 67) (ix := 44) (ci := 13) (k := 4) (pc' := 143) (by decide +kernel) rfl (c_rA (F24.s t0_0) rfl (rC_13_4 F24 t0_0)) rfl ?_
        refine ab_fin.q_rA (b := 70) (ix := 207) (ci := 11) (k := 5) (pc' := 146) (by decide +kernel) rfl (c_rA (F24.s t0_67) rfl (rC_11_5 F24 t0_67)) rfl ?_
        refine ab_fin.s2 (i := .iload_n 1) (k := 1) (pc' := 147) (lv' := [(0, .ref 0), (1, .int l1), (2, .int l2)]) (st' := [.int l1, .ref 70]) (by decide +kernel) rfl rfl ?_
        refine ab_fin.s1i (i := .iconst 3) (k := 1) (pc' := 148) (n := 3) (by decide +kernel) rfl (by decide +kernel) rfl ?_
        refine ab_fin.s1 (i := .imul) (k := 1) (pc' := 149) (st' := [.int (l1 * (3 : Int32)), .ref 70]) (by decide +kernel) rfl rfl ?_
        refine ab_fin.s2 (i := .iload_n 2) (k := 1) (pc' := 150) (lv' := [(0, .ref 0), (1, .int l1), (2, .int l2)]) (st' := [.int l2, .int (l1 * (3 : Int32)), .ref 70]) (by decide +kernel) rfl rfl ?_
        refine ab_fin.s1 (i := .iadd) (k := 1) (pc' := 151) (st' := [.int ((l1 * (3 : Int32)) + l2), .ref 70]) (by decide +kernel) rfl rfl ?_
        refine ab_fin.s1i (i := .bipush 6) (k := 2) (pc' := 153) (n := 6) (by decide +kernel) rfl (by decide +kernel) rfl ?_
        refine ab_fin.s1 (i := .isub) (k := 1) (pc' := 154) (st' := [.int (((l1 * (3 : Int32)) + l2) - (6 : Int32)), .ref 70]) (by decide +kernel) rfl rfl ?_
        obtain ⟨e26, w⟩ := w
        refine ab_fin.q_eI (x := (τ23.i 70 ((((l1 * (3 : Int32)) + l2) - (6 : Int32)).toNatClampNeg))) (pc' := 155) (by decide +kernel) (c_eI' (F24.s t0_70) e26 rfl) rfl ?_
        exact ab_fin.q_ret (i := .ireturn) (k := 1) (v := some (.int (τ23.i 70 ((((l1 * (3 : Int32)) + l2) - (6 : Int32)).toNatClampNeg)))) (by decide +kernel) rfl F24 w
      by_cases q8 : l2 = 8
      · refine ab_fin.s3 (i := .tableswitch 130 0 8 #[50, 59, 68, 77, 86, 95, 104, 104, 104]) (k := 50) (t := 130) (st' := []) (by decide +kernel) (by rw [q8]; exact ab_swI (off := 104) (by decide +kernel) (by decide +kernel) (by decide +kernel)) ?_
        replace w := w.2.2.2.2.2.2.2.2.1 q8
        refine ab_fin.s2 (i := .aload_n 0) (k := 1) (pc' := 131) (lv' := [(0, .ref 0), (1, .int l1), (2, .int l2)]) (st' := [.ref 0]) (by decide +kernel) rfl rfl ?_
        refine ab_fin.q_rA (b := 67) (ix := 44) (ci := 13) (k := 4) (pc' := 134) (by decide +kernel) rfl (c_rA (F.s t0_0) rfl (rC_13_4 F t0_0)) rfl ?_
        refine ab_fin.s2 (i := .iload_n 1) (k := 1) (pc' := 135) (lv' := [(0, .ref 0), (1, .int l1), (2, .int l2)]) (st' := [.int l1, .ref 67]) (by decide +kernel) rfl rfl ?_
        refine ab_fin.q_yI (i := .invokevirtual 204) (k := 3) (y := 2561) (As := [.ref 67, .int l1]) (rest := []) (M' := (mX10_judge, [])) (lv2 := [(0, .ref 67), (1, .int l1)]) (pc' := 138) (X := K) (by decide +kernel) (ab_cv rfl rfl (conc_get (σ := σ) (F.s t0_67)) ⟨(Nat.le_of_ble_eq_true rfl), (Nat.le_of_ble_eq_true rfl)⟩ rfl) rfl (Nat.le_of_ble_eq_true rfl) rfl rfl (hY_no fun E => rfl) w (fun v29 τ27 F28 w => ?_)
        refine ab_fin.s1 (i := .pop) (k := 1) (pc' := 139) (st' := []) (by decide +kernel) rfl rfl ?_
        refine ab_fin.s2 (i := .aload_n 0) (k := 1) (pc' := 140) (lv' := [(0, .ref 0), (1, .int l1), (2, .int l2)]) (st' := [.ref 0]) (by decide +kernel) rfl rfl ?_
        refine ab_fin.q_rA (b := 67) (ix := 44) (ci := 13) (k := 4) (pc' := 143) (by decide +kernel) rfl (c_rA (F28.s t0_0) rfl (rC_13_4 F28 t0_0)) rfl ?_
        refine ab_fin.q_rA (b := 70) (ix := 207) (ci := 11) (k := 5) (pc' := 146) (by decide +kernel) rfl (c_rA (F28.s t0_67) rfl (rC_11_5 F28 t0_67)) rfl ?_
        refine ab_fin.s2 (i := .iload_n 1) (k := 1) (pc' := 147) (lv' := [(0, .ref 0), (1, .int l1), (2, .int l2)]) (st' := [.int l1, .ref 70]) (by decide +kernel) rfl rfl ?_
        refine ab_fin.s1i (i := .iconst 3) (k := 1) (pc' := 148) (n := 3) (by decide +kernel) rfl (by decide +kernel) rfl ?_
        refine ab_fin.s1 (i := .imul) (k := 1) (pc' := 149) (st' := [.int (l1 * (3 : Int32)), .ref 70]) (by decide +kernel) rfl rfl ?_
        refine ab_fin.s2 (i := .iload_n 2) (k := 1) (pc' := 150) (lv' := [(0, .ref 0), (1, .int l1), (2, .int l2)]) (st' := [.int l2, .int (l1 * (3 : Int32)), .ref 70]) (by decide +kernel) rfl rfl ?_
        refine ab_fin.s1 (i := .iadd) (k := 1) (pc' := 151) (st' := [.int ((l1 * (3 : Int32)) + l2), .ref 70]) (by decide +kernel) rfl rfl ?_
        refine ab_fin.s1i (i := .bipush 6) (k := 2) (pc' := 153) (n := 6) (by decide +kernel) rfl (by decide +kernel) rfl ?_
        refine ab_fin.s1 (i := .isub) (k := 1) (pc' := 154) (st' := [.int (((l1 * (3 : Int32)) + l2) - (6 : Int32)), .ref 70]) (by decide +kernel) rfl rfl ?_
        obtain ⟨e30, w⟩ := w
        refine ab_fin.q_eI (x := (τ27.i 70 ((((l1 * (3 : Int32)) + l2) - (6 : Int32)).toNatClampNeg))) (pc' := 155) (by decide +kernel) (c_eI' (F28.s t0_70) e30 rfl) rfl ?_
        exact ab_fin.q_ret (i := .ireturn) (k := 1) (v := some (.int (τ27.i 70 ((((l1 * (3 : Int32)) + l2) - (6 : Int32)).toNatClampNeg)))) (by decide +kernel) rfl F28 w
      have hsw : ab_s3 (.tableswitch 130 0 8 #[50, 59, 68, 77, 86, 95, 104, 104, 104]) 50 26 (.int l2 :: []) = some (156, []) := by
        clear w
        have qd : Int32.toInt l2 < 0 ∨ 8 < Int32.toInt l2 := by
          simp only [← Int32.toInt_inj, show (0 : Int32).toInt = 0 from rfl, show (1 : Int32).toInt = 1 from rfl, show (2 : Int32).toInt = 2 from rfl, show (3 : Int32).toInt = 3 from rfl, show (4 : Int32).toInt = 4 from rfl, show (5 : Int32).toInt = 5 from rfl, show (6 : Int32).toInt = 6 from rfl, show (7 : Int32).toInt = 7 from rfl, show (8 : Int32).toInt = 8 from rfl] at q0 q1 q2 q3 q4 q5 q6 q7 q8 
          omega
        exact ab_swD qd (by decide +kernel)
      refine ab_fin.s3 (i := .tableswitch 130 0 8 #[50, 59, 68, 77, 86, 95, 104, 104, 104]) (k := 50) (t := 156) (st' := []) (by decide +kernel) hsw ?_
      replace w := w.2.2.2.2.2.2.2.2.2 q0 q1 q2 q3 q4 q5 q6 q7 q8
      exact ab_fin.q_thr hΦC (i := .new 99) (k := 3) (cls := "java/lang/IllegalArgumentException") (by decide +kernel) (by decide +kernel) (fun ix q => by cases q; rfl) d8 (Nat.le_of_ble_eq_true rfl) F w
    · replace w := w.2 q
      exact ab_fin.q_thr hΦC (i := .new 80) (k := 3) (cls := "java/lang/IndexOutOfBoundsException") (by decide +kernel) (by decide +kernel) (fun ix q => by cases q; rfl) d8 (Nat.le_of_ble_eq_true rfl) F w
theorem T_X12_run_0 {Z : zT} {d : Nat} {σ : Sg}  {K : kS} (F : FX ΦC σ.sh σ.r) (d8 : 8 ≤ d) (w : (¬ (σ.i 0 13) = 0 → C_X4_perform_0 Z d σ (σ.i 0 12) (σ.i 0 11) (yN K fun τ1 => K (.inl (some (.int (τ1.i 83 11)))) τ1)) ∧ ((σ.i 0 13) = 0 → K (.inr ("java/lang/IllegalStateException", σ.sh.length)) (σ.al (Sh.jnk 6)))) : C_X12_run_0 Z (d + 1) σ  K := by
  unfold C_X12_run_0
  refine ab_fin.s2 (i := .aload_n 0) (k := 1) (pc' := 1) (lv' := [(0, .ref 0)]) (st' := [.ref 0]) (by decide +kernel) rfl rfl ?_
  refine ab_fin.q_rI (x := (σ.i 0 13)) (ix := 109) (ci := 13) (k := 13) (pc' := 4) (by decide +kernel) rfl (c_rI (F.s t0_0) rfl) rfl ?_
  refine ab_fin.br (c := ¬ (σ.i 0 13) = 0) (i := .ifCond .ne 11) (off := 11) (t := 15) (pc' := 7) (r := []) (by decide +kernel) rfl (by decide +kernel) rfl (fun q => ?_) (fun q => ?_)
  · replace w := w.1 q
    refine ab_fin.s2 (i := .aload_n 0) (k := 1) (pc' := 16) (lv' := [(0, .ref 0)]) (st' := [.ref 0]) (by decide +kernel) rfl rfl ?_
    refine ab_fin.q_rA (b := 83) (ix := 58) (ci := 13) (k := 5) (pc' := 19) (by decide +kernel) rfl (c_rA (F.s t0_0) rfl (rC_13_5 F t0_0)) rfl ?_
    refine ab_fin.s2 (i := .aload_n 0) (k := 1) (pc' := 20) (lv' := [(0, .ref 0)]) (st' := [.ref 0, .ref 83]) (by decide +kernel) rfl rfl ?_
    refine ab_fin.q_rI (x := (σ.i 0 12)) (ix := 73) (ci := 13) (k := 12) (pc' := 23) (by decide +kernel) rfl (c_rI (F.s t0_0) rfl) rfl ?_
    refine ab_fin.s2 (i := .aload_n 0) (k := 1) (pc' := 24) (lv' := [(0, .ref 0)]) (st' := [.ref 0, .int (σ.i 0 12), .ref 83]) (by decide +kernel) rfl rfl ?_
    refine ab_fin.q_rI (x := (σ.i 0 11)) (ix := 138) (ci := 13) (k := 11) (pc' := 27) (by decide +kernel) rfl (c_rI (F.s t0_0) rfl) rfl ?_
    refine ab_fin.q_yN (i := .invokevirtual 213) (k := 3) (y := 1027) (As := [.ref 83, .int (σ.i 0 12), .int (σ.i 0 11)]) (rest := []) (M' := (mX4_perform, [])) (lv2 := [(0, .ref 83), (1, .int (σ.i 0 12)), (2, .int (σ.i 0 11))]) (pc' := 30) (X := K) (by decide +kernel) (ab_cv rfl rfl (conc_get (σ := σ) (F.s t0_83)) ⟨(Nat.le_of_ble_eq_true rfl), (Nat.le_of_ble_eq_true rfl)⟩ rfl) rfl (Nat.le_of_ble_eq_true rfl) rfl rfl (hY_no fun E => rfl) w (fun τ1 F2 w => ?_)
    refine ab_fin.s2 (i := .aload_n 0) (k := 1) (pc' := 31) (lv' := [(0, .ref 0)]) (st' := [.ref 0]) (by decide +kernel) rfl rfl ?_
    refine ab_fin.q_rA (b := 83) (ix := 58) (ci := 13) (k := 5) (pc' := 34) (by decide +kernel) rfl (c_rA (F2.s t0_0) rfl (rC_13_5 F2 t0_0)) rfl ?_
    refine ab_fin.q_rI (x := (τ1.i 83 11)) (ix := 217) (ci := 5) (k := 11) (pc' := 37) (by decide +kernel) rfl (c_rI (F2.s t0_83) rfl) rfl ?_
    exact ab_fin.q_ret (i := .ireturn) (k := 1) (v := some (.int (τ1.i 83 11))) (by decide +kernel) rfl F2 w
  · replace w := w.2 (Decidable.of_not_not q)
    exact ab_fin.q_thr hΦC (i := .new 210) (k := 3) (cls := "java/lang/IllegalStateException") (by decide +kernel) (by decide +kernel) (fun ix q => by cases q; rfl) d8 (Nat.le_of_ble_eq_true rfl) F w
theorem T_X12_told_0 {Z : zT} {d : Nat} {σ : Sg} {l1 : Int32} {K : kS} (F : FX ΦC σ.sh σ.r) (d8 : 8 ≤ d) (w : (l1 = 0 → K (.inl (some (.int (σ.i 83 11)))) σ) ∧ (l1 = 1 → ((σ.i 83 12) = 0 → K (.inl (some (.int (-1)))) σ) ∧ (¬ (σ.i 83 12) = 0 → C_X4_kindOf_0 Z d σ (σ.l 83 13) (yI K fun v3 τ1 => K (.inl (some (.int v3))) τ1))) ∧ (l1 = 2 → ((σ.i 83 12) = 0 → K (.inl (some (.int 0))) σ) ∧ (¬ (σ.i 83 12) = 0 → K (.inl (some (.int ((Int64.toInt32 (σ.l 83 13)))))) σ)) ∧ (l1 = 3 → K (.inl (some (.int (σ.i 83 14)))) σ) ∧ (l1 = 4 → K (.inl (some (.int (σ.i 83 16)))) σ) ∧ (l1 = 5 → K (.inl (some (.int (σ.i 83 18)))) σ) ∧ (l1 = 6 → K (.inl (some (.int (σ.i 84 4)))) σ) ∧ (¬ l1 = 0 → ¬ l1 = 1 → ¬ l1 = 2 → ¬ l1 = 3 → ¬ l1 = 4 → ¬ l1 = 5 → ¬ l1 = 6 → K (.inr ("java/lang/IllegalArgumentException", σ.sh.length)) (σ.al (Sh.jnk 6)))) : C_X12_told_0 Z (d + 1) σ l1 K := by
  unfold C_X12_told_0
  refine ab_fin.s2 (i := .iload_n 1) (k := 1) (pc' := 1) (lv' := [(0, .ref 0), (1, .int l1)]) (st' := [.int l1]) (by decide +kernel) rfl rfl ?_
  by_cases q0 : l1 = 0
  · refine ab_fin.s3 (i := .tableswitch 134 0 6 #[43, 51, 76, 99, 107, 115, 123]) (k := 43) (t := 44) (st' := []) (by decide +kernel) (by rw [q0]; exact ab_swI (off := 43) (by decide +kernel) (by decide +kernel) (by decide +kernel)) ?_
    replace w := w.1 q0
    refine ab_fin.s2 (i := .aload_n 0) (k := 1) (pc' := 45) (lv' := [(0, .ref 0), (1, .int l1)]) (st' := [.ref 0]) (by decide +kernel) rfl rfl ?_
    refine ab_fin.q_rA (b := 83) (ix := 58) (ci := 13) (k := 5) (pc' := 48) (by decide +kernel) rfl (c_rA (F.s t0_0) rfl (rC_13_5 F t0_0)) rfl ?_
    refine ab_fin.q_rI (x := (σ.i 83 11)) (ix := 217) (ci := 5) (k := 11) (pc' := 51) (by decide +kernel) rfl (c_rI (F.s t0_83) rfl) rfl ?_
    exact ab_fin.q_ret (i := .ireturn) (k := 1) (v := some (.int (σ.i 83 11))) (by decide +kernel) rfl F w
  by_cases q1 : l1 = 1
  · refine ab_fin.s3 (i := .tableswitch 134 0 6 #[43, 51, 76, 99, 107, 115, 123]) (k := 43) (t := 52) (st' := []) (by decide +kernel) (by rw [q1]; exact ab_swI (off := 51) (by decide +kernel) (by decide +kernel) (by decide +kernel)) ?_
    replace w := w.2.1 q1
    refine ab_fin.s2 (i := .aload_n 0) (k := 1) (pc' := 53) (lv' := [(0, .ref 0), (1, .int l1)]) (st' := [.ref 0]) (by decide +kernel) rfl rfl ?_
    refine ab_fin.q_rA (b := 83) (ix := 58) (ci := 13) (k := 5) (pc' := 56) (by decide +kernel) rfl (c_rA (F.s t0_0) rfl (rC_13_5 F t0_0)) rfl ?_
    refine ab_fin.q_rI (x := (σ.i 83 12)) (ix := 220) (ci := 5) (k := 12) (pc' := 59) (by decide +kernel) rfl (c_rI (F.s t0_83) rfl) rfl ?_
    refine ab_fin.br (c := (σ.i 83 12) = 0) (i := .ifCond .eq 16) (off := 16) (t := 75) (pc' := 62) (r := []) (by decide +kernel) rfl (by decide +kernel) rfl (fun q => ?_) (fun q => ?_)
    · replace w := w.1 q
      refine ab_fin.s1i (i := .iconst (-1)) (k := 1) (pc' := 76) (n := (-1)) (by decide +kernel) rfl (by decide +kernel) rfl ?_
      exact ab_fin.q_ret (i := .ireturn) (k := 1) (v := some (.int (-1))) (by decide +kernel) rfl F w
    · replace w := w.2 q
      refine ab_fin.s2 (i := .aload_n 0) (k := 1) (pc' := 63) (lv' := [(0, .ref 0), (1, .int l1)]) (st' := [.ref 0]) (by decide +kernel) rfl rfl ?_
      refine ab_fin.q_rA (b := 83) (ix := 58) (ci := 13) (k := 5) (pc' := 66) (by decide +kernel) rfl (c_rA (F.s t0_0) rfl (rC_13_5 F t0_0)) rfl ?_
      refine ab_fin.q_rL (x := (σ.l 83 13)) (ix := 223) (ci := 5) (k := 13) (pc' := 69) (by decide +kernel) rfl (c_rL (F.s t0_83) rfl) rfl ?_
      refine ab_fin.q_yI (i := .invokestatic 227) (k := 3) (y := 1025) (As := [.long (σ.l 83 13)]) (rest := []) (M' := (mX4_kindOf, [])) (lv2 := [(0, .long (σ.l 83 13))]) (pc' := 72) (X := K) (by decide +kernel) (ab_cs rfl rfl ⟨(Nat.le_of_ble_eq_true rfl), (Nat.le_of_ble_eq_true rfl)⟩ rfl) rfl (Nat.le_of_ble_eq_true rfl) rfl rfl (hY_no fun E => rfl) w (fun v3 τ1 F2 w => ?_)
      refine ab_fin.s3 (i := .goto 4) (k := 3) (t := 76) (st' := [.int v3]) (by decide +kernel) (ab_gto (by decide +kernel)) ?_
      exact ab_fin.q_ret (i := .ireturn) (k := 1) (v := some (.int v3)) (by decide +kernel) rfl F2 w
  by_cases q2 : l1 = 2
  · refine ab_fin.s3 (i := .tableswitch 134 0 6 #[43, 51, 76, 99, 107, 115, 123]) (k := 43) (t := 77) (st' := []) (by decide +kernel) (by rw [q2]; exact ab_swI (off := 76) (by decide +kernel) (by decide +kernel) (by decide +kernel)) ?_
    replace w := w.2.2.1 q2
    refine ab_fin.s2 (i := .aload_n 0) (k := 1) (pc' := 78) (lv' := [(0, .ref 0), (1, .int l1)]) (st' := [.ref 0]) (by decide +kernel) rfl rfl ?_
    refine ab_fin.q_rA (b := 83) (ix := 58) (ci := 13) (k := 5) (pc' := 81) (by decide +kernel) rfl (c_rA (F.s t0_0) rfl (rC_13_5 F t0_0)) rfl ?_
    refine ab_fin.q_rI (x := (σ.i 83 12)) (ix := 220) (ci := 5) (k := 12) (pc' := 84) (by decide +kernel) rfl (c_rI (F.s t0_83) rfl) rfl ?_
    refine ab_fin.br (c := (σ.i 83 12) = 0) (i := .ifCond .eq 14) (off := 14) (t := 98) (pc' := 87) (r := []) (by decide +kernel) rfl (by decide +kernel) rfl (fun q => ?_) (fun q => ?_)
    · replace w := w.1 q
      refine ab_fin.s1i (i := .iconst 0) (k := 1) (pc' := 99) (n := 0) (by decide +kernel) rfl (by decide +kernel) rfl ?_
      exact ab_fin.q_ret (i := .ireturn) (k := 1) (v := some (.int 0)) (by decide +kernel) rfl F w
    · replace w := w.2 q
      refine ab_fin.s2 (i := .aload_n 0) (k := 1) (pc' := 88) (lv' := [(0, .ref 0), (1, .int l1)]) (st' := [.ref 0]) (by decide +kernel) rfl rfl ?_
      refine ab_fin.q_rA (b := 83) (ix := 58) (ci := 13) (k := 5) (pc' := 91) (by decide +kernel) rfl (c_rA (F.s t0_0) rfl (rC_13_5 F t0_0)) rfl ?_
      refine ab_fin.q_rL (x := (σ.l 83 13)) (ix := 223) (ci := 5) (k := 13) (pc' := 94) (by decide +kernel) rfl (c_rL (F.s t0_83) rfl) rfl ?_
      refine ab_fin.s1 (i := .l2i) (k := 1) (pc' := 95) (st' := [.int ((Int64.toInt32 (σ.l 83 13)))]) (by decide +kernel) rfl rfl ?_
      refine ab_fin.s3 (i := .goto 4) (k := 3) (t := 99) (st' := [.int ((Int64.toInt32 (σ.l 83 13)))]) (by decide +kernel) (ab_gto (by decide +kernel)) ?_
      exact ab_fin.q_ret (i := .ireturn) (k := 1) (v := some (.int ((Int64.toInt32 (σ.l 83 13))))) (by decide +kernel) rfl F w
  by_cases q3 : l1 = 3
  · refine ab_fin.s3 (i := .tableswitch 134 0 6 #[43, 51, 76, 99, 107, 115, 123]) (k := 43) (t := 100) (st' := []) (by decide +kernel) (by rw [q3]; exact ab_swI (off := 99) (by decide +kernel) (by decide +kernel) (by decide +kernel)) ?_
    replace w := w.2.2.2.1 q3
    refine ab_fin.s2 (i := .aload_n 0) (k := 1) (pc' := 101) (lv' := [(0, .ref 0), (1, .int l1)]) (st' := [.ref 0]) (by decide +kernel) rfl rfl ?_
    refine ab_fin.q_rA (b := 83) (ix := 58) (ci := 13) (k := 5) (pc' := 104) (by decide +kernel) rfl (c_rA (F.s t0_0) rfl (rC_13_5 F t0_0)) rfl ?_
    refine ab_fin.q_rI (x := (σ.i 83 14)) (ix := 231) (ci := 5) (k := 14) (pc' := 107) (by decide +kernel) rfl (c_rI (F.s t0_83) rfl) rfl ?_
    exact ab_fin.q_ret (i := .ireturn) (k := 1) (v := some (.int (σ.i 83 14))) (by decide +kernel) rfl F w
  by_cases q4 : l1 = 4
  · refine ab_fin.s3 (i := .tableswitch 134 0 6 #[43, 51, 76, 99, 107, 115, 123]) (k := 43) (t := 108) (st' := []) (by decide +kernel) (by rw [q4]; exact ab_swI (off := 107) (by decide +kernel) (by decide +kernel) (by decide +kernel)) ?_
    replace w := w.2.2.2.2.1 q4
    refine ab_fin.s2 (i := .aload_n 0) (k := 1) (pc' := 109) (lv' := [(0, .ref 0), (1, .int l1)]) (st' := [.ref 0]) (by decide +kernel) rfl rfl ?_
    refine ab_fin.q_rA (b := 83) (ix := 58) (ci := 13) (k := 5) (pc' := 112) (by decide +kernel) rfl (c_rA (F.s t0_0) rfl (rC_13_5 F t0_0)) rfl ?_
    refine ab_fin.q_rI (x := (σ.i 83 16)) (ix := 234) (ci := 5) (k := 16) (pc' := 115) (by decide +kernel) rfl (c_rI (F.s t0_83) rfl) rfl ?_
    exact ab_fin.q_ret (i := .ireturn) (k := 1) (v := some (.int (σ.i 83 16))) (by decide +kernel) rfl F w
  by_cases q5 : l1 = 5
  · refine ab_fin.s3 (i := .tableswitch 134 0 6 #[43, 51, 76, 99, 107, 115, 123]) (k := 43) (t := 116) (st' := []) (by decide +kernel) (by rw [q5]; exact ab_swI (off := 115) (by decide +kernel) (by decide +kernel) (by decide +kernel)) ?_
    replace w := w.2.2.2.2.2.1 q5
    refine ab_fin.s2 (i := .aload_n 0) (k := 1) (pc' := 117) (lv' := [(0, .ref 0), (1, .int l1)]) (st' := [.ref 0]) (by decide +kernel) rfl rfl ?_
    refine ab_fin.q_rA (b := 83) (ix := 58) (ci := 13) (k := 5) (pc' := 120) (by decide +kernel) rfl (c_rA (F.s t0_0) rfl (rC_13_5 F t0_0)) rfl ?_
    refine ab_fin.q_rI (x := (σ.i 83 18)) (ix := 237) (ci := 5) (k := 18) (pc' := 123) (by decide +kernel) rfl (c_rI (F.s t0_83) rfl) rfl ?_
    exact ab_fin.q_ret (i := .ireturn) (k := 1) (v := some (.int (σ.i 83 18))) (by decide +kernel) rfl F w
  by_cases q6 : l1 = 6
  · refine ab_fin.s3 (i := .tableswitch 134 0 6 #[43, 51, 76, 99, 107, 115, 123]) (k := 43) (t := 124) (st' := []) (by decide +kernel) (by rw [q6]; exact ab_swI (off := 123) (by decide +kernel) (by decide +kernel) (by decide +kernel)) ?_
    replace w := w.2.2.2.2.2.2.1 q6
    refine ab_fin.s2 (i := .aload_n 0) (k := 1) (pc' := 125) (lv' := [(0, .ref 0), (1, .int l1)]) (st' := [.ref 0]) (by decide +kernel) rfl rfl ?_
    refine ab_fin.q_rA (b := 83) (ix := 58) (ci := 13) (k := 5) (pc' := 128) (by decide +kernel) rfl (c_rA (F.s t0_0) rfl (rC_13_5 F t0_0)) rfl ?_
    refine ab_fin.q_rA (b := 84) (ix := 240) (ci := 5) (k := 1) (pc' := 131) (by decide +kernel) rfl (c_rA (F.s t0_83) rfl (rC_5_1 F t0_83)) rfl ?_
    refine ab_fin.q_rI (x := (σ.i 84 4)) (ix := 244) (ci := 1) (k := 4) (pc' := 134) (by decide +kernel) rfl (c_rI (F.s t0_84) rfl) rfl ?_
    exact ab_fin.q_ret (i := .ireturn) (k := 1) (v := some (.int (σ.i 84 4))) (by decide +kernel) rfl F w
  have hsw : ab_s3 (.tableswitch 134 0 6 #[43, 51, 76, 99, 107, 115, 123]) 43 1 (.int l1 :: []) = some (135, []) := by
    clear w
    have qd : Int32.toInt l1 < 0 ∨ 6 < Int32.toInt l1 := by
      simp only [← Int32.toInt_inj, show (0 : Int32).toInt = 0 from rfl, show (1 : Int32).toInt = 1 from rfl, show (2 : Int32).toInt = 2 from rfl, show (3 : Int32).toInt = 3 from rfl, show (4 : Int32).toInt = 4 from rfl, show (5 : Int32).toInt = 5 from rfl, show (6 : Int32).toInt = 6 from rfl] at q0 q1 q2 q3 q4 q5 q6 
      omega
    exact ab_swD qd (by decide +kernel)
  refine ab_fin.s3 (i := .tableswitch 134 0 6 #[43, 51, 76, 99, 107, 115, 123]) (k := 43) (t := 135) (st' := []) (by decide +kernel) hsw ?_
  replace w := w.2.2.2.2.2.2.2 q0 q1 q2 q3 q4 q5 q6
  exact ab_fin.q_thr hΦC (i := .new 99) (k := 3) (cls := "java/lang/IllegalArgumentException") (by decide +kernel) (by decide +kernel) (fun ix q => by cases q; rfl) d8 (Nat.le_of_ble_eq_true rfl) F w
theorem T_X12_shown_0 {Z : zT} {d : Nat} {σ : Sg} {l1 : Int32} {K : kS} (F : FX ΦC σ.sh σ.r) (d8 : 8 ≤ d) (w : (l1 < 0 → K (.inr ("java/lang/IndexOutOfBoundsException", σ.sh.length)) (σ.al (Sh.jnk 6))) ∧ (¬ l1 < 0 → (l1 < (σ.i 83 16) → ib l1 512 ∧ (K (.inl (some (.int (σ.i 96 l1.toNatClampNeg)))) σ)) ∧ (¬ l1 < (σ.i 83 16) → K (.inr ("java/lang/IndexOutOfBoundsException", σ.sh.length)) (σ.al (Sh.jnk 6))))) : C_X12_shown_0 Z (d + 1) σ l1 K := by
  unfold C_X12_shown_0
  refine ab_fin.s2 (i := .iload_n 1) (k := 1) (pc' := 1) (lv' := [(0, .ref 0), (1, .int l1)]) (st' := [.int l1]) (by decide +kernel) rfl rfl ?_
  refine ab_fin.br (c := l1 < 0) (i := .ifCond .lt 14) (off := 14) (t := 15) (pc' := 4) (r := []) (by decide +kernel) rfl (by decide +kernel) rfl (fun q => ?_) (fun q => ?_)
  · replace w := w.1 q
    exact ab_fin.q_thr hΦC (i := .new 80) (k := 3) (cls := "java/lang/IndexOutOfBoundsException") (by decide +kernel) (by decide +kernel) (fun ix q => by cases q; rfl) d8 (Nat.le_of_ble_eq_true rfl) F w
  · replace w := w.2 q
    refine ab_fin.s2 (i := .iload_n 1) (k := 1) (pc' := 5) (lv' := [(0, .ref 0), (1, .int l1)]) (st' := [.int l1]) (by decide +kernel) rfl rfl ?_
    refine ab_fin.s2 (i := .aload_n 0) (k := 1) (pc' := 6) (lv' := [(0, .ref 0), (1, .int l1)]) (st' := [.ref 0, .int l1]) (by decide +kernel) rfl rfl ?_
    refine ab_fin.q_rA (b := 83) (ix := 58) (ci := 13) (k := 5) (pc' := 9) (by decide +kernel) rfl (c_rA (F.s t0_0) rfl (rC_13_5 F t0_0)) rfl ?_
    refine ab_fin.q_rI (x := (σ.i 83 16)) (ix := 234) (ci := 5) (k := 16) (pc' := 12) (by decide +kernel) rfl (c_rI (F.s t0_83) rfl) rfl ?_
    refine ab_fin.br (c := l1 < (σ.i 83 16)) (i := .if_icmp .lt 11) (off := 11) (t := 23) (pc' := 15) (r := []) (by decide +kernel) rfl (by decide +kernel) rfl (fun q => ?_) (fun q => ?_)
    · replace w := w.1 q
      refine ab_fin.s2 (i := .aload_n 0) (k := 1) (pc' := 24) (lv' := [(0, .ref 0), (1, .int l1)]) (st' := [.ref 0]) (by decide +kernel) rfl rfl ?_
      refine ab_fin.q_rA (b := 83) (ix := 58) (ci := 13) (k := 5) (pc' := 27) (by decide +kernel) rfl (c_rA (F.s t0_0) rfl (rC_13_5 F t0_0)) rfl ?_
      refine ab_fin.q_rA (b := 96) (ix := 247) (ci := 5) (k := 15) (pc' := 30) (by decide +kernel) rfl (c_rA (F.s t0_83) rfl (rC_5_15 F t0_83)) rfl ?_
      refine ab_fin.s2 (i := .iload_n 1) (k := 1) (pc' := 31) (lv' := [(0, .ref 0), (1, .int l1)]) (st' := [.int l1, .ref 96]) (by decide +kernel) rfl rfl ?_
      obtain ⟨e1, w⟩ := w
      refine ab_fin.q_eI (x := (σ.i 96 l1.toNatClampNeg)) (pc' := 32) (by decide +kernel) (c_eI' (F.s t0_96) e1 rfl) rfl ?_
      exact ab_fin.q_ret (i := .ireturn) (k := 1) (v := some (.int (σ.i 96 l1.toNatClampNeg))) (by decide +kernel) rfl F w
    · replace w := w.2 q
      exact ab_fin.q_thr hΦC (i := .new 80) (k := 3) (cls := "java/lang/IndexOutOfBoundsException") (by decide +kernel) (by decide +kernel) (fun ix q => by cases q; rfl) d8 (Nat.le_of_ble_eq_true rfl) F w
theorem T_X12_ran_0 {Z : zT} {d : Nat} {σ : Sg}  {K : kS} (F : FX ΦC σ.sh σ.r) (d8 : 8 ≤ d) (w : (0 ≤ (σ.i 83 11) → cpb (0 : Int32) (0 : Int32) (if (512 : Int32) < (σ.i 83 18) then (512 : Int32) else (σ.i 83 18)) 512 512 ∧ (K (.inl (some (.int ((2 : Int32) * (if (512 : Int32) < (σ.i 83 18) then (512 : Int32) else (σ.i 83 18)))))) ((σ.wi 0 10 (if (512 : Int32) < (σ.i 83 18) then (512 : Int32) else (σ.i 83 18))).cpI 97 ((0 : Int32).toNatClampNeg) 98 ((0 : Int32).toNatClampNeg) ((if (512 : Int32) < (σ.i 83 18) then (512 : Int32) else (σ.i 83 18)).toNatClampNeg)))) ∧ (¬ 0 ≤ (σ.i 83 11) → K (.inr ("java/lang/IllegalStateException", σ.sh.length)) (σ.al (Sh.jnk 6)))) : C_X12_ran_0 Z (d + 1) σ  K := by
  unfold C_X12_ran_0
  refine ab_fin.s2 (i := .aload_n 0) (k := 1) (pc' := 1) (lv' := [(0, .ref 0)]) (st' := [.ref 0]) (by decide +kernel) rfl rfl ?_
  refine ab_fin.q_rA (b := 83) (ix := 58) (ci := 13) (k := 5) (pc' := 4) (by decide +kernel) rfl (c_rA (F.s t0_0) rfl (rC_13_5 F t0_0)) rfl ?_
  refine ab_fin.q_rI (x := (σ.i 83 11)) (ix := 217) (ci := 5) (k := 11) (pc' := 7) (by decide +kernel) rfl (c_rI (F.s t0_83) rfl) rfl ?_
  refine ab_fin.br (c := 0 ≤ (σ.i 83 11)) (i := .ifCond .ge 11) (off := 11) (t := 18) (pc' := 10) (r := []) (by decide +kernel) rfl (by decide +kernel) rfl (fun q => ?_) (fun q => ?_)
  · replace w := w.1 q
    refine ab_fin.s2 (i := .aload_n 0) (k := 1) (pc' := 19) (lv' := [(0, .ref 0)]) (st' := [.ref 0]) (by decide +kernel) rfl rfl ?_
    refine ab_fin.s2 (i := .aload_n 0) (k := 1) (pc' := 20) (lv' := [(0, .ref 0)]) (st' := [.ref 0, .ref 0]) (by decide +kernel) rfl rfl ?_
    refine ab_fin.q_rA (b := 83) (ix := 58) (ci := 13) (k := 5) (pc' := 23) (by decide +kernel) rfl (c_rA (F.s t0_0) rfl (rC_13_5 F t0_0)) rfl ?_
    refine ab_fin.q_rI (x := (σ.i 83 18)) (ix := 237) (ci := 5) (k := 18) (pc' := 26) (by decide +kernel) rfl (c_rI (F.s t0_83) rfl) rfl ?_
    refine ab_fin.s1i (i := .sipush 512) (k := 3) (pc' := 29) (n := 512) (by decide +kernel) rfl (by decide +kernel) rfl ?_
    refine ab_fin.cpy (i := .invokestatic 83) (k := 3) (pc' := 32) (h1 := conc σ) (st' := [.int (if (512 : Int32) < (σ.i 83 18) then (512 : Int32) else (σ.i 83 18)), .ref 0]) (by decide +kernel) rfl rfl ?_
    refine ab_fin.q_pF (ix := 154) (ci := 13) (k := 10) (h1 := conc (σ.wi 0 10 (if (512 : Int32) < (σ.i 83 18) then (512 : Int32) else (σ.i 83 18)))) (pc' := 35) (by decide +kernel) rfl (c_pI (v := (if (512 : Int32) < (σ.i 83 18) then (512 : Int32) else (σ.i 83 18))) (F.s t0_0) rfl) rfl rfl rfl ?_
    refine ab_fin.s2 (i := .aload_n 0) (k := 1) (pc' := 36) (lv' := [(0, .ref 0)]) (st' := [.ref 0]) (by decide +kernel) rfl rfl ?_
    refine ab_fin.q_rA (b := 83) (ix := 58) (ci := 13) (k := 5) (pc' := 39) (by decide +kernel) rfl (c_rA (F.s t0_0) rfl (rC_13_5 F t0_0)) rfl ?_
    refine ab_fin.q_rA (b := 97) (ix := 250) (ci := 5) (k := 17) (pc' := 42) (by decide +kernel) rfl (c_rA (F.s t0_83) rfl (rC_5_17 F t0_83)) rfl ?_
    refine ab_fin.s1i (i := .iconst 0) (k := 1) (pc' := 43) (n := 0) (by decide +kernel) rfl (by decide +kernel) rfl ?_
    refine ab_fin.s2 (i := .aload_n 0) (k := 1) (pc' := 44) (lv' := [(0, .ref 0)]) (st' := [.ref 0, .int 0, .ref 97]) (by decide +kernel) rfl rfl ?_
    refine ab_fin.q_rA (b := 98) (ix := 62) (ci := 13) (k := 6) (pc' := 47) (by decide +kernel) rfl (c_rA (F.s t0_0) rfl (rC_13_6 F t0_0)) rfl ?_
    refine ab_fin.s1i (i := .iconst 0) (k := 1) (pc' := 48) (n := 0) (by decide +kernel) rfl (by decide +kernel) rfl ?_
    refine ab_fin.s2 (i := .aload_n 0) (k := 1) (pc' := 49) (lv' := [(0, .ref 0)]) (st' := [.ref 0, .int 0, .ref 98, .int 0, .ref 97]) (by decide +kernel) rfl rfl ?_
    refine ab_fin.q_rI (x := (if (512 : Int32) < (σ.i 83 18) then (512 : Int32) else (σ.i 83 18))) (ix := 154) (ci := 13) (k := 10) (pc' := 52) (by decide +kernel) rfl (c_rI (F.s t0_0) rfl) rfl ?_
    obtain ⟨e1, w⟩ := w
    refine ab_fin.cpy (i := .invokestatic 253) (k := 3) (pc' := 55) (h1 := conc ((σ.wi 0 10 (if (512 : Int32) < (σ.i 83 18) then (512 : Int32) else (σ.i 83 18))).cpI 97 ((0 : Int32).toNatClampNeg) 98 ((0 : Int32).toNatClampNeg) ((if (512 : Int32) < (σ.i 83 18) then (512 : Int32) else (σ.i 83 18)).toNatClampNeg))) (st' := []) (by decide +kernel) (ab_cpT rfl (c_cpI (F.s t0_97) (F.s t0_98) e1 (by decide))) rfl ?_
    refine ab_fin.s1i (i := .iconst 2) (k := 1) (pc' := 56) (n := 2) (by decide +kernel) rfl (by decide +kernel) rfl ?_
    refine ab_fin.s2 (i := .aload_n 0) (k := 1) (pc' := 57) (lv' := [(0, .ref 0)]) (st' := [.ref 0, .int 2]) (by decide +kernel) rfl rfl ?_
    refine ab_fin.q_rI (x := (if (512 : Int32) < (σ.i 83 18) then (512 : Int32) else (σ.i 83 18))) (ix := 154) (ci := 13) (k := 10) (pc' := 60) (by decide +kernel) rfl (c_rI (F.s t0_0) rfl) rfl ?_
    refine ab_fin.s1 (i := .imul) (k := 1) (pc' := 61) (st' := [.int ((2 : Int32) * (if (512 : Int32) < (σ.i 83 18) then (512 : Int32) else (σ.i 83 18)))]) (by decide +kernel) rfl rfl ?_
    exact ab_fin.q_ret (i := .ireturn) (k := 1) (v := some (.int ((2 : Int32) * (if (512 : Int32) < (σ.i 83 18) then (512 : Int32) else (σ.i 83 18))))) (by decide +kernel) rfl F w
  · replace w := w.2 q
    exact ab_fin.q_thr hΦC (i := .new 210) (k := 3) (cls := "java/lang/IllegalStateException") (by decide +kernel) (by decide +kernel) (fun ix q => by cases q; rfl) d8 (Nat.le_of_ble_eq_true rfl) F w
theorem T_X12_word_0 {Z : zT} {d : Nat} {σ : Sg} {l1 : Int32} {K : kS} (F : FX ΦC σ.sh σ.r) (d8 : 8 ≤ d) (w : (l1 < 0 → K (.inr ("java/lang/IndexOutOfBoundsException", σ.sh.length)) (σ.al (Sh.jnk 6))) ∧ (¬ l1 < 0 → (l1 < ((2 : Int32) * (σ.i 0 10)) → C_X12_word_27 Z (d + 1) σ l1 0 l1 K) ∧ (¬ l1 < ((2 : Int32) * (σ.i 0 10)) → K (.inr ("java/lang/IndexOutOfBoundsException", σ.sh.length)) (σ.al (Sh.jnk 6))))) : C_X12_word_0 Z (d + 1) σ l1 K := by
  unfold C_X12_word_0
  refine ab_fin.s2 (i := .iload_n 1) (k := 1) (pc' := 1) (lv' := [(0, .ref 0), (1, .int l1)]) (st' := [.int l1]) (by decide +kernel) rfl rfl ?_
  refine ab_fin.br (c := l1 < 0) (i := .ifCond .lt 13) (off := 13) (t := 14) (pc' := 4) (r := []) (by decide +kernel) rfl (by decide +kernel) rfl (fun q => ?_) (fun q => ?_)
  · replace w := w.1 q
    exact ab_fin.q_thr hΦC (i := .new 80) (k := 3) (cls := "java/lang/IndexOutOfBoundsException") (by decide +kernel) (by decide +kernel) (fun ix q => by cases q; rfl) d8 (Nat.le_of_ble_eq_true rfl) F w
  · replace w := w.2 q
    refine ab_fin.s2 (i := .iload_n 1) (k := 1) (pc' := 5) (lv' := [(0, .ref 0), (1, .int l1)]) (st' := [.int l1]) (by decide +kernel) rfl rfl ?_
    refine ab_fin.s1i (i := .iconst 2) (k := 1) (pc' := 6) (n := 2) (by decide +kernel) rfl (by decide +kernel) rfl ?_
    refine ab_fin.s2 (i := .aload_n 0) (k := 1) (pc' := 7) (lv' := [(0, .ref 0), (1, .int l1)]) (st' := [.ref 0, .int 2, .int l1]) (by decide +kernel) rfl rfl ?_
    refine ab_fin.q_rI (x := (σ.i 0 10)) (ix := 154) (ci := 13) (k := 10) (pc' := 10) (by decide +kernel) rfl (c_rI (F.s t0_0) rfl) rfl ?_
    refine ab_fin.s1 (i := .imul) (k := 1) (pc' := 11) (st' := [.int ((2 : Int32) * (σ.i 0 10)), .int l1]) (by decide +kernel) rfl rfl ?_
    refine ab_fin.br (c := l1 < ((2 : Int32) * (σ.i 0 10))) (i := .if_icmp .lt 11) (off := 11) (t := 22) (pc' := 14) (r := []) (by decide +kernel) rfl (by decide +kernel) rfl (fun q => ?_) (fun q => ?_)
    · replace w := w.1 q
      refine ab_fin.s1l (i := .lconst 0) (k := 1) (pc' := 23) (n := 0) (by decide +kernel) rfl (by decide +kernel) rfl ?_
      refine ab_fin.s2 (i := .lstore_n 2) (k := 1) (pc' := 24) (lv' := [(2, .long 0), (0, .ref 0), (1, .int l1)]) (st' := []) (by decide +kernel) rfl rfl ?_
      refine ab_fin.s2 (i := .iload_n 1) (k := 1) (pc' := 25) (lv' := [(2, .long 0), (0, .ref 0), (1, .int l1)]) (st' := [.int l1]) (by decide +kernel) rfl rfl ?_
      refine ab_fin.s2 (i := .istore 4) (k := 2) (pc' := 27) (lv' := [(4, .int l1), (2, .long 0), (0, .ref 0), (1, .int l1)]) (st' := []) (by decide +kernel) rfl rfl ?_
      exact ab_fin.lv ⟨(List.forall_mem_cons.mpr ⟨(List.Mem.tail _ (List.Mem.tail _ (List.Mem.head _))), (List.forall_mem_cons.mpr ⟨(List.Mem.tail _ (List.Mem.tail _ (List.Mem.tail _ (List.Mem.head _)))), (List.forall_mem_cons.mpr ⟨(List.Mem.tail _ (List.Mem.head _)), (List.forall_mem_cons.mpr ⟨(List.Mem.head _), (fun _ h => absurd h List.not_mem_nil)⟩)⟩)⟩)⟩), (show ([4, 2, 0, 1] : List Nat).Nodup from by decide)⟩ w
    · replace w := w.2 q
      exact ab_fin.q_thr hΦC (i := .new 80) (k := 3) (cls := "java/lang/IndexOutOfBoundsException") (by decide +kernel) (by decide +kernel) (fun ix q => by cases q; rfl) d8 (Nat.le_of_ble_eq_true rfl) F w
theorem T_X12_word_27 {Z : zT} {d : Nat} {σ : Sg} {l1 : Int32} {l2 : Int64} {l4 : Int32} {K : kS} (F : FX ΦC σ.sh σ.r) (w : ((l1 + (8 : Int32)) ≤ l4 → K (.inl (some (.long l2))) σ) ∧ (¬ (l1 + (8 : Int32)) ≤ l4 → C_X12_byteOfResult_0 Z d σ l4 (yI K fun v3 τ1 => C_X12_word_27 Z (d + 1) τ1 l1 ((l2 <<< (Int32.toInt64 (8 : Int32) &&& 63)) ||| ((Int32.toInt64 v3))) (l4 + 1) K))) : C_X12_word_27 Z (d + 1) σ l1 l2 l4 K := by
  unfold C_X12_word_27
  refine ab_fin.s2 (i := .iload 4) (k := 2) (pc' := 29) (lv' := [(0, .ref 0), (1, .int l1), (2, .long l2), (4, .int l4)]) (st' := [.int l4]) (by decide +kernel) rfl rfl ?_
  refine ab_fin.s2 (i := .iload_n 1) (k := 1) (pc' := 30) (lv' := [(0, .ref 0), (1, .int l1), (2, .long l2), (4, .int l4)]) (st' := [.int l1, .int l4]) (by decide +kernel) rfl rfl ?_
  refine ab_fin.s1i (i := .bipush 8) (k := 2) (pc' := 32) (n := 8) (by decide +kernel) rfl (by decide +kernel) rfl ?_
  refine ab_fin.s1 (i := .iadd) (k := 1) (pc' := 33) (st' := [.int (l1 + (8 : Int32)), .int l4]) (by decide +kernel) rfl rfl ?_
  refine ab_fin.br (c := (l1 + (8 : Int32)) ≤ l4) (i := .if_icmp .ge 22) (off := 22) (t := 55) (pc' := 36) (r := []) (by decide +kernel) rfl (by decide +kernel) rfl (fun q => ?_) (fun q => ?_)
  · replace w := w.1 q
    refine ab_fin.s2 (i := .lload_n 2) (k := 1) (pc' := 56) (lv' := [(0, .ref 0), (1, .int l1), (2, .long l2), (4, .int l4)]) (st' := [.long l2]) (by decide +kernel) rfl rfl ?_
    exact ab_fin.q_ret (i := .lreturn) (k := 1) (v := some (.long l2)) (by decide +kernel) rfl F w
  · replace w := w.2 q
    refine ab_fin.s2 (i := .lload_n 2) (k := 1) (pc' := 37) (lv' := [(0, .ref 0), (1, .int l1), (2, .long l2), (4, .int l4)]) (st' := [.long l2]) (by decide +kernel) rfl rfl ?_
    refine ab_fin.s1i (i := .bipush 8) (k := 2) (pc' := 39) (n := 8) (by decide +kernel) rfl (by decide +kernel) rfl ?_
    refine ab_fin.s1 (i := .lshl) (k := 1) (pc' := 40) (st' := [.long (l2 <<< (Int32.toInt64 (8 : Int32) &&& 63))]) (by decide +kernel) rfl rfl ?_
    refine ab_fin.s2 (i := .aload_n 0) (k := 1) (pc' := 41) (lv' := [(0, .ref 0), (1, .int l1), (2, .long l2), (4, .int l4)]) (st' := [.ref 0, .long (l2 <<< (Int32.toInt64 (8 : Int32) &&& 63))]) (by decide +kernel) rfl rfl ?_
    refine ab_fin.s2 (i := .iload 4) (k := 2) (pc' := 43) (lv' := [(0, .ref 0), (1, .int l1), (2, .long l2), (4, .int l4)]) (st' := [.int l4, .ref 0, .long (l2 <<< (Int32.toInt64 (8 : Int32) &&& 63))]) (by decide +kernel) rfl rfl ?_
    refine ab_fin.q_yI (i := .invokevirtual 259) (k := 3) (y := 3091) (As := [.ref 0, .int l4]) (rest := [.long (l2 <<< (Int32.toInt64 (8 : Int32) &&& 63))]) (M' := (mX12_byteOfResult, [])) (lv2 := [(0, .ref 0), (1, .int l4)]) (pc' := 46) (X := K) (by decide +kernel) (ab_cv rfl rfl (conc_get (σ := σ) (F.s t0_0)) ⟨(Nat.le_of_ble_eq_true rfl), (Nat.le_of_ble_eq_true rfl)⟩ rfl) rfl (Nat.le_of_ble_eq_true rfl) rfl rfl (hY_no fun E => rfl) w (fun v3 τ1 F2 w => ?_)
    refine ab_fin.s1 (i := .i2l) (k := 1) (pc' := 47) (st' := [.long ((Int32.toInt64 v3)), .long (l2 <<< (Int32.toInt64 (8 : Int32) &&& 63))]) (by decide +kernel) rfl rfl ?_
    refine ab_fin.s1 (i := .lor) (k := 1) (pc' := 48) (st' := [.long ((l2 <<< (Int32.toInt64 (8 : Int32) &&& 63)) ||| ((Int32.toInt64 v3)))]) (by decide +kernel) rfl rfl ?_
    refine ab_fin.s2 (i := .lstore_n 2) (k := 1) (pc' := 49) (lv' := [(2, .long ((l2 <<< (Int32.toInt64 (8 : Int32) &&& 63)) ||| ((Int32.toInt64 v3)))), (0, .ref 0), (1, .int l1), (4, .int l4)]) (st' := []) (by decide +kernel) rfl rfl ?_
    refine ab_fin.q_inc (n := 4) (c := 1) (pc' := 52) (lv' := [(4, .int (l4 + 1)), (2, .long ((l2 <<< (Int32.toInt64 (8 : Int32) &&& 63)) ||| ((Int32.toInt64 v3)))), (0, .ref 0), (1, .int l1)]) (by decide +kernel) (by decide) rfl rfl rfl rfl ?_
    refine ab_fin.s3 (i := .goto (-25)) (k := 3) (t := 27) (st' := []) (by decide +kernel) (ab_gto (by decide +kernel)) ?_
    exact ab_fin.lv ⟨(List.forall_mem_cons.mpr ⟨(List.Mem.tail _ (List.Mem.tail _ (List.Mem.head _))), (List.forall_mem_cons.mpr ⟨(List.Mem.tail _ (List.Mem.tail _ (List.Mem.tail _ (List.Mem.head _)))), (List.forall_mem_cons.mpr ⟨(List.Mem.tail _ (List.Mem.head _)), (List.forall_mem_cons.mpr ⟨(List.Mem.head _), (fun _ h => absurd h List.not_mem_nil)⟩)⟩)⟩)⟩), (show ([4, 2, 0, 1] : List Nat).Nodup from by decide)⟩ w
theorem T_X12_byteOfResult_0 {Z : zT} {d : Nat} {σ : Sg} {l1 : Int32} {K : kS} (F : FX ΦC σ.sh σ.r) (w : ((l1 >>> ((1 : Int32) &&& 31)) < 0 → K (.inl (some (.int 0))) σ) ∧ (¬ (l1 >>> ((1 : Int32) &&& 31)) < 0 → ((l1 >>> ((1 : Int32) &&& 31)) < (σ.i 0 10) → (¬ (l1 &&& (1 : Int32)) = 0 → ib (l1 >>> ((1 : Int32) &&& 31)) 512 ∧ (K (.inl (some (.int ((σ.i 98 ((l1 >>> ((1 : Int32) &&& 31)).toNatClampNeg)) &&& (255 : Int32))))) σ)) ∧ ((l1 &&& (1 : Int32)) = 0 → ib (l1 >>> ((1 : Int32) &&& 31)) 512 ∧ (K (.inl (some (.int (((σ.i 98 ((l1 >>> ((1 : Int32) &&& 31)).toNatClampNeg)) >>> ((8 : Int32) &&& 31)) &&& (255 : Int32))))) σ))) ∧ (¬ (l1 >>> ((1 : Int32) &&& 31)) < (σ.i 0 10) → K (.inl (some (.int 0))) σ))) : C_X12_byteOfResult_0 Z (d + 1) σ l1 K := by
  unfold C_X12_byteOfResult_0
  refine ab_fin.s2 (i := .iload_n 1) (k := 1) (pc' := 1) (lv' := [(0, .ref 0), (1, .int l1)]) (st' := [.int l1]) (by decide +kernel) rfl rfl ?_
  refine ab_fin.s1i (i := .iconst 1) (k := 1) (pc' := 2) (n := 1) (by decide +kernel) rfl (by decide +kernel) rfl ?_
  refine ab_fin.s1 (i := .ishr) (k := 1) (pc' := 3) (st' := [.int (l1 >>> ((1 : Int32) &&& 31))]) (by decide +kernel) rfl rfl ?_
  refine ab_fin.s2 (i := .istore_n 2) (k := 1) (pc' := 4) (lv' := [(2, .int (l1 >>> ((1 : Int32) &&& 31))), (0, .ref 0), (1, .int l1)]) (st' := []) (by decide +kernel) rfl rfl ?_
  refine ab_fin.s2 (i := .iload_n 2) (k := 1) (pc' := 5) (lv' := [(2, .int (l1 >>> ((1 : Int32) &&& 31))), (0, .ref 0), (1, .int l1)]) (st' := [.int (l1 >>> ((1 : Int32) &&& 31))]) (by decide +kernel) rfl rfl ?_
  refine ab_fin.br (c := (l1 >>> ((1 : Int32) &&& 31)) < 0) (i := .ifCond .lt 11) (off := 11) (t := 16) (pc' := 8) (r := []) (by decide +kernel) rfl (by decide +kernel) rfl (fun q => ?_) (fun q => ?_)
  · replace w := w.1 q
    refine ab_fin.s1i (i := .iconst 0) (k := 1) (pc' := 17) (n := 0) (by decide +kernel) rfl (by decide +kernel) rfl ?_
    exact ab_fin.q_ret (i := .ireturn) (k := 1) (v := some (.int 0)) (by decide +kernel) rfl F w
  · replace w := w.2 q
    refine ab_fin.s2 (i := .iload_n 2) (k := 1) (pc' := 9) (lv' := [(2, .int (l1 >>> ((1 : Int32) &&& 31))), (0, .ref 0), (1, .int l1)]) (st' := [.int (l1 >>> ((1 : Int32) &&& 31))]) (by decide +kernel) rfl rfl ?_
    refine ab_fin.s2 (i := .aload_n 0) (k := 1) (pc' := 10) (lv' := [(2, .int (l1 >>> ((1 : Int32) &&& 31))), (0, .ref 0), (1, .int l1)]) (st' := [.ref 0, .int (l1 >>> ((1 : Int32) &&& 31))]) (by decide +kernel) rfl rfl ?_
    refine ab_fin.q_rI (x := (σ.i 0 10)) (ix := 154) (ci := 13) (k := 10) (pc' := 13) (by decide +kernel) rfl (c_rI (F.s t0_0) rfl) rfl ?_
    refine ab_fin.br (c := (l1 >>> ((1 : Int32) &&& 31)) < (σ.i 0 10)) (i := .if_icmp .lt 5) (off := 5) (t := 18) (pc' := 16) (r := []) (by decide +kernel) rfl (by decide +kernel) rfl (fun q => ?_) (fun q => ?_)
    · replace w := w.1 q
      refine ab_fin.s2 (i := .iload_n 1) (k := 1) (pc' := 19) (lv' := [(2, .int (l1 >>> ((1 : Int32) &&& 31))), (0, .ref 0), (1, .int l1)]) (st' := [.int l1]) (by decide +kernel) rfl rfl ?_
      refine ab_fin.s1i (i := .iconst 1) (k := 1) (pc' := 20) (n := 1) (by decide +kernel) rfl (by decide +kernel) rfl ?_
      refine ab_fin.s1 (i := .iand) (k := 1) (pc' := 21) (st' := [.int (l1 &&& (1 : Int32))]) (by decide +kernel) rfl rfl ?_
      refine ab_fin.br (c := ¬ (l1 &&& (1 : Int32)) = 0) (i := .ifCond .ne 19) (off := 19) (t := 40) (pc' := 24) (r := []) (by decide +kernel) rfl (by decide +kernel) rfl (fun q => ?_) (fun q => ?_)
      · replace w := w.1 q
        refine ab_fin.s2 (i := .aload_n 0) (k := 1) (pc' := 41) (lv' := [(2, .int (l1 >>> ((1 : Int32) &&& 31))), (0, .ref 0), (1, .int l1)]) (st' := [.ref 0]) (by decide +kernel) rfl rfl ?_
        refine ab_fin.q_rA (b := 98) (ix := 62) (ci := 13) (k := 6) (pc' := 44) (by decide +kernel) rfl (c_rA (F.s t0_0) rfl (rC_13_6 F t0_0)) rfl ?_
        refine ab_fin.s2 (i := .iload_n 2) (k := 1) (pc' := 45) (lv' := [(2, .int (l1 >>> ((1 : Int32) &&& 31))), (0, .ref 0), (1, .int l1)]) (st' := [.int (l1 >>> ((1 : Int32) &&& 31)), .ref 98]) (by decide +kernel) rfl rfl ?_
        obtain ⟨e1, w⟩ := w
        refine ab_fin.q_eI (x := (σ.i 98 ((l1 >>> ((1 : Int32) &&& 31)).toNatClampNeg))) (pc' := 46) (by decide +kernel) (c_eI' (F.s t0_98) e1 rfl) rfl ?_
        refine ab_fin.s1i (i := .sipush 255) (k := 3) (pc' := 49) (n := 255) (by decide +kernel) rfl (by decide +kernel) rfl ?_
        refine ab_fin.s1 (i := .iand) (k := 1) (pc' := 50) (st' := [.int ((σ.i 98 ((l1 >>> ((1 : Int32) &&& 31)).toNatClampNeg)) &&& (255 : Int32))]) (by decide +kernel) rfl rfl ?_
        exact ab_fin.q_ret (i := .ireturn) (k := 1) (v := some (.int ((σ.i 98 ((l1 >>> ((1 : Int32) &&& 31)).toNatClampNeg)) &&& (255 : Int32)))) (by decide +kernel) rfl F w
      · replace w := w.2 (Decidable.of_not_not q)
        refine ab_fin.s2 (i := .aload_n 0) (k := 1) (pc' := 25) (lv' := [(2, .int (l1 >>> ((1 : Int32) &&& 31))), (0, .ref 0), (1, .int l1)]) (st' := [.ref 0]) (by decide +kernel) rfl rfl ?_
        refine ab_fin.q_rA (b := 98) (ix := 62) (ci := 13) (k := 6) (pc' := 28) (by decide +kernel) rfl (c_rA (F.s t0_0) rfl (rC_13_6 F t0_0)) rfl ?_
        refine ab_fin.s2 (i := .iload_n 2) (k := 1) (pc' := 29) (lv' := [(2, .int (l1 >>> ((1 : Int32) &&& 31))), (0, .ref 0), (1, .int l1)]) (st' := [.int (l1 >>> ((1 : Int32) &&& 31)), .ref 98]) (by decide +kernel) rfl rfl ?_
        obtain ⟨e2, w⟩ := w
        refine ab_fin.q_eI (x := (σ.i 98 ((l1 >>> ((1 : Int32) &&& 31)).toNatClampNeg))) (pc' := 30) (by decide +kernel) (c_eI' (F.s t0_98) e2 rfl) rfl ?_
        refine ab_fin.s1i (i := .bipush 8) (k := 2) (pc' := 32) (n := 8) (by decide +kernel) rfl (by decide +kernel) rfl ?_
        refine ab_fin.s1 (i := .ishr) (k := 1) (pc' := 33) (st' := [.int ((σ.i 98 ((l1 >>> ((1 : Int32) &&& 31)).toNatClampNeg)) >>> ((8 : Int32) &&& 31))]) (by decide +kernel) rfl rfl ?_
        refine ab_fin.s1i (i := .sipush 255) (k := 3) (pc' := 36) (n := 255) (by decide +kernel) rfl (by decide +kernel) rfl ?_
        refine ab_fin.s1 (i := .iand) (k := 1) (pc' := 37) (st' := [.int (((σ.i 98 ((l1 >>> ((1 : Int32) &&& 31)).toNatClampNeg)) >>> ((8 : Int32) &&& 31)) &&& (255 : Int32))]) (by decide +kernel) rfl rfl ?_
        refine ab_fin.s3 (i := .goto 13) (k := 3) (t := 50) (st' := [.int (((σ.i 98 ((l1 >>> ((1 : Int32) &&& 31)).toNatClampNeg)) >>> ((8 : Int32) &&& 31)) &&& (255 : Int32))]) (by decide +kernel) (ab_gto (by decide +kernel)) ?_
        exact ab_fin.q_ret (i := .ireturn) (k := 1) (v := some (.int (((σ.i 98 ((l1 >>> ((1 : Int32) &&& 31)).toNatClampNeg)) >>> ((8 : Int32) &&& 31)) &&& (255 : Int32)))) (by decide +kernel) rfl F w
    · replace w := w.2 q
      refine ab_fin.s1i (i := .iconst 0) (k := 1) (pc' := 17) (n := 0) (by decide +kernel) rfl (by decide +kernel) rfl ?_
      exact ab_fin.q_ret (i := .ireturn) (k := 1) (v := some (.int 0)) (by decide +kernel) rfl F w

/-! THE CLASS, PIECE BY PIECE (printed by sgen.py), 9 -/
theorem T_X9_goToSide_100 {Z : zT} {d : Nat} {σ : Sg} {l0 : Nat} {l4 : Int32} {l5 : Int32} {l6 : Int64} {K : kS} (F : FX ΦC σ.sh σ.r) (p_l0 : sh0C[l0]? = some (Sh.obj 10)) (w : ib ((((σ.i l0 10) * (16 : Int32)) + (l5 * (4 : Int32))) + l4) 592 ∧ ((0 ≤ (lg_cmp ((σ.l (l0 + 7) (((((σ.i l0 10) * (16 : Int32)) + (l5 * (4 : Int32))) + l4).toNatClampNeg)) + l6) (0 : Int64)) → C_X9_goToSide_144 Z (d + 1) σ l0 l4 l5 l6 ((σ.i l0 10) * (16 : Int32)) (((σ.i l0 10) * (16 : Int32)) + (16 : Int32)) 0 K) ∧ (¬ 0 ≤ (lg_cmp ((σ.l (l0 + 7) (((((σ.i l0 10) * (16 : Int32)) + (l5 * (4 : Int32))) + l4).toNatClampNeg)) + l6) (0 : Int64)) → K (.inl (some (.int 0))) σ))) : C_X9_goToSide_100 Z (d + 1) σ l0 l4 l5 l6 K := by
  unfold C_X9_goToSide_100
  refine ab_fin.s2 (i := .aload_n 0) (k := 1) (pc' := 101) (lv' := [(0, .ref l0), (4, .int l4), (5, .int l5), (6, .long l6)]) (st' := [.ref l0]) (by decide +kernel) rfl rfl ?_
  refine ab_fin.q_rI (x := (σ.i l0 10)) (ix := 97) (ci := 10) (k := 10) (pc' := 104) (by decide +kernel) rfl (c_rI (F.s p_l0) rfl) rfl ?_
  refine ab_fin.s1i (i := .bipush 16) (k := 2) (pc' := 106) (n := 16) (by decide +kernel) rfl (by decide +kernel) rfl ?_
  refine ab_fin.s1 (i := .imul) (k := 1) (pc' := 107) (st' := [.int ((σ.i l0 10) * (16 : Int32))]) (by decide +kernel) rfl rfl ?_
  refine ab_fin.s2 (i := .istore 8) (k := 2) (pc' := 109) (lv' := [(8, .int ((σ.i l0 10) * (16 : Int32))), (0, .ref l0), (4, .int l4), (5, .int l5), (6, .long l6)]) (st' := []) (by decide +kernel) rfl rfl ?_
  refine ab_fin.s2 (i := .iload 8) (k := 2) (pc' := 111) (lv' := [(8, .int ((σ.i l0 10) * (16 : Int32))), (0, .ref l0), (4, .int l4), (5, .int l5), (6, .long l6)]) (st' := [.int ((σ.i l0 10) * (16 : Int32))]) (by decide +kernel) rfl rfl ?_
  refine ab_fin.s1i (i := .bipush 16) (k := 2) (pc' := 113) (n := 16) (by decide +kernel) rfl (by decide +kernel) rfl ?_
  refine ab_fin.s1 (i := .iadd) (k := 1) (pc' := 114) (st' := [.int (((σ.i l0 10) * (16 : Int32)) + (16 : Int32))]) (by decide +kernel) rfl rfl ?_
  refine ab_fin.s2 (i := .istore 9) (k := 2) (pc' := 116) (lv' := [(9, .int (((σ.i l0 10) * (16 : Int32)) + (16 : Int32))), (8, .int ((σ.i l0 10) * (16 : Int32))), (0, .ref l0), (4, .int l4), (5, .int l5), (6, .long l6)]) (st' := []) (by decide +kernel) rfl rfl ?_
  refine ab_fin.s2 (i := .aload_n 0) (k := 1) (pc' := 117) (lv' := [(9, .int (((σ.i l0 10) * (16 : Int32)) + (16 : Int32))), (8, .int ((σ.i l0 10) * (16 : Int32))), (0, .ref l0), (4, .int l4), (5, .int l5), (6, .long l6)]) (st' := [.ref l0]) (by decide +kernel) rfl rfl ?_
  refine ab_fin.q_rA (b := (l0 + 7)) (ix := 32) (ci := 10) (k := 9) (pc' := 120) (by decide +kernel) rfl (c_rA (F.s p_l0) rfl (rC_10_9 F p_l0)) rfl ?_
  refine ab_fin.s2 (i := .iload 8) (k := 2) (pc' := 122) (lv' := [(9, .int (((σ.i l0 10) * (16 : Int32)) + (16 : Int32))), (8, .int ((σ.i l0 10) * (16 : Int32))), (0, .ref l0), (4, .int l4), (5, .int l5), (6, .long l6)]) (st' := [.int ((σ.i l0 10) * (16 : Int32)), .ref (l0 + 7)]) (by decide +kernel) rfl rfl ?_
  refine ab_fin.s2 (i := .iload 5) (k := 2) (pc' := 124) (lv' := [(9, .int (((σ.i l0 10) * (16 : Int32)) + (16 : Int32))), (8, .int ((σ.i l0 10) * (16 : Int32))), (0, .ref l0), (4, .int l4), (5, .int l5), (6, .long l6)]) (st' := [.int l5, .int ((σ.i l0 10) * (16 : Int32)), .ref (l0 + 7)]) (by decide +kernel) rfl rfl ?_
  refine ab_fin.s1i (i := .iconst 4) (k := 1) (pc' := 125) (n := 4) (by decide +kernel) rfl (by decide +kernel) rfl ?_
  refine ab_fin.s1 (i := .imul) (k := 1) (pc' := 126) (st' := [.int (l5 * (4 : Int32)), .int ((σ.i l0 10) * (16 : Int32)), .ref (l0 + 7)]) (by decide +kernel) rfl rfl ?_
  refine ab_fin.s1 (i := .iadd) (k := 1) (pc' := 127) (st' := [.int (((σ.i l0 10) * (16 : Int32)) + (l5 * (4 : Int32))), .ref (l0 + 7)]) (by decide +kernel) rfl rfl ?_
  refine ab_fin.s2 (i := .iload 4) (k := 2) (pc' := 129) (lv' := [(9, .int (((σ.i l0 10) * (16 : Int32)) + (16 : Int32))), (8, .int ((σ.i l0 10) * (16 : Int32))), (0, .ref l0), (4, .int l4), (5, .int l5), (6, .long l6)]) (st' := [.int l4, .int (((σ.i l0 10) * (16 : Int32)) + (l5 * (4 : Int32))), .ref (l0 + 7)]) (by decide +kernel) rfl rfl ?_
  refine ab_fin.s1 (i := .iadd) (k := 1) (pc' := 130) (st' := [.int ((((σ.i l0 10) * (16 : Int32)) + (l5 * (4 : Int32))) + l4), .ref (l0 + 7)]) (by decide +kernel) rfl rfl ?_
  obtain ⟨e1, w⟩ := w
  refine ab_fin.q_eL (x := (σ.l (l0 + 7) (((((σ.i l0 10) * (16 : Int32)) + (l5 * (4 : Int32))) + l4).toNatClampNeg))) (pc' := 131) (by decide +kernel) (c_eL' (F.s (kC_10_7 p_l0)) e1 rfl) rfl ?_
  refine ab_fin.s2 (i := .lload 6) (k := 2) (pc' := 133) (lv' := [(9, .int (((σ.i l0 10) * (16 : Int32)) + (16 : Int32))), (8, .int ((σ.i l0 10) * (16 : Int32))), (0, .ref l0), (4, .int l4), (5, .int l5), (6, .long l6)]) (st' := [.long l6, .long (σ.l (l0 + 7) (((((σ.i l0 10) * (16 : Int32)) + (l5 * (4 : Int32))) + l4).toNatClampNeg))]) (by decide +kernel) rfl rfl ?_
  refine ab_fin.s1 (i := .ladd) (k := 1) (pc' := 134) (st' := [.long ((σ.l (l0 + 7) (((((σ.i l0 10) * (16 : Int32)) + (l5 * (4 : Int32))) + l4).toNatClampNeg)) + l6)]) (by decide +kernel) rfl rfl ?_
  refine ab_fin.s1l (i := .lconst 0) (k := 1) (pc' := 135) (n := 0) (by decide +kernel) rfl (by decide +kernel) rfl ?_
  refine ab_fin.s1 (i := .lcmp) (k := 1) (pc' := 136) (st' := [.int (lg_cmp ((σ.l (l0 + 7) (((((σ.i l0 10) * (16 : Int32)) + (l5 * (4 : Int32))) + l4).toNatClampNeg)) + l6) (0 : Int64))]) (by decide +kernel) rfl rfl ?_
  refine ab_fin.br (c := 0 ≤ (lg_cmp ((σ.l (l0 + 7) (((((σ.i l0 10) * (16 : Int32)) + (l5 * (4 : Int32))) + l4).toNatClampNeg)) + l6) (0 : Int64))) (i := .ifCond .ge 5) (off := 5) (t := 141) (pc' := 139) (r := []) (by decide +kernel) rfl (by decide +kernel) rfl (fun q => ?_) (fun q => ?_)
  · replace w := w.1 q
    refine ab_fin.s1i (i := .iconst 0) (k := 1) (pc' := 142) (n := 0) (by decide +kernel) rfl (by decide +kernel) rfl ?_
    refine ab_fin.s2 (i := .istore 10) (k := 2) (pc' := 144) (lv' := [(10, .int 0), (9, .int (((σ.i l0 10) * (16 : Int32)) + (16 : Int32))), (8, .int ((σ.i l0 10) * (16 : Int32))), (0, .ref l0), (4, .int l4), (5, .int l5), (6, .long l6)]) (st' := []) (by decide +kernel) rfl rfl ?_
    exact ab_fin.lv ⟨(List.forall_mem_cons.mpr ⟨(List.Mem.tail _ (List.Mem.tail _ (List.Mem.tail _ (List.Mem.head _)))), (List.forall_mem_cons.mpr ⟨(List.Mem.tail _ (List.Mem.tail _ (List.Mem.tail _ (List.Mem.tail _ (List.Mem.head _))))), (List.forall_mem_cons.mpr ⟨(List.Mem.tail _ (List.Mem.tail _ (List.Mem.tail _ (List.Mem.tail _ (List.Mem.tail _ (List.Mem.head _)))))), (List.forall_mem_cons.mpr ⟨(List.Mem.tail _ (List.Mem.tail _ (List.Mem.tail _ (List.Mem.tail _ (List.Mem.tail _ (List.Mem.tail _ (List.Mem.head _))))))), (List.forall_mem_cons.mpr ⟨(List.Mem.tail _ (List.Mem.tail _ (List.Mem.head _))), (List.forall_mem_cons.mpr ⟨(List.Mem.tail _ (List.Mem.head _)), (List.forall_mem_cons.mpr ⟨(List.Mem.head _), (fun _ h => absurd h List.not_mem_nil)⟩)⟩)⟩)⟩)⟩)⟩)⟩), (show ([10, 9, 8, 0, 4, 5, 6] : List Nat).Nodup from by decide)⟩ w
  · replace w := w.2 q
    refine ab_fin.s1i (i := .iconst 0) (k := 1) (pc' := 140) (n := 0) (by decide +kernel) rfl (by decide +kernel) rfl ?_
    exact ab_fin.q_ret (i := .ireturn) (k := 1) (v := some (.int 0)) (by decide +kernel) rfl F w
theorem T_X9_goToSide_144 {Z : zT} {d : Nat} {σ : Sg} {l0 : Nat} {l4 : Int32} {l5 : Int32} {l6 : Int64} {l8 : Int32} {l9 : Int32} {l10 : Int32} {K : kS} (F : FX ΦC σ.sh σ.r) (p_l0 : sh0C[l0]? = some (Sh.obj 10)) (w : (4 ≤ l10 → K (.inl (some (.int 1))) σ) ∧ (¬ 4 ≤ l10 → C_X9_goToSide_153 Z (d + 1) σ l0 l4 l5 l6 l8 l9 l10 0 K)) : C_X9_goToSide_144 Z (d + 1) σ l0 l4 l5 l6 l8 l9 l10 K := by
  unfold C_X9_goToSide_144
  refine ab_fin.s2 (i := .iload 10) (k := 2) (pc' := 146) (lv' := [(0, .ref l0), (4, .int l4), (5, .int l5), (6, .long l6), (8, .int l8), (9, .int l9), (10, .int l10)]) (st' := [.int l10]) (by decide +kernel) rfl rfl ?_
  refine ab_fin.s1i (i := .iconst 4) (k := 1) (pc' := 147) (n := 4) (by decide +kernel) rfl (by decide +kernel) rfl ?_
  refine ab_fin.br (c := 4 ≤ l10) (i := .if_icmp .ge 107) (off := 107) (t := 254) (pc' := 150) (r := []) (by decide +kernel) rfl (by decide +kernel) rfl (fun q => ?_) (fun q => ?_)
  · replace w := w.1 q
    refine ab_fin.s1i (i := .iconst 1) (k := 1) (pc' := 255) (n := 1) (by decide +kernel) rfl (by decide +kernel) rfl ?_
    exact ab_fin.q_ret (i := .ireturn) (k := 1) (v := some (.int 1)) (by decide +kernel) rfl F w
  · replace w := w.2 q
    refine ab_fin.s1i (i := .iconst 0) (k := 1) (pc' := 151) (n := 0) (by decide +kernel) rfl (by decide +kernel) rfl ?_
    refine ab_fin.s2 (i := .istore 11) (k := 2) (pc' := 153) (lv' := [(11, .int 0), (0, .ref l0), (4, .int l4), (5, .int l5), (6, .long l6), (8, .int l8), (9, .int l9), (10, .int l10)]) (st' := []) (by decide +kernel) rfl rfl ?_
    exact ab_fin.lv ⟨(List.forall_mem_cons.mpr ⟨(List.Mem.tail _ (List.Mem.head _)), (List.forall_mem_cons.mpr ⟨(List.Mem.tail _ (List.Mem.tail _ (List.Mem.head _))), (List.forall_mem_cons.mpr ⟨(List.Mem.tail _ (List.Mem.tail _ (List.Mem.tail _ (List.Mem.head _)))), (List.forall_mem_cons.mpr ⟨(List.Mem.tail _ (List.Mem.tail _ (List.Mem.tail _ (List.Mem.tail _ (List.Mem.head _))))), (List.forall_mem_cons.mpr ⟨(List.Mem.tail _ (List.Mem.tail _ (List.Mem.tail _ (List.Mem.tail _ (List.Mem.tail _ (List.Mem.head _)))))), (List.forall_mem_cons.mpr ⟨(List.Mem.tail _ (List.Mem.tail _ (List.Mem.tail _ (List.Mem.tail _ (List.Mem.tail _ (List.Mem.tail _ (List.Mem.head _))))))), (List.forall_mem_cons.mpr ⟨(List.Mem.tail _ (List.Mem.tail _ (List.Mem.tail _ (List.Mem.tail _ (List.Mem.tail _ (List.Mem.tail _ (List.Mem.tail _ (List.Mem.head _)))))))), (List.forall_mem_cons.mpr ⟨(List.Mem.head _), (fun _ h => absurd h List.not_mem_nil)⟩)⟩)⟩)⟩)⟩)⟩)⟩)⟩), (show ([11, 0, 4, 5, 6, 8, 9, 10] : List Nat).Nodup from by decide)⟩ w
theorem T_X9_goToSide_153 {Z : zT} {d : Nat} {σ : Sg} {l0 : Nat} {l4 : Int32} {l5 : Int32} {l6 : Int64} {l8 : Int32} {l9 : Int32} {l10 : Int32} {l11 : Int32} {K : kS} (F : FX ΦC σ.sh σ.r) (p_l0 : sh0C[l0]? = some (Sh.obj 10)) (w : (4 ≤ l11 → C_X9_goToSide_144 Z (d + 1) σ l0 l4 l5 l6 l8 l9 (l10 + 1) K) ∧ (¬ 4 ≤ l11 → ib ((l8 + (l10 * (4 : Int32))) + l11) 592 ∧ (ib ((l8 + (l10 * (4 : Int32))) + l4) 592 ∧ (ib ((l8 + (l5 * (4 : Int32))) + l11) 592 ∧ ((0 ≤ (lg_cmp (((σ.l (l0 + 7) (((l8 + (l10 * (4 : Int32))) + l4).toNatClampNeg)) + l6) + (σ.l (l0 + 7) (((l8 + (l5 * (4 : Int32))) + l11).toNatClampNeg))) (σ.l (l0 + 7) (((l8 + (l10 * (4 : Int32))) + l11).toNatClampNeg))) → ib ((l9 + (l10 * (4 : Int32))) + l11) 592 ∧ (C_X9_goToSide_153 Z (d + 1) (σ.wl (l0 + 7) (((l9 + (l10 * (4 : Int32))) + l11).toNatClampNeg) (σ.l (l0 + 7) (((l8 + (l10 * (4 : Int32))) + l11).toNatClampNeg))) l0 l4 l5 l6 l8 l9 l10 (l11 + 1) K)) ∧ (¬ 0 ≤ (lg_cmp (((σ.l (l0 + 7) (((l8 + (l10 * (4 : Int32))) + l4).toNatClampNeg)) + l6) + (σ.l (l0 + 7) (((l8 + (l5 * (4 : Int32))) + l11).toNatClampNeg))) (σ.l (l0 + 7) (((l8 + (l10 * (4 : Int32))) + l11).toNatClampNeg))) → ib ((l9 + (l10 * (4 : Int32))) + l11) 592 ∧ (C_X9_goToSide_153 Z (d + 1) (σ.wl (l0 + 7) (((l9 + (l10 * (4 : Int32))) + l11).toNatClampNeg) (((σ.l (l0 + 7) (((l8 + (l10 * (4 : Int32))) + l4).toNatClampNeg)) + l6) + (σ.l (l0 + 7) (((l8 + (l5 * (4 : Int32))) + l11).toNatClampNeg)))) l0 l4 l5 l6 l8 l9 l10 (l11 + 1) K))))))) : C_X9_goToSide_153 Z (d + 1) σ l0 l4 l5 l6 l8 l9 l10 l11 K := by
  unfold C_X9_goToSide_153
  refine ab_fin.s2 (i := .iload 11) (k := 2) (pc' := 155) (lv' := [(0, .ref l0), (4, .int l4), (5, .int l5), (6, .long l6), (8, .int l8), (9, .int l9), (10, .int l10), (11, .int l11)]) (st' := [.int l11]) (by decide +kernel) rfl rfl ?_
  refine ab_fin.s1i (i := .iconst 4) (k := 1) (pc' := 156) (n := 4) (by decide +kernel) rfl (by decide +kernel) rfl ?_
  refine ab_fin.br (c := 4 ≤ l11) (i := .if_icmp .ge 92) (off := 92) (t := 248) (pc' := 159) (r := []) (by decide +kernel) rfl (by decide +kernel) rfl (fun q => ?_) (fun q => ?_)
  · replace w := w.1 q
    refine ab_fin.q_inc (n := 10) (c := 1) (pc' := 251) (lv' := [(10, .int (l10 + 1)), (0, .ref l0), (4, .int l4), (5, .int l5), (6, .long l6), (8, .int l8), (9, .int l9), (11, .int l11)]) (by decide +kernel) (by decide) rfl rfl rfl rfl ?_
    refine ab_fin.s3 (i := .goto (-107)) (k := 3) (t := 144) (st' := []) (by decide +kernel) (ab_gto (by decide +kernel)) ?_
    exact ab_fin.lv ⟨(List.forall_mem_cons.mpr ⟨(List.Mem.tail _ (List.Mem.head _)), (List.forall_mem_cons.mpr ⟨(List.Mem.tail _ (List.Mem.tail _ (List.Mem.head _))), (List.forall_mem_cons.mpr ⟨(List.Mem.tail _ (List.Mem.tail _ (List.Mem.tail _ (List.Mem.head _)))), (List.forall_mem_cons.mpr ⟨(List.Mem.tail _ (List.Mem.tail _ (List.Mem.tail _ (List.Mem.tail _ (List.Mem.head _))))), (List.forall_mem_cons.mpr ⟨(List.Mem.tail _ (List.Mem.tail _ (List.Mem.tail _ (List.Mem.tail _ (List.Mem.tail _ (List.Mem.head _)))))), (List.forall_mem_cons.mpr ⟨(List.Mem.tail _ (List.Mem.tail _ (List.Mem.tail _ (List.Mem.tail _ (List.Mem.tail _ (List.Mem.tail _ (List.Mem.head _))))))), (List.forall_mem_cons.mpr ⟨(List.Mem.head _), (fun _ h => absurd h List.not_mem_nil)⟩)⟩)⟩)⟩)⟩)⟩)⟩), (show ([10, 0, 4, 5, 6, 8, 9, 11] : List Nat).Nodup from by decide)⟩ w
  · replace w := w.2 q
    refine ab_fin.s2 (i := .aload_n 0) (k := 1) (pc' := 160) (lv' := [(0, .ref l0), (4, .int l4), (5, .int l5), (6, .long l6), (8, .int l8), (9, .int l9), (10, .int l10), (11, .int l11)]) (st' := [.ref l0]) (by decide +kernel) rfl rfl ?_
    refine ab_fin.q_rA (b := (l0 + 7)) (ix := 32) (ci := 10) (k := 9) (pc' := 163) (by decide +kernel) rfl (c_rA (F.s p_l0) rfl (rC_10_9 F p_l0)) rfl ?_
    refine ab_fin.s2 (i := .iload 8) (k := 2) (pc' := 165) (lv' := [(0, .ref l0), (4, .int l4), (5, .int l5), (6, .long l6), (8, .int l8), (9, .int l9), (10, .int l10), (11, .int l11)]) (st' := [.int l8, .ref (l0 + 7)]) (by decide +kernel) rfl rfl ?_
    refine ab_fin.s2 (i := .iload 10) (k := 2) (pc' := 167) (lv' := [(0, .ref l0), (4, .int l4), (5, .int l5), (6, .long l6), (8, .int l8), (9, .int l9), (10, .int l10), (11, .int l11)]) (st' := [.int l10, .int l8, .ref (l0 + 7)]) (by decide +kernel) rfl rfl ?_
    refine ab_fin.s1i (i := .iconst 4) (k := 1) (pc' := 168) (n := 4) (by decide +kernel) rfl (by decide +kernel) rfl ?_
    refine ab_fin.s1 (i := .imul) (k := 1) (pc' := 169) (st' := [.int (l10 * (4 : Int32)), .int l8, .ref (l0 + 7)]) (by decide +kernel) rfl rfl ?_
    refine ab_fin.s1 (i := .iadd) (k := 1) (pc' := 170) (st' := [.int (l8 + (l10 * (4 : Int32))), .ref (l0 + 7)]) (by decide +kernel) rfl rfl ?_
    refine ab_fin.s2 (i := .iload 11) (k := 2) (pc' := 172) (lv' := [(0, .ref l0), (4, .int l4), (5, .int l5), (6, .long l6), (8, .int l8), (9, .int l9), (10, .int l10), (11, .int l11)]) (st' := [.int l11, .int (l8 + (l10 * (4 : Int32))), .ref (l0 + 7)]) (by decide +kernel) rfl rfl ?_
    refine ab_fin.s1 (i := .iadd) (k := 1) (pc' := 173) (st' := [.int ((l8 + (l10 * (4 : Int32))) + l11), .ref (l0 + 7)]) (by decide +kernel) rfl rfl ?_
    obtain ⟨e1, w⟩ := w
    refine ab_fin.q_eL (x := (σ.l (l0 + 7) (((l8 + (l10 * (4 : Int32))) + l11).toNatClampNeg))) (pc' := 174) (by decide +kernel) (c_eL' (F.s (kC_10_7 p_l0)) e1 rfl) rfl ?_
    refine ab_fin.s2 (i := .lstore 12) (k := 2) (pc' := 176) (lv' := [(12, .long (σ.l (l0 + 7) (((l8 + (l10 * (4 : Int32))) + l11).toNatClampNeg))), (0, .ref l0), (4, .int l4), (5, .int l5), (6, .long l6), (8, .int l8), (9, .int l9), (10, .int l10), (11, .int l11)]) (st' := []) (by decide +kernel) rfl rfl ?_
    refine ab_fin.s2 (i := .aload_n 0) (k := 1) (pc' := 177) (lv' := [(12, .long (σ.l (l0 + 7) (((l8 + (l10 * (4 : Int32))) + l11).toNatClampNeg))), (0, .ref l0), (4, .int l4), (5, .int l5), (6, .long l6), (8, .int l8), (9, .int l9), (10, .int l10), (11, .int l11)]) (st' := [.ref l0]) (by decide +kernel) rfl rfl ?_
    refine ab_fin.q_rA (b := (l0 + 7)) (ix := 32) (ci := 10) (k := 9) (pc' := 180) (by decide +kernel) rfl (c_rA (F.s p_l0) rfl (rC_10_9 F p_l0)) rfl ?_
    refine ab_fin.s2 (i := .iload 8) (k := 2) (pc' := 182) (lv' := [(12, .long (σ.l (l0 + 7) (((l8 + (l10 * (4 : Int32))) + l11).toNatClampNeg))), (0, .ref l0), (4, .int l4), (5, .int l5), (6, .long l6), (8, .int l8), (9, .int l9), (10, .int l10), (11, .int l11)]) (st' := [.int l8, .ref (l0 + 7)]) (by decide +kernel) rfl rfl ?_
    refine ab_fin.s2 (i := .iload 10) (k := 2) (pc' := 184) (lv' := [(12, .long (σ.l (l0 + 7) (((l8 + (l10 * (4 : Int32))) + l11).toNatClampNeg))), (0, .ref l0), (4, .int l4), (5, .int l5), (6, .long l6), (8, .int l8), (9, .int l9), (10, .int l10), (11, .int l11)]) (st' := [.int l10, .int l8, .ref (l0 + 7)]) (by decide +kernel) rfl rfl ?_
    refine ab_fin.s1i (i := .iconst 4) (k := 1) (pc' := 185) (n := 4) (by decide +kernel) rfl (by decide +kernel) rfl ?_
    refine ab_fin.s1 (i := .imul) (k := 1) (pc' := 186) (st' := [.int (l10 * (4 : Int32)), .int l8, .ref (l0 + 7)]) (by decide +kernel) rfl rfl ?_
    refine ab_fin.s1 (i := .iadd) (k := 1) (pc' := 187) (st' := [.int (l8 + (l10 * (4 : Int32))), .ref (l0 + 7)]) (by decide +kernel) rfl rfl ?_
    refine ab_fin.s2 (i := .iload 4) (k := 2) (pc' := 189) (lv' := [(12, .long (σ.l (l0 + 7) (((l8 + (l10 * (4 : Int32))) + l11).toNatClampNeg))), (0, .ref l0), (4, .int l4), (5, .int l5), (6, .long l6), (8, .int l8), (9, .int l9), (10, .int l10), (11, .int l11)]) (st' := [.int l4, .int (l8 + (l10 * (4 : Int32))), .ref (l0 + 7)]) (by decide +kernel) rfl rfl ?_
    refine ab_fin.s1 (i := .iadd) (k := 1) (pc' := 190) (st' := [.int ((l8 + (l10 * (4 : Int32))) + l4), .ref (l0 + 7)]) (by decide +kernel) rfl rfl ?_
    obtain ⟨e2, w⟩ := w
    refine ab_fin.q_eL (x := (σ.l (l0 + 7) (((l8 + (l10 * (4 : Int32))) + l4).toNatClampNeg))) (pc' := 191) (by decide +kernel) (c_eL' (F.s (kC_10_7 p_l0)) e2 rfl) rfl ?_
    refine ab_fin.s2 (i := .lload 6) (k := 2) (pc' := 193) (lv' := [(12, .long (σ.l (l0 + 7) (((l8 + (l10 * (4 : Int32))) + l11).toNatClampNeg))), (0, .ref l0), (4, .int l4), (5, .int l5), (6, .long l6), (8, .int l8), (9, .int l9), (10, .int l10), (11, .int l11)]) (st' := [.long l6, .long (σ.l (l0 + 7) (((l8 + (l10 * (4 : Int32))) + l4).toNatClampNeg))]) (by decide +kernel) rfl rfl ?_
    refine ab_fin.s1 (i := .ladd) (k := 1) (pc' := 194) (st' := [.long ((σ.l (l0 + 7) (((l8 + (l10 * (4 : Int32))) + l4).toNatClampNeg)) + l6)]) (by decide +kernel) rfl rfl ?_
    refine ab_fin.s2 (i := .aload_n 0) (k := 1) (pc' := 195) (lv' := [(12, .long (σ.l (l0 + 7) (((l8 + (l10 * (4 : Int32))) + l11).toNatClampNeg))), (0, .ref l0), (4, .int l4), (5, .int l5), (6, .long l6), (8, .int l8), (9, .int l9), (10, .int l10), (11, .int l11)]) (st' := [.ref l0, .long ((σ.l (l0 + 7) (((l8 + (l10 * (4 : Int32))) + l4).toNatClampNeg)) + l6)]) (by decide +kernel) rfl rfl ?_
    refine ab_fin.q_rA (b := (l0 + 7)) (ix := 32) (ci := 10) (k := 9) (pc' := 198) (by decide +kernel) rfl (c_rA (F.s p_l0) rfl (rC_10_9 F p_l0)) rfl ?_
    refine ab_fin.s2 (i := .iload 8) (k := 2) (pc' := 200) (lv' := [(12, .long (σ.l (l0 + 7) (((l8 + (l10 * (4 : Int32))) + l11).toNatClampNeg))), (0, .ref l0), (4, .int l4), (5, .int l5), (6, .long l6), (8, .int l8), (9, .int l9), (10, .int l10), (11, .int l11)]) (st' := [.int l8, .ref (l0 + 7), .long ((σ.l (l0 + 7) (((l8 + (l10 * (4 : Int32))) + l4).toNatClampNeg)) + l6)]) (by decide +kernel) rfl rfl ?_
    refine ab_fin.s2 (i := .iload 5) (k := 2) (pc' := 202) (lv' := [(12, .long (σ.l (l0 + 7) (((l8 + (l10 * (4 : Int32))) + l11).toNatClampNeg))), (0, .ref l0), (4, .int l4), (5, .int l5), (6, .long l6), (8, .int l8), (9, .int l9), (10, .int l10), (11, .int l11)]) (st' := [.int l5, .int l8, .ref (l0 + 7), .long ((σ.l (l0 + 7) (((l8 + (l10 * (4 : Int32))) + l4).toNatClampNeg)) + l6)]) (by decide +kernel) rfl rfl ?_
    refine ab_fin.s1i (i := .iconst 4) (k := 1) (pc' := 203) (n := 4) (by decide +kernel) rfl (by decide +kernel) rfl ?_
    refine ab_fin.s1 (i := .imul) (k := 1) (pc' := 204) (st' := [.int (l5 * (4 : Int32)), .int l8, .ref (l0 + 7), .long ((σ.l (l0 + 7) (((l8 + (l10 * (4 : Int32))) + l4).toNatClampNeg)) + l6)]) (by decide +kernel) rfl rfl ?_
    refine ab_fin.s1 (i := .iadd) (k := 1) (pc' := 205) (st' := [.int (l8 + (l5 * (4 : Int32))), .ref (l0 + 7), .long ((σ.l (l0 + 7) (((l8 + (l10 * (4 : Int32))) + l4).toNatClampNeg)) + l6)]) (by decide +kernel) rfl rfl ?_
    refine ab_fin.s2 (i := .iload 11) (k := 2) (pc' := 207) (lv' := [(12, .long (σ.l (l0 + 7) (((l8 + (l10 * (4 : Int32))) + l11).toNatClampNeg))), (0, .ref l0), (4, .int l4), (5, .int l5), (6, .long l6), (8, .int l8), (9, .int l9), (10, .int l10), (11, .int l11)]) (st' := [.int l11, .int (l8 + (l5 * (4 : Int32))), .ref (l0 + 7), .long ((σ.l (l0 + 7) (((l8 + (l10 * (4 : Int32))) + l4).toNatClampNeg)) + l6)]) (by decide +kernel) rfl rfl ?_
    refine ab_fin.s1 (i := .iadd) (k := 1) (pc' := 208) (st' := [.int ((l8 + (l5 * (4 : Int32))) + l11), .ref (l0 + 7), .long ((σ.l (l0 + 7) (((l8 + (l10 * (4 : Int32))) + l4).toNatClampNeg)) + l6)]) (by decide +kernel) rfl rfl ?_
    obtain ⟨e3, w⟩ := w
    refine ab_fin.q_eL (x := (σ.l (l0 + 7) (((l8 + (l5 * (4 : Int32))) + l11).toNatClampNeg))) (pc' := 209) (by decide +kernel) (c_eL' (F.s (kC_10_7 p_l0)) e3 rfl) rfl ?_
    refine ab_fin.s1 (i := .ladd) (k := 1) (pc' := 210) (st' := [.long (((σ.l (l0 + 7) (((l8 + (l10 * (4 : Int32))) + l4).toNatClampNeg)) + l6) + (σ.l (l0 + 7) (((l8 + (l5 * (4 : Int32))) + l11).toNatClampNeg)))]) (by decide +kernel) rfl rfl ?_
    refine ab_fin.s2 (i := .lstore 14) (k := 2) (pc' := 212) (lv' := [(14, .long (((σ.l (l0 + 7) (((l8 + (l10 * (4 : Int32))) + l4).toNatClampNeg)) + l6) + (σ.l (l0 + 7) (((l8 + (l5 * (4 : Int32))) + l11).toNatClampNeg)))), (12, .long (σ.l (l0 + 7) (((l8 + (l10 * (4 : Int32))) + l11).toNatClampNeg))), (0, .ref l0), (4, .int l4), (5, .int l5), (6, .long l6), (8, .int l8), (9, .int l9), (10, .int l10), (11, .int l11)]) (st' := []) (by decide +kernel) rfl rfl ?_
    refine ab_fin.s2 (i := .aload_n 0) (k := 1) (pc' := 213) (lv' := [(14, .long (((σ.l (l0 + 7) (((l8 + (l10 * (4 : Int32))) + l4).toNatClampNeg)) + l6) + (σ.l (l0 + 7) (((l8 + (l5 * (4 : Int32))) + l11).toNatClampNeg)))), (12, .long (σ.l (l0 + 7) (((l8 + (l10 * (4 : Int32))) + l11).toNatClampNeg))), (0, .ref l0), (4, .int l4), (5, .int l5), (6, .long l6), (8, .int l8), (9, .int l9), (10, .int l10), (11, .int l11)]) (st' := [.ref l0]) (by decide +kernel) rfl rfl ?_
    refine ab_fin.q_rA (b := (l0 + 7)) (ix := 32) (ci := 10) (k := 9) (pc' := 216) (by decide +kernel) rfl (c_rA (F.s p_l0) rfl (rC_10_9 F p_l0)) rfl ?_
    refine ab_fin.s2 (i := .iload 9) (k := 2) (pc' := 218) (lv' := [(14, .long (((σ.l (l0 + 7) (((l8 + (l10 * (4 : Int32))) + l4).toNatClampNeg)) + l6) + (σ.l (l0 + 7) (((l8 + (l5 * (4 : Int32))) + l11).toNatClampNeg)))), (12, .long (σ.l (l0 + 7) (((l8 + (l10 * (4 : Int32))) + l11).toNatClampNeg))), (0, .ref l0), (4, .int l4), (5, .int l5), (6, .long l6), (8, .int l8), (9, .int l9), (10, .int l10), (11, .int l11)]) (st' := [.int l9, .ref (l0 + 7)]) (by decide +kernel) rfl rfl ?_
    refine ab_fin.s2 (i := .iload 10) (k := 2) (pc' := 220) (lv' := [(14, .long (((σ.l (l0 + 7) (((l8 + (l10 * (4 : Int32))) + l4).toNatClampNeg)) + l6) + (σ.l (l0 + 7) (((l8 + (l5 * (4 : Int32))) + l11).toNatClampNeg)))), (12, .long (σ.l (l0 + 7) (((l8 + (l10 * (4 : Int32))) + l11).toNatClampNeg))), (0, .ref l0), (4, .int l4), (5, .int l5), (6, .long l6), (8, .int l8), (9, .int l9), (10, .int l10), (11, .int l11)]) (st' := [.int l10, .int l9, .ref (l0 + 7)]) (by decide +kernel) rfl rfl ?_
    refine ab_fin.s1i (i := .iconst 4) (k := 1) (pc' := 221) (n := 4) (by decide +kernel) rfl (by decide +kernel) rfl ?_
    refine ab_fin.s1 (i := .imul) (k := 1) (pc' := 222) (st' := [.int (l10 * (4 : Int32)), .int l9, .ref (l0 + 7)]) (by decide +kernel) rfl rfl ?_
    refine ab_fin.s1 (i := .iadd) (k := 1) (pc' := 223) (st' := [.int (l9 + (l10 * (4 : Int32))), .ref (l0 + 7)]) (by decide +kernel) rfl rfl ?_
    refine ab_fin.s2 (i := .iload 11) (k := 2) (pc' := 225) (lv' := [(14, .long (((σ.l (l0 + 7) (((l8 + (l10 * (4 : Int32))) + l4).toNatClampNeg)) + l6) + (σ.l (l0 + 7) (((l8 + (l5 * (4 : Int32))) + l11).toNatClampNeg)))), (12, .long (σ.l (l0 + 7) (((l8 + (l10 * (4 : Int32))) + l11).toNatClampNeg))), (0, .ref l0), (4, .int l4), (5, .int l5), (6, .long l6), (8, .int l8), (9, .int l9), (10, .int l10), (11, .int l11)]) (st' := [.int l11, .int (l9 + (l10 * (4 : Int32))), .ref (l0 + 7)]) (by decide +kernel) rfl rfl ?_
    refine ab_fin.s1 (i := .iadd) (k := 1) (pc' := 226) (st' := [.int ((l9 + (l10 * (4 : Int32))) + l11), .ref (l0 + 7)]) (by decide +kernel) rfl rfl ?_
    refine ab_fin.s2 (i := .lload 14) (k := 2) (pc' := 228) (lv' := [(14, .long (((σ.l (l0 + 7) (((l8 + (l10 * (4 : Int32))) + l4).toNatClampNeg)) + l6) + (σ.l (l0 + 7) (((l8 + (l5 * (4 : Int32))) + l11).toNatClampNeg)))), (12, .long (σ.l (l0 + 7) (((l8 + (l10 * (4 : Int32))) + l11).toNatClampNeg))), (0, .ref l0), (4, .int l4), (5, .int l5), (6, .long l6), (8, .int l8), (9, .int l9), (10, .int l10), (11, .int l11)]) (st' := [.long (((σ.l (l0 + 7) (((l8 + (l10 * (4 : Int32))) + l4).toNatClampNeg)) + l6) + (σ.l (l0 + 7) (((l8 + (l5 * (4 : Int32))) + l11).toNatClampNeg))), .int ((l9 + (l10 * (4 : Int32))) + l11), .ref (l0 + 7)]) (by decide +kernel) rfl rfl ?_
    refine ab_fin.s2 (i := .lload 12) (k := 2) (pc' := 230) (lv' := [(14, .long (((σ.l (l0 + 7) (((l8 + (l10 * (4 : Int32))) + l4).toNatClampNeg)) + l6) + (σ.l (l0 + 7) (((l8 + (l5 * (4 : Int32))) + l11).toNatClampNeg)))), (12, .long (σ.l (l0 + 7) (((l8 + (l10 * (4 : Int32))) + l11).toNatClampNeg))), (0, .ref l0), (4, .int l4), (5, .int l5), (6, .long l6), (8, .int l8), (9, .int l9), (10, .int l10), (11, .int l11)]) (st' := [.long (σ.l (l0 + 7) (((l8 + (l10 * (4 : Int32))) + l11).toNatClampNeg)), .long (((σ.l (l0 + 7) (((l8 + (l10 * (4 : Int32))) + l4).toNatClampNeg)) + l6) + (σ.l (l0 + 7) (((l8 + (l5 * (4 : Int32))) + l11).toNatClampNeg))), .int ((l9 + (l10 * (4 : Int32))) + l11), .ref (l0 + 7)]) (by decide +kernel) rfl rfl ?_
    refine ab_fin.s1 (i := .lcmp) (k := 1) (pc' := 231) (st' := [.int (lg_cmp (((σ.l (l0 + 7) (((l8 + (l10 * (4 : Int32))) + l4).toNatClampNeg)) + l6) + (σ.l (l0 + 7) (((l8 + (l5 * (4 : Int32))) + l11).toNatClampNeg))) (σ.l (l0 + 7) (((l8 + (l10 * (4 : Int32))) + l11).toNatClampNeg))), .int ((l9 + (l10 * (4 : Int32))) + l11), .ref (l0 + 7)]) (by decide +kernel) rfl rfl ?_
    refine ab_fin.br (c := 0 ≤ (lg_cmp (((σ.l (l0 + 7) (((l8 + (l10 * (4 : Int32))) + l4).toNatClampNeg)) + l6) + (σ.l (l0 + 7) (((l8 + (l5 * (4 : Int32))) + l11).toNatClampNeg))) (σ.l (l0 + 7) (((l8 + (l10 * (4 : Int32))) + l11).toNatClampNeg)))) (i := .ifCond .ge 8) (off := 8) (t := 239) (pc' := 234) (r := [.int ((l9 + (l10 * (4 : Int32))) + l11), .ref (l0 + 7)]) (by decide +kernel) rfl (by decide +kernel) rfl (fun q => ?_) (fun q => ?_)
    · replace w := w.1 q
      refine ab_fin.s2 (i := .lload 12) (k := 2) (pc' := 241) (lv' := [(14, .long (((σ.l (l0 + 7) (((l8 + (l10 * (4 : Int32))) + l4).toNatClampNeg)) + l6) + (σ.l (l0 + 7) (((l8 + (l5 * (4 : Int32))) + l11).toNatClampNeg)))), (12, .long (σ.l (l0 + 7) (((l8 + (l10 * (4 : Int32))) + l11).toNatClampNeg))), (0, .ref l0), (4, .int l4), (5, .int l5), (6, .long l6), (8, .int l8), (9, .int l9), (10, .int l10), (11, .int l11)]) (st' := [.long (σ.l (l0 + 7) (((l8 + (l10 * (4 : Int32))) + l11).toNatClampNeg)), .int ((l9 + (l10 * (4 : Int32))) + l11), .ref (l0 + 7)]) (by decide +kernel) rfl rfl ?_
      obtain ⟨e4, w⟩ := w
      refine ab_fin.q_sL (h1 := conc (σ.wl (l0 + 7) (((l9 + (l10 * (4 : Int32))) + l11).toNatClampNeg) (σ.l (l0 + 7) (((l8 + (l10 * (4 : Int32))) + l11).toNatClampNeg)))) (pc' := 242) (by decide +kernel) (c_sL' (F.s (kC_10_7 p_l0)) e4 rfl) rfl ?_
      refine ab_fin.q_inc (n := 11) (c := 1) (pc' := 245) (lv' := [(11, .int (l11 + 1)), (14, .long (((σ.l (l0 + 7) (((l8 + (l10 * (4 : Int32))) + l4).toNatClampNeg)) + l6) + (σ.l (l0 + 7) (((l8 + (l5 * (4 : Int32))) + l11).toNatClampNeg)))), (12, .long (σ.l (l0 + 7) (((l8 + (l10 * (4 : Int32))) + l11).toNatClampNeg))), (0, .ref l0), (4, .int l4), (5, .int l5), (6, .long l6), (8, .int l8), (9, .int l9), (10, .int l10)]) (by decide +kernel) (by decide) rfl rfl rfl rfl ?_
      refine ab_fin.s3 (i := .goto (-92)) (k := 3) (t := 153) (st' := []) (by decide +kernel) (ab_gto (by decide +kernel)) ?_
      exact ab_fin.lv ⟨(List.forall_mem_cons.mpr ⟨(List.Mem.tail _ (List.Mem.tail _ (List.Mem.tail _ (List.Mem.head _)))), (List.forall_mem_cons.mpr ⟨(List.Mem.tail _ (List.Mem.tail _ (List.Mem.tail _ (List.Mem.tail _ (List.Mem.head _))))), (List.forall_mem_cons.mpr ⟨(List.Mem.tail _ (List.Mem.tail _ (List.Mem.tail _ (List.Mem.tail _ (List.Mem.tail _ (List.Mem.head _)))))), (List.forall_mem_cons.mpr ⟨(List.Mem.tail _ (List.Mem.tail _ (List.Mem.tail _ (List.Mem.tail _ (List.Mem.tail _ (List.Mem.tail _ (List.Mem.head _))))))), (List.forall_mem_cons.mpr ⟨(List.Mem.tail _ (List.Mem.tail _ (List.Mem.tail _ (List.Mem.tail _ (List.Mem.tail _ (List.Mem.tail _ (List.Mem.tail _ (List.Mem.head _)))))))), (List.forall_mem_cons.mpr ⟨(List.Mem.tail _ (List.Mem.tail _ (List.Mem.tail _ (List.Mem.tail _ (List.Mem.tail _ (List.Mem.tail _ (List.Mem.tail _ (List.Mem.tail _ (List.Mem.head _))))))))), (List.forall_mem_cons.mpr ⟨(List.Mem.tail _ (List.Mem.tail _ (List.Mem.tail _ (List.Mem.tail _ (List.Mem.tail _ (List.Mem.tail _ (List.Mem.tail _ (List.Mem.tail _ (List.Mem.tail _ (List.Mem.head _)))))))))), (List.forall_mem_cons.mpr ⟨(List.Mem.head _), (fun _ h => absurd h List.not_mem_nil)⟩)⟩)⟩)⟩)⟩)⟩)⟩)⟩), (show ([11, 14, 12, 0, 4, 5, 6, 8, 9, 10] : List Nat).Nodup from by decide)⟩ w
    · replace w := w.2 q
      refine ab_fin.s2 (i := .lload 14) (k := 2) (pc' := 236) (lv' := [(14, .long (((σ.l (l0 + 7) (((l8 + (l10 * (4 : Int32))) + l4).toNatClampNeg)) + l6) + (σ.l (l0 + 7) (((l8 + (l5 * (4 : Int32))) + l11).toNatClampNeg)))), (12, .long (σ.l (l0 + 7) (((l8 + (l10 * (4 : Int32))) + l11).toNatClampNeg))), (0, .ref l0), (4, .int l4), (5, .int l5), (6, .long l6), (8, .int l8), (9, .int l9), (10, .int l10), (11, .int l11)]) (st' := [.long (((σ.l (l0 + 7) (((l8 + (l10 * (4 : Int32))) + l4).toNatClampNeg)) + l6) + (σ.l (l0 + 7) (((l8 + (l5 * (4 : Int32))) + l11).toNatClampNeg))), .int ((l9 + (l10 * (4 : Int32))) + l11), .ref (l0 + 7)]) (by decide +kernel) rfl rfl ?_
      refine ab_fin.s3 (i := .goto 5) (k := 3) (t := 241) (st' := [.long (((σ.l (l0 + 7) (((l8 + (l10 * (4 : Int32))) + l4).toNatClampNeg)) + l6) + (σ.l (l0 + 7) (((l8 + (l5 * (4 : Int32))) + l11).toNatClampNeg))), .int ((l9 + (l10 * (4 : Int32))) + l11), .ref (l0 + 7)]) (by decide +kernel) (ab_gto (by decide +kernel)) ?_
      obtain ⟨e5, w⟩ := w
      refine ab_fin.q_sL (h1 := conc (σ.wl (l0 + 7) (((l9 + (l10 * (4 : Int32))) + l11).toNatClampNeg) (((σ.l (l0 + 7) (((l8 + (l10 * (4 : Int32))) + l4).toNatClampNeg)) + l6) + (σ.l (l0 + 7) (((l8 + (l5 * (4 : Int32))) + l11).toNatClampNeg))))) (pc' := 242) (by decide +kernel) (c_sL' (F.s (kC_10_7 p_l0)) e5 rfl) rfl ?_
      refine ab_fin.q_inc (n := 11) (c := 1) (pc' := 245) (lv' := [(11, .int (l11 + 1)), (14, .long (((σ.l (l0 + 7) (((l8 + (l10 * (4 : Int32))) + l4).toNatClampNeg)) + l6) + (σ.l (l0 + 7) (((l8 + (l5 * (4 : Int32))) + l11).toNatClampNeg)))), (12, .long (σ.l (l0 + 7) (((l8 + (l10 * (4 : Int32))) + l11).toNatClampNeg))), (0, .ref l0), (4, .int l4), (5, .int l5), (6, .long l6), (8, .int l8), (9, .int l9), (10, .int l10)]) (by decide +kernel) (by decide) rfl rfl rfl rfl ?_
      refine ab_fin.s3 (i := .goto (-92)) (k := 3) (t := 153) (st' := []) (by decide +kernel) (ab_gto (by decide +kernel)) ?_
      exact ab_fin.lv ⟨(List.forall_mem_cons.mpr ⟨(List.Mem.tail _ (List.Mem.tail _ (List.Mem.tail _ (List.Mem.head _)))), (List.forall_mem_cons.mpr ⟨(List.Mem.tail _ (List.Mem.tail _ (List.Mem.tail _ (List.Mem.tail _ (List.Mem.head _))))), (List.forall_mem_cons.mpr ⟨(List.Mem.tail _ (List.Mem.tail _ (List.Mem.tail _ (List.Mem.tail _ (List.Mem.tail _ (List.Mem.head _)))))), (List.forall_mem_cons.mpr ⟨(List.Mem.tail _ (List.Mem.tail _ (List.Mem.tail _ (List.Mem.tail _ (List.Mem.tail _ (List.Mem.tail _ (List.Mem.head _))))))), (List.forall_mem_cons.mpr ⟨(List.Mem.tail _ (List.Mem.tail _ (List.Mem.tail _ (List.Mem.tail _ (List.Mem.tail _ (List.Mem.tail _ (List.Mem.tail _ (List.Mem.head _)))))))), (List.forall_mem_cons.mpr ⟨(List.Mem.tail _ (List.Mem.tail _ (List.Mem.tail _ (List.Mem.tail _ (List.Mem.tail _ (List.Mem.tail _ (List.Mem.tail _ (List.Mem.tail _ (List.Mem.head _))))))))), (List.forall_mem_cons.mpr ⟨(List.Mem.tail _ (List.Mem.tail _ (List.Mem.tail _ (List.Mem.tail _ (List.Mem.tail _ (List.Mem.tail _ (List.Mem.tail _ (List.Mem.tail _ (List.Mem.tail _ (List.Mem.head _)))))))))), (List.forall_mem_cons.mpr ⟨(List.Mem.head _), (fun _ h => absurd h List.not_mem_nil)⟩)⟩)⟩)⟩)⟩)⟩)⟩)⟩), (show ([11, 14, 12, 0, 4, 5, 6, 8, 9, 10] : List Nat).Nodup from by decide)⟩ w
theorem T_X9_isTakenBy_0 {Z : zT} {d : Nat} {σ : Sg} {l0 : Nat} {l1 : Int32} {l2 : Int32} {K : kS} (F : FX ΦC σ.sh σ.r) (p_l0 : sh0C[l0]? = some (Sh.obj 10)) (w : C_X9_isTakenBy_14 Z (d + 1) σ l0 l1 l2 0 K) : C_X9_isTakenBy_0 Z (d + 1) σ l0 l1 l2 K := by
  unfold C_X9_isTakenBy_0
  refine ab_fin.s2 (i := .aload_n 0) (k := 1) (pc' := 1) (lv' := [(0, .ref l0), (1, .int l1), (2, .int l2)]) (st' := [.ref l0]) (by decide +kernel) rfl rfl ?_
  refine ab_fin.q_rA (b := 1) (ix := 35) (ci := 10) (k := 0) (pc' := 4) (by decide +kernel) rfl (c_rA (F.s p_l0) rfl (rC_10_0 F p_l0)) rfl ?_
  refine ab_fin.q_rA (b := 10) (ix := 52) (ci := 12) (k := 1) (pc' := 7) (by decide +kernel) rfl (c_rA (F.s t0_1) rfl (rC_12_1 F t0_1)) rfl ?_
  refine ab_fin.s2 (i := .astore_n 3) (k := 1) (pc' := 8) (lv' := [(3, .ref 10), (0, .ref l0), (1, .int l1), (2, .int l2)]) (st' := []) (by decide +kernel) rfl rfl ?_
  refine ab_fin.s2 (i := .iload_n 2) (k := 1) (pc' := 9) (lv' := [(3, .ref 10), (0, .ref l0), (1, .int l1), (2, .int l2)]) (st' := [.int l2]) (by decide +kernel) rfl rfl ?_
  refine ab_fin.s2 (i := .istore 4) (k := 2) (pc' := 11) (lv' := [(4, .int l2), (3, .ref 10), (0, .ref l0), (1, .int l1), (2, .int l2)]) (st' := []) (by decide +kernel) rfl rfl ?_
  refine ab_fin.s1i (i := .iconst 0) (k := 1) (pc' := 12) (n := 0) (by decide +kernel) rfl (by decide +kernel) rfl ?_
  refine ab_fin.s2 (i := .istore 5) (k := 2) (pc' := 14) (lv' := [(5, .int 0), (4, .int l2), (3, .ref 10), (0, .ref l0), (1, .int l1), (2, .int l2)]) (st' := []) (by decide +kernel) rfl rfl ?_
  exact ab_fin.lv ⟨(List.forall_mem_cons.mpr ⟨(List.Mem.tail _ (List.Mem.tail _ (List.Mem.tail _ (List.Mem.head _)))), (List.forall_mem_cons.mpr ⟨(List.Mem.tail _ (List.Mem.tail _ (List.Mem.tail _ (List.Mem.tail _ (List.Mem.head _))))), (List.forall_mem_cons.mpr ⟨(List.Mem.tail _ (List.Mem.tail _ (List.Mem.head _))), (List.forall_mem_cons.mpr ⟨(List.Mem.tail _ (List.Mem.head _)), (List.forall_mem_cons.mpr ⟨(List.Mem.head _), (fun _ h => absurd h List.not_mem_nil)⟩)⟩)⟩)⟩)⟩), (show ([5, 4, 3, 0, 1, 2] : List Nat).Nodup from by decide)⟩ w
theorem T_X9_isTakenBy_14 {Z : zT} {d : Nat} {σ : Sg} {l0 : Nat} {l1 : Int32} {l4 : Int32} {l5 : Int32} {K : kS} (F : FX ΦC σ.sh σ.r) (p_l0 : sh0C[l0]? = some (Sh.obj 10)) (w : (3 ≤ l5 → C_X9_isTakenBy_60 Z (d + 1) σ l0 l1 l4 0 0 K) ∧ (¬ 3 ≤ l5 → ib ((l1 * (3 : Int32)) + l5) 366 ∧ (((σ.i 16 (((l1 * (3 : Int32)) + l5).toNatClampNeg)) = 0 → C_X9_isTakenBy_14 Z (d + 1) σ l0 l1 l4 (l5 + 1) K) ∧ (¬ (σ.i 16 (((l1 * (3 : Int32)) + l5).toNatClampNeg)) = 0 → C_X9_holds_0 Z d σ l0 l4 (yI K fun v4 τ2 => (¬ v4 = 0 → C_X9_isTakenBy_14 Z (d + 1) τ2 l0 l1 (l4 + 1) (l5 + 1) K) ∧ (v4 = 0 → K (.inl (some (.int 0))) τ2)))))) : C_X9_isTakenBy_14 Z (d + 1) σ l0 l1 l4 l5 K := by
  unfold C_X9_isTakenBy_14
  refine ab_fin.s2 (i := .iload 5) (k := 2) (pc' := 16) (lv' := [(0, .ref l0), (1, .int l1), (3, .ref 10), (4, .int l4), (5, .int l5)]) (st' := [.int l5]) (by decide +kernel) rfl rfl ?_
  refine ab_fin.s1i (i := .iconst 3) (k := 1) (pc' := 17) (n := 3) (by decide +kernel) rfl (by decide +kernel) rfl ?_
  refine ab_fin.br (c := 3 ≤ l5) (i := .if_icmp .ge 37) (off := 37) (t := 54) (pc' := 20) (r := []) (by decide +kernel) rfl (by decide +kernel) rfl (fun q => ?_) (fun q => ?_)
  · replace w := w.1 q
    refine ab_fin.s1i (i := .iconst 0) (k := 1) (pc' := 55) (n := 0) (by decide +kernel) rfl (by decide +kernel) rfl ?_
    refine ab_fin.s2 (i := .istore 5) (k := 2) (pc' := 57) (lv' := [(5, .int 0), (0, .ref l0), (1, .int l1), (3, .ref 10), (4, .int l4)]) (st' := []) (by decide +kernel) rfl rfl ?_
    refine ab_fin.s1i (i := .iconst 0) (k := 1) (pc' := 58) (n := 0) (by decide +kernel) rfl (by decide +kernel) rfl ?_
    refine ab_fin.s2 (i := .istore 6) (k := 2) (pc' := 60) (lv' := [(6, .int 0), (5, .int 0), (0, .ref l0), (1, .int l1), (3, .ref 10), (4, .int l4)]) (st' := []) (by decide +kernel) rfl rfl ?_
    exact ab_fin.lv ⟨(List.forall_mem_cons.mpr ⟨(List.Mem.tail _ (List.Mem.tail _ (List.Mem.head _))), (List.forall_mem_cons.mpr ⟨(List.Mem.tail _ (List.Mem.tail _ (List.Mem.tail _ (List.Mem.head _)))), (List.forall_mem_cons.mpr ⟨(List.Mem.tail _ (List.Mem.tail _ (List.Mem.tail _ (List.Mem.tail _ (List.Mem.head _))))), (List.forall_mem_cons.mpr ⟨(List.Mem.tail _ (List.Mem.tail _ (List.Mem.tail _ (List.Mem.tail _ (List.Mem.tail _ (List.Mem.head _)))))), (List.forall_mem_cons.mpr ⟨(List.Mem.tail _ (List.Mem.head _)), (List.forall_mem_cons.mpr ⟨(List.Mem.head _), (fun _ h => absurd h List.not_mem_nil)⟩)⟩)⟩)⟩)⟩)⟩), (show ([6, 5, 0, 1, 3, 4] : List Nat).Nodup from by decide)⟩ w
  · replace w := w.2 q
    refine ab_fin.s2 (i := .aload_n 3) (k := 1) (pc' := 21) (lv' := [(0, .ref l0), (1, .int l1), (3, .ref 10), (4, .int l4), (5, .int l5)]) (st' := [.ref 10]) (by decide +kernel) rfl rfl ?_
    refine ab_fin.q_rA (b := 16) (ix := 58) (ci := 6) (k := 6) (pc' := 24) (by decide +kernel) rfl (c_rA (F.s t0_10) rfl (rC_6_6 F t0_10)) rfl ?_
    refine ab_fin.s2 (i := .iload_n 1) (k := 1) (pc' := 25) (lv' := [(0, .ref l0), (1, .int l1), (3, .ref 10), (4, .int l4), (5, .int l5)]) (st' := [.int l1, .ref 16]) (by decide +kernel) rfl rfl ?_
    refine ab_fin.s1i (i := .iconst 3) (k := 1) (pc' := 26) (n := 3) (by decide +kernel) rfl (by decide +kernel) rfl ?_
    refine ab_fin.s1 (i := .imul) (k := 1) (pc' := 27) (st' := [.int (l1 * (3 : Int32)), .ref 16]) (by decide +kernel) rfl rfl ?_
    refine ab_fin.s2 (i := .iload 5) (k := 2) (pc' := 29) (lv' := [(0, .ref l0), (1, .int l1), (3, .ref 10), (4, .int l4), (5, .int l5)]) (st' := [.int l5, .int (l1 * (3 : Int32)), .ref 16]) (by decide +kernel) rfl rfl ?_
    refine ab_fin.s1 (i := .iadd) (k := 1) (pc' := 30) (st' := [.int ((l1 * (3 : Int32)) + l5), .ref 16]) (by decide +kernel) rfl rfl ?_
    obtain ⟨e1, w⟩ := w
    refine ab_fin.q_eB (x := (σ.i 16 (((l1 * (3 : Int32)) + l5).toNatClampNeg))) (pc' := 31) (by decide +kernel) (c_eB3' (F.s t0_16) e1 rfl) rfl ?_
    refine ab_fin.br (c := (σ.i 16 (((l1 * (3 : Int32)) + l5).toNatClampNeg)) = 0) (i := .ifCond .eq 17) (off := 17) (t := 48) (pc' := 34) (r := []) (by decide +kernel) rfl (by decide +kernel) rfl (fun q => ?_) (fun q => ?_)
    · replace w := w.1 q
      refine ab_fin.q_inc (n := 5) (c := 1) (pc' := 51) (lv' := [(5, .int (l5 + 1)), (0, .ref l0), (1, .int l1), (3, .ref 10), (4, .int l4)]) (by decide +kernel) (by decide) rfl rfl rfl rfl ?_
      refine ab_fin.s3 (i := .goto (-37)) (k := 3) (t := 14) (st' := []) (by decide +kernel) (ab_gto (by decide +kernel)) ?_
      exact ab_fin.lv ⟨(List.forall_mem_cons.mpr ⟨(List.Mem.tail _ (List.Mem.head _)), (List.forall_mem_cons.mpr ⟨(List.Mem.tail _ (List.Mem.tail _ (List.Mem.head _))), (List.forall_mem_cons.mpr ⟨(List.Mem.tail _ (List.Mem.tail _ (List.Mem.tail _ (List.Mem.head _)))), (List.forall_mem_cons.mpr ⟨(List.Mem.tail _ (List.Mem.tail _ (List.Mem.tail _ (List.Mem.tail _ (List.Mem.head _))))), (List.forall_mem_cons.mpr ⟨(List.Mem.head _), (fun _ h => absurd h List.not_mem_nil)⟩)⟩)⟩)⟩)⟩), (show ([5, 0, 1, 3, 4] : List Nat).Nodup from by decide)⟩ w
    · replace w := w.2 q
      refine ab_fin.s2 (i := .aload_n 0) (k := 1) (pc' := 35) (lv' := [(0, .ref l0), (1, .int l1), (3, .ref 10), (4, .int l4), (5, .int l5)]) (st' := [.ref l0]) (by decide +kernel) rfl rfl ?_
      refine ab_fin.s2 (i := .iload 4) (k := 2) (pc' := 37) (lv' := [(0, .ref l0), (1, .int l1), (3, .ref 10), (4, .int l4), (5, .int l5)]) (st' := [.int l4, .ref l0]) (by decide +kernel) rfl rfl ?_
      refine ab_fin.q_yI (i := .invokevirtual 109) (k := 3) (y := 2312) (As := [.ref l0, .int l4]) (rest := []) (M' := (mX9_holds, [])) (lv2 := [(0, .ref l0), (1, .int l4)]) (pc' := 40) (X := K) (by decide +kernel) (ab_cv rfl rfl (conc_get (σ := σ) (F.s p_l0)) ⟨(Nat.le_of_ble_eq_true rfl), (Nat.le_of_ble_eq_true rfl)⟩ rfl) rfl (Nat.le_of_ble_eq_true rfl) rfl rfl (hY_no fun E => rfl) w (fun v4 τ2 F3 w => ?_)
      refine ab_fin.br (c := ¬ v4 = 0) (i := .ifCond .ne 5) (off := 5) (t := 45) (pc' := 43) (r := []) (by decide +kernel) rfl (by decide +kernel) rfl (fun q => ?_) (fun q => ?_)
      · replace w := w.1 q
        refine ab_fin.q_inc (n := 4) (c := 1) (pc' := 48) (lv' := [(4, .int (l4 + 1)), (0, .ref l0), (1, .int l1), (3, .ref 10), (5, .int l5)]) (by decide +kernel) (by decide) rfl rfl rfl rfl ?_
        refine ab_fin.q_inc (n := 5) (c := 1) (pc' := 51) (lv' := [(5, .int (l5 + 1)), (4, .int (l4 + 1)), (0, .ref l0), (1, .int l1), (3, .ref 10)]) (by decide +kernel) (by decide) rfl rfl rfl rfl ?_
        refine ab_fin.s3 (i := .goto (-37)) (k := 3) (t := 14) (st' := []) (by decide +kernel) (ab_gto (by decide +kernel)) ?_
        exact ab_fin.lv ⟨(List.forall_mem_cons.mpr ⟨(List.Mem.tail _ (List.Mem.tail _ (List.Mem.head _))), (List.forall_mem_cons.mpr ⟨(List.Mem.tail _ (List.Mem.tail _ (List.Mem.tail _ (List.Mem.head _)))), (List.forall_mem_cons.mpr ⟨(List.Mem.tail _ (List.Mem.tail _ (List.Mem.tail _ (List.Mem.tail _ (List.Mem.head _))))), (List.forall_mem_cons.mpr ⟨(List.Mem.tail _ (List.Mem.head _)), (List.forall_mem_cons.mpr ⟨(List.Mem.head _), (fun _ h => absurd h List.not_mem_nil)⟩)⟩)⟩)⟩)⟩), (show ([5, 4, 0, 1, 3] : List Nat).Nodup from by decide)⟩ w
      · replace w := w.2 (Decidable.of_not_not q)
        refine ab_fin.s1i (i := .iconst 0) (k := 1) (pc' := 44) (n := 0) (by decide +kernel) rfl (by decide +kernel) rfl ?_
        exact ab_fin.q_ret (i := .ireturn) (k := 1) (v := some (.int 0)) (by decide +kernel) rfl F3 w
theorem T_X9_isTakenBy_60 {Z : zT} {d : Nat} {σ : Sg} {l0 : Nat} {l1 : Int32} {l4 : Int32} {l5 : Int32} {l6 : Int32} {K : kS} (F : FX ΦC σ.sh σ.r) (p_l0 : sh0C[l0]? = some (Sh.obj 10)) (w : ib l1 122 ∧ (((σ.i 18 l1.toNatClampNeg) ≤ l6 → ib l1 122 ∧ (((lg_cmp (((Int64.toUInt64 (σ.l 23 l1.toNatClampNeg) >>> ((Int32.toInt64 l5).toUInt64 &&& Int64.toUInt64 63)).toInt64) &&& (1 : Int64)) (0 : Int64)) = 0 → K (.inl (some (.int 0))) σ) ∧ (¬ (lg_cmp (((Int64.toUInt64 (σ.l 23 l1.toNatClampNeg) >>> ((Int32.toInt64 l5).toUInt64 &&& Int64.toUInt64 63)).toInt64) &&& (1 : Int64)) (0 : Int64)) = 0 → K (.inl (some (.int 1))) σ))) ∧ (¬ (σ.i 18 l1.toNatClampNeg) ≤ l6 → C_X9_holds_0 Z d σ l0 (l4 + l6) (yI K fun v5 τ3 => (v5 = 0 → C_X9_isTakenBy_60 Z (d + 1) τ3 l0 l1 l4 l5 (l6 + 1) K) ∧ (¬ v5 = 0 → C_X9_isTakenBy_60 Z (d + 1) τ3 l0 l1 l4 (l5 ||| ((1 : Int32) <<< (l6 &&& 31))) (l6 + 1) K))))) : C_X9_isTakenBy_60 Z (d + 1) σ l0 l1 l4 l5 l6 K := by
  unfold C_X9_isTakenBy_60
  refine ab_fin.s2 (i := .iload 6) (k := 2) (pc' := 62) (lv' := [(0, .ref l0), (1, .int l1), (3, .ref 10), (4, .int l4), (5, .int l5), (6, .int l6)]) (st' := [.int l6]) (by decide +kernel) rfl rfl ?_
  refine ab_fin.s2 (i := .aload_n 3) (k := 1) (pc' := 63) (lv' := [(0, .ref l0), (1, .int l1), (3, .ref 10), (4, .int l4), (5, .int l5), (6, .int l6)]) (st' := [.ref 10, .int l6]) (by decide +kernel) rfl rfl ?_
  refine ab_fin.q_rA (b := 18) (ix := 70) (ci := 6) (k := 8) (pc' := 66) (by decide +kernel) rfl (c_rA (F.s t0_10) rfl (rC_6_8 F t0_10)) rfl ?_
  refine ab_fin.s2 (i := .iload_n 1) (k := 1) (pc' := 67) (lv' := [(0, .ref l0), (1, .int l1), (3, .ref 10), (4, .int l4), (5, .int l5), (6, .int l6)]) (st' := [.int l1, .ref 18, .int l6]) (by decide +kernel) rfl rfl ?_
  obtain ⟨e1, w⟩ := w
  refine ab_fin.q_eI (x := (σ.i 18 l1.toNatClampNeg)) (pc' := 68) (by decide +kernel) (c_eI' (F.s t0_18) e1 rfl) rfl ?_
  refine ab_fin.br (c := (σ.i 18 l1.toNatClampNeg) ≤ l6) (i := .if_icmp .ge 30) (off := 30) (t := 98) (pc' := 71) (r := []) (by decide +kernel) rfl (by decide +kernel) rfl (fun q => ?_) (fun q => ?_)
  · replace w := w.1 q
    refine ab_fin.s2 (i := .aload_n 3) (k := 1) (pc' := 99) (lv' := [(0, .ref l0), (1, .int l1), (3, .ref 10), (4, .int l4), (5, .int l5), (6, .int l6)]) (st' := [.ref 10]) (by decide +kernel) rfl rfl ?_
    refine ab_fin.q_rA (b := 23) (ix := 112) (ci := 6) (k := 13) (pc' := 102) (by decide +kernel) rfl (c_rA (F.s t0_10) rfl (rC_6_13 F t0_10)) rfl ?_
    refine ab_fin.s2 (i := .iload_n 1) (k := 1) (pc' := 103) (lv' := [(0, .ref l0), (1, .int l1), (3, .ref 10), (4, .int l4), (5, .int l5), (6, .int l6)]) (st' := [.int l1, .ref 23]) (by decide +kernel) rfl rfl ?_
    obtain ⟨e2, w⟩ := w
    refine ab_fin.q_eL (x := (σ.l 23 l1.toNatClampNeg)) (pc' := 104) (by decide +kernel) (c_eL' (F.s t0_23) e2 rfl) rfl ?_
    refine ab_fin.s2 (i := .iload 5) (k := 2) (pc' := 106) (lv' := [(0, .ref l0), (1, .int l1), (3, .ref 10), (4, .int l4), (5, .int l5), (6, .int l6)]) (st' := [.int l5, .long (σ.l 23 l1.toNatClampNeg)]) (by decide +kernel) rfl rfl ?_
    refine ab_fin.s1 (i := .lushr) (k := 1) (pc' := 107) (st' := [.long ((Int64.toUInt64 (σ.l 23 l1.toNatClampNeg) >>> ((Int32.toInt64 l5).toUInt64 &&& Int64.toUInt64 63)).toInt64)]) (by decide +kernel) rfl rfl ?_
    refine ab_fin.s1l (i := .lconst 1) (k := 1) (pc' := 108) (n := 1) (by decide +kernel) rfl (by decide +kernel) rfl ?_
    refine ab_fin.s1 (i := .land) (k := 1) (pc' := 109) (st' := [.long (((Int64.toUInt64 (σ.l 23 l1.toNatClampNeg) >>> ((Int32.toInt64 l5).toUInt64 &&& Int64.toUInt64 63)).toInt64) &&& (1 : Int64))]) (by decide +kernel) rfl rfl ?_
    refine ab_fin.s1l (i := .lconst 0) (k := 1) (pc' := 110) (n := 0) (by decide +kernel) rfl (by decide +kernel) rfl ?_
    refine ab_fin.s1 (i := .lcmp) (k := 1) (pc' := 111) (st' := [.int (lg_cmp (((Int64.toUInt64 (σ.l 23 l1.toNatClampNeg) >>> ((Int32.toInt64 l5).toUInt64 &&& Int64.toUInt64 63)).toInt64) &&& (1 : Int64)) (0 : Int64))]) (by decide +kernel) rfl rfl ?_
    refine ab_fin.br (c := (lg_cmp (((Int64.toUInt64 (σ.l 23 l1.toNatClampNeg) >>> ((Int32.toInt64 l5).toUInt64 &&& Int64.toUInt64 63)).toInt64) &&& (1 : Int64)) (0 : Int64)) = 0) (i := .ifCond .eq 7) (off := 7) (t := 118) (pc' := 114) (r := []) (by decide +kernel) rfl (by decide +kernel) rfl (fun q => ?_) (fun q => ?_)
    · replace w := w.1 q
      refine ab_fin.s1i (i := .iconst 0) (k := 1) (pc' := 119) (n := 0) (by decide +kernel) rfl (by decide +kernel) rfl ?_
      exact ab_fin.q_ret (i := .ireturn) (k := 1) (v := some (.int 0)) (by decide +kernel) rfl F w
    · replace w := w.2 q
      refine ab_fin.s1i (i := .iconst 1) (k := 1) (pc' := 115) (n := 1) (by decide +kernel) rfl (by decide +kernel) rfl ?_
      refine ab_fin.s3 (i := .goto 4) (k := 3) (t := 119) (st' := [.int 1]) (by decide +kernel) (ab_gto (by decide +kernel)) ?_
      exact ab_fin.q_ret (i := .ireturn) (k := 1) (v := some (.int 1)) (by decide +kernel) rfl F w
  · replace w := w.2 q
    refine ab_fin.s2 (i := .aload_n 0) (k := 1) (pc' := 72) (lv' := [(0, .ref l0), (1, .int l1), (3, .ref 10), (4, .int l4), (5, .int l5), (6, .int l6)]) (st' := [.ref l0]) (by decide +kernel) rfl rfl ?_
    refine ab_fin.s2 (i := .iload 4) (k := 2) (pc' := 74) (lv' := [(0, .ref l0), (1, .int l1), (3, .ref 10), (4, .int l4), (5, .int l5), (6, .int l6)]) (st' := [.int l4, .ref l0]) (by decide +kernel) rfl rfl ?_
    refine ab_fin.s2 (i := .iload 6) (k := 2) (pc' := 76) (lv' := [(0, .ref l0), (1, .int l1), (3, .ref 10), (4, .int l4), (5, .int l5), (6, .int l6)]) (st' := [.int l6, .int l4, .ref l0]) (by decide +kernel) rfl rfl ?_
    refine ab_fin.s1 (i := .iadd) (k := 1) (pc' := 77) (st' := [.int (l4 + l6), .ref l0]) (by decide +kernel) rfl rfl ?_
    refine ab_fin.q_yI (i := .invokevirtual 109) (k := 3) (y := 2312) (As := [.ref l0, .int (l4 + l6)]) (rest := []) (M' := (mX9_holds, [])) (lv2 := [(0, .ref l0), (1, .int (l4 + l6))]) (pc' := 80) (X := K) (by decide +kernel) (ab_cv rfl rfl (conc_get (σ := σ) (F.s p_l0)) ⟨(Nat.le_of_ble_eq_true rfl), (Nat.le_of_ble_eq_true rfl)⟩ rfl) rfl (Nat.le_of_ble_eq_true rfl) rfl rfl (hY_no fun E => rfl) w (fun v5 τ3 F4 w => ?_)
    refine ab_fin.br (c := v5 = 0) (i := .ifCond .eq 12) (off := 12) (t := 92) (pc' := 83) (r := []) (by decide +kernel) rfl (by decide +kernel) rfl (fun q => ?_) (fun q => ?_)
    · replace w := w.1 q
      refine ab_fin.q_inc (n := 6) (c := 1) (pc' := 95) (lv' := [(6, .int (l6 + 1)), (0, .ref l0), (1, .int l1), (3, .ref 10), (4, .int l4), (5, .int l5)]) (by decide +kernel) (by decide) rfl rfl rfl rfl ?_
      refine ab_fin.s3 (i := .goto (-35)) (k := 3) (t := 60) (st' := []) (by decide +kernel) (ab_gto (by decide +kernel)) ?_
      exact ab_fin.lv ⟨(List.forall_mem_cons.mpr ⟨(List.Mem.tail _ (List.Mem.head _)), (List.forall_mem_cons.mpr ⟨(List.Mem.tail _ (List.Mem.tail _ (List.Mem.head _))), (List.forall_mem_cons.mpr ⟨(List.Mem.tail _ (List.Mem.tail _ (List.Mem.tail _ (List.Mem.head _)))), (List.forall_mem_cons.mpr ⟨(List.Mem.tail _ (List.Mem.tail _ (List.Mem.tail _ (List.Mem.tail _ (List.Mem.head _))))), (List.forall_mem_cons.mpr ⟨(List.Mem.tail _ (List.Mem.tail _ (List.Mem.tail _ (List.Mem.tail _ (List.Mem.tail _ (List.Mem.head _)))))), (List.forall_mem_cons.mpr ⟨(List.Mem.head _), (fun _ h => absurd h List.not_mem_nil)⟩)⟩)⟩)⟩)⟩)⟩), (show ([6, 0, 1, 3, 4, 5] : List Nat).Nodup from by decide)⟩ w
    · replace w := w.2 q
      refine ab_fin.s2 (i := .iload 5) (k := 2) (pc' := 85) (lv' := [(0, .ref l0), (1, .int l1), (3, .ref 10), (4, .int l4), (5, .int l5), (6, .int l6)]) (st' := [.int l5]) (by decide +kernel) rfl rfl ?_
      refine ab_fin.s1i (i := .iconst 1) (k := 1) (pc' := 86) (n := 1) (by decide +kernel) rfl (by decide +kernel) rfl ?_
      refine ab_fin.s2 (i := .iload 6) (k := 2) (pc' := 88) (lv' := [(0, .ref l0), (1, .int l1), (3, .ref 10), (4, .int l4), (5, .int l5), (6, .int l6)]) (st' := [.int l6, .int 1, .int l5]) (by decide +kernel) rfl rfl ?_
      refine ab_fin.s1 (i := .ishl) (k := 1) (pc' := 89) (st' := [.int ((1 : Int32) <<< (l6 &&& 31)), .int l5]) (by decide +kernel) rfl rfl ?_
      refine ab_fin.s1 (i := .ior) (k := 1) (pc' := 90) (st' := [.int (l5 ||| ((1 : Int32) <<< (l6 &&& 31)))]) (by decide +kernel) rfl rfl ?_
      refine ab_fin.s2 (i := .istore 5) (k := 2) (pc' := 92) (lv' := [(5, .int (l5 ||| ((1 : Int32) <<< (l6 &&& 31)))), (0, .ref l0), (1, .int l1), (3, .ref 10), (4, .int l4), (6, .int l6)]) (st' := []) (by decide +kernel) rfl rfl ?_
      refine ab_fin.q_inc (n := 6) (c := 1) (pc' := 95) (lv' := [(6, .int (l6 + 1)), (5, .int (l5 ||| ((1 : Int32) <<< (l6 &&& 31)))), (0, .ref l0), (1, .int l1), (3, .ref 10), (4, .int l4)]) (by decide +kernel) (by decide) rfl rfl rfl rfl ?_
      refine ab_fin.s3 (i := .goto (-35)) (k := 3) (t := 60) (st' := []) (by decide +kernel) (ab_gto (by decide +kernel)) ?_
      exact ab_fin.lv ⟨(List.forall_mem_cons.mpr ⟨(List.Mem.tail _ (List.Mem.tail _ (List.Mem.head _))), (List.forall_mem_cons.mpr ⟨(List.Mem.tail _ (List.Mem.tail _ (List.Mem.tail _ (List.Mem.head _)))), (List.forall_mem_cons.mpr ⟨(List.Mem.tail _ (List.Mem.tail _ (List.Mem.tail _ (List.Mem.tail _ (List.Mem.head _))))), (List.forall_mem_cons.mpr ⟨(List.Mem.tail _ (List.Mem.tail _ (List.Mem.tail _ (List.Mem.tail _ (List.Mem.tail _ (List.Mem.head _)))))), (List.forall_mem_cons.mpr ⟨(List.Mem.tail _ (List.Mem.head _)), (List.forall_mem_cons.mpr ⟨(List.Mem.head _), (fun _ h => absurd h List.not_mem_nil)⟩)⟩)⟩)⟩)⟩)⟩), (show ([6, 5, 0, 1, 3, 4] : List Nat).Nodup from by decide)⟩ w
theorem T_X9_holds_0 {Z : zT} {d : Nat} {σ : Sg} {l0 : Nat} {l1 : Int32} {K : kS} (F : FX ΦC σ.sh σ.r) (p_l0 : sh0C[l0]? = some (Sh.obj 10)) (w : (l1 < (σ.i l0 3) → ib l1 18 ∧ (ib l1 18 ∧ (((σ.i (l0 + 2) l1.toNatClampNeg) = 0 → (¬ (lg_cmp (((Int64.toUInt64 (σ.l l0 11) >>> ((Int32.toInt64 (σ.i (l0 + 1) l1.toNatClampNeg)).toUInt64 &&& Int64.toUInt64 63)).toInt64) &&& (1 : Int64)) (1 : Int64)) = 0 → K (.inl (some (.int 0))) σ) ∧ ((lg_cmp (((Int64.toUInt64 (σ.l l0 11) >>> ((Int32.toInt64 (σ.i (l0 + 1) l1.toNatClampNeg)).toUInt64 &&& Int64.toUInt64 63)).toInt64) &&& (1 : Int64)) (1 : Int64)) = 0 → K (.inl (some (.int 1))) σ)) ∧ (¬ (σ.i (l0 + 2) l1.toNatClampNeg) = 0 → (¬ (lg_cmp (((Int64.toUInt64 (σ.l l0 11) >>> ((Int32.toInt64 (σ.i (l0 + 1) l1.toNatClampNeg)).toUInt64 &&& Int64.toUInt64 63)).toInt64) &&& (3 : Int64)) (3 : Int64)) = 0 → K (.inl (some (.int 0))) σ) ∧ ((lg_cmp (((Int64.toUInt64 (σ.l l0 11) >>> ((Int32.toInt64 (σ.i (l0 + 1) l1.toNatClampNeg)).toUInt64 &&& Int64.toUInt64 63)).toInt64) &&& (3 : Int64)) (3 : Int64)) = 0 → K (.inl (some (.int 1))) σ))))) ∧ (¬ l1 < (σ.i l0 3) → K (.inl (some (.int 0))) σ)) : C_X9_holds_0 Z (d + 1) σ l0 l1 K := by
  unfold C_X9_holds_0
  refine ab_fin.s2 (i := .iload_n 1) (k := 1) (pc' := 1) (lv' := [(0, .ref l0), (1, .int l1)]) (st' := [.int l1]) (by decide +kernel) rfl rfl ?_
  refine ab_fin.s2 (i := .aload_n 0) (k := 1) (pc' := 2) (lv' := [(0, .ref l0), (1, .int l1)]) (st' := [.ref l0, .int l1]) (by decide +kernel) rfl rfl ?_
  refine ab_fin.q_rI (x := (σ.i l0 3)) (ix := 45) (ci := 10) (k := 3) (pc' := 5) (by decide +kernel) rfl (c_rI (F.s p_l0) rfl) rfl ?_
  refine ab_fin.br (c := l1 < (σ.i l0 3)) (i := .if_icmp .lt 5) (off := 5) (t := 10) (pc' := 8) (r := []) (by decide +kernel) rfl (by decide +kernel) rfl (fun q => ?_) (fun q => ?_)
  · replace w := w.1 q
    refine ab_fin.s2 (i := .aload_n 0) (k := 1) (pc' := 11) (lv' := [(0, .ref l0), (1, .int l1)]) (st' := [.ref l0]) (by decide +kernel) rfl rfl ?_
    refine ab_fin.q_rL (x := (σ.l l0 11)) (ix := 100) (ci := 10) (k := 11) (pc' := 14) (by decide +kernel) rfl (c_rL (F.s p_l0) rfl) rfl ?_
    refine ab_fin.s2 (i := .aload_n 0) (k := 1) (pc' := 15) (lv' := [(0, .ref l0), (1, .int l1)]) (st' := [.ref l0, .long (σ.l l0 11)]) (by decide +kernel) rfl rfl ?_
    refine ab_fin.q_rA (b := (l0 + 1)) (ix := 11) (ci := 10) (k := 1) (pc' := 18) (by decide +kernel) rfl (c_rA (F.s p_l0) rfl (rC_10_1 F p_l0)) rfl ?_
    refine ab_fin.s2 (i := .iload_n 1) (k := 1) (pc' := 19) (lv' := [(0, .ref l0), (1, .int l1)]) (st' := [.int l1, .ref (l0 + 1), .long (σ.l l0 11)]) (by decide +kernel) rfl rfl ?_
    obtain ⟨e1, w⟩ := w
    refine ab_fin.q_eI (x := (σ.i (l0 + 1) l1.toNatClampNeg)) (pc' := 20) (by decide +kernel) (c_eI' (F.s (kC_10_1 p_l0)) e1 rfl) rfl ?_
    refine ab_fin.s1 (i := .lushr) (k := 1) (pc' := 21) (st' := [.long ((Int64.toUInt64 (σ.l l0 11) >>> ((Int32.toInt64 (σ.i (l0 + 1) l1.toNatClampNeg)).toUInt64 &&& Int64.toUInt64 63)).toInt64)]) (by decide +kernel) rfl rfl ?_
    refine ab_fin.s2 (i := .lstore_n 2) (k := 1) (pc' := 22) (lv' := [(2, .long ((Int64.toUInt64 (σ.l l0 11) >>> ((Int32.toInt64 (σ.i (l0 + 1) l1.toNatClampNeg)).toUInt64 &&& Int64.toUInt64 63)).toInt64)), (0, .ref l0), (1, .int l1)]) (st' := []) (by decide +kernel) rfl rfl ?_
    refine ab_fin.s2 (i := .aload_n 0) (k := 1) (pc' := 23) (lv' := [(2, .long ((Int64.toUInt64 (σ.l l0 11) >>> ((Int32.toInt64 (σ.i (l0 + 1) l1.toNatClampNeg)).toUInt64 &&& Int64.toUInt64 63)).toInt64)), (0, .ref l0), (1, .int l1)]) (st' := [.ref l0]) (by decide +kernel) rfl rfl ?_
    refine ab_fin.q_rA (b := (l0 + 2)) (ix := 15) (ci := 10) (k := 2) (pc' := 26) (by decide +kernel) rfl (c_rA (F.s p_l0) rfl (rC_10_2 F p_l0)) rfl ?_
    refine ab_fin.s2 (i := .iload_n 1) (k := 1) (pc' := 27) (lv' := [(2, .long ((Int64.toUInt64 (σ.l l0 11) >>> ((Int32.toInt64 (σ.i (l0 + 1) l1.toNatClampNeg)).toUInt64 &&& Int64.toUInt64 63)).toInt64)), (0, .ref l0), (1, .int l1)]) (st' := [.int l1, .ref (l0 + 2)]) (by decide +kernel) rfl rfl ?_
    obtain ⟨e2, w⟩ := w
    refine ab_fin.q_eB (x := (σ.i (l0 + 2) l1.toNatClampNeg)) (pc' := 28) (by decide +kernel) (c_eB3' (F.s (kC_10_2 p_l0)) e2 rfl) rfl ?_
    refine ab_fin.br (c := (σ.i (l0 + 2) l1.toNatClampNeg) = 0) (i := .ifCond .eq 23) (off := 23) (t := 51) (pc' := 31) (r := []) (by decide +kernel) rfl (by decide +kernel) rfl (fun q => ?_) (fun q => ?_)
    · replace w := w.1 q
      refine ab_fin.s2 (i := .lload_n 2) (k := 1) (pc' := 52) (lv' := [(2, .long ((Int64.toUInt64 (σ.l l0 11) >>> ((Int32.toInt64 (σ.i (l0 + 1) l1.toNatClampNeg)).toUInt64 &&& Int64.toUInt64 63)).toInt64)), (0, .ref l0), (1, .int l1)]) (st' := [.long ((Int64.toUInt64 (σ.l l0 11) >>> ((Int32.toInt64 (σ.i (l0 + 1) l1.toNatClampNeg)).toUInt64 &&& Int64.toUInt64 63)).toInt64)]) (by decide +kernel) rfl rfl ?_
      refine ab_fin.s1l (i := .lconst 1) (k := 1) (pc' := 53) (n := 1) (by decide +kernel) rfl (by decide +kernel) rfl ?_
      refine ab_fin.s1 (i := .land) (k := 1) (pc' := 54) (st' := [.long (((Int64.toUInt64 (σ.l l0 11) >>> ((Int32.toInt64 (σ.i (l0 + 1) l1.toNatClampNeg)).toUInt64 &&& Int64.toUInt64 63)).toInt64) &&& (1 : Int64))]) (by decide +kernel) rfl rfl ?_
      refine ab_fin.s1l (i := .lconst 1) (k := 1) (pc' := 55) (n := 1) (by decide +kernel) rfl (by decide +kernel) rfl ?_
      refine ab_fin.s1 (i := .lcmp) (k := 1) (pc' := 56) (st' := [.int (lg_cmp (((Int64.toUInt64 (σ.l l0 11) >>> ((Int32.toInt64 (σ.i (l0 + 1) l1.toNatClampNeg)).toUInt64 &&& Int64.toUInt64 63)).toInt64) &&& (1 : Int64)) (1 : Int64))]) (by decide +kernel) rfl rfl ?_
      refine ab_fin.br (c := ¬ (lg_cmp (((Int64.toUInt64 (σ.l l0 11) >>> ((Int32.toInt64 (σ.i (l0 + 1) l1.toNatClampNeg)).toUInt64 &&& Int64.toUInt64 63)).toInt64) &&& (1 : Int64)) (1 : Int64)) = 0) (i := .ifCond .ne 7) (off := 7) (t := 63) (pc' := 59) (r := []) (by decide +kernel) rfl (by decide +kernel) rfl (fun q => ?_) (fun q => ?_)
      · replace w := w.1 q
        refine ab_fin.s1i (i := .iconst 0) (k := 1) (pc' := 64) (n := 0) (by decide +kernel) rfl (by decide +kernel) rfl ?_
        exact ab_fin.q_ret (i := .ireturn) (k := 1) (v := some (.int 0)) (by decide +kernel) rfl F w
      · replace w := w.2 (Decidable.of_not_not q)
        refine ab_fin.s1i (i := .iconst 1) (k := 1) (pc' := 60) (n := 1) (by decide +kernel) rfl (by decide +kernel) rfl ?_
        refine ab_fin.s3 (i := .goto 4) (k := 3) (t := 64) (st' := [.int 1]) (by decide +kernel) (ab_gto (by decide +kernel)) ?_
        exact ab_fin.q_ret (i := .ireturn) (k := 1) (v := some (.int 1)) (by decide +kernel) rfl F w
    · replace w := w.2 q
      refine ab_fin.s2 (i := .lload_n 2) (k := 1) (pc' := 32) (lv' := [(2, .long ((Int64.toUInt64 (σ.l l0 11) >>> ((Int32.toInt64 (σ.i (l0 + 1) l1.toNatClampNeg)).toUInt64 &&& Int64.toUInt64 63)).toInt64)), (0, .ref l0), (1, .int l1)]) (st' := [.long ((Int64.toUInt64 (σ.l l0 11) >>> ((Int32.toInt64 (σ.i (l0 + 1) l1.toNatClampNeg)).toUInt64 &&& Int64.toUInt64 63)).toInt64)]) (by decide +kernel) rfl rfl ?_
      refine ab_fin.s7 (i := .ldc2_w 115) (k := 3) (pc' := 35) (st' := [.long 3, .long ((Int64.toUInt64 (σ.l l0 11) >>> ((Int32.toInt64 (σ.i (l0 + 1) l1.toNatClampNeg)).toUInt64 &&& Int64.toUInt64 63)).toInt64)]) (by decide +kernel) rfl rfl ?_
      refine ab_fin.s1 (i := .land) (k := 1) (pc' := 36) (st' := [.long (((Int64.toUInt64 (σ.l l0 11) >>> ((Int32.toInt64 (σ.i (l0 + 1) l1.toNatClampNeg)).toUInt64 &&& Int64.toUInt64 63)).toInt64) &&& (3 : Int64))]) (by decide +kernel) rfl rfl ?_
      refine ab_fin.s7 (i := .ldc2_w 115) (k := 3) (pc' := 39) (st' := [.long 3, .long (((Int64.toUInt64 (σ.l l0 11) >>> ((Int32.toInt64 (σ.i (l0 + 1) l1.toNatClampNeg)).toUInt64 &&& Int64.toUInt64 63)).toInt64) &&& (3 : Int64))]) (by decide +kernel) rfl rfl ?_
      refine ab_fin.s1 (i := .lcmp) (k := 1) (pc' := 40) (st' := [.int (lg_cmp (((Int64.toUInt64 (σ.l l0 11) >>> ((Int32.toInt64 (σ.i (l0 + 1) l1.toNatClampNeg)).toUInt64 &&& Int64.toUInt64 63)).toInt64) &&& (3 : Int64)) (3 : Int64))]) (by decide +kernel) rfl rfl ?_
      refine ab_fin.br (c := ¬ (lg_cmp (((Int64.toUInt64 (σ.l l0 11) >>> ((Int32.toInt64 (σ.i (l0 + 1) l1.toNatClampNeg)).toUInt64 &&& Int64.toUInt64 63)).toInt64) &&& (3 : Int64)) (3 : Int64)) = 0) (i := .ifCond .ne 7) (off := 7) (t := 47) (pc' := 43) (r := []) (by decide +kernel) rfl (by decide +kernel) rfl (fun q => ?_) (fun q => ?_)
      · replace w := w.1 q
        refine ab_fin.s1i (i := .iconst 0) (k := 1) (pc' := 48) (n := 0) (by decide +kernel) rfl (by decide +kernel) rfl ?_
        refine ab_fin.s3 (i := .goto 16) (k := 3) (t := 64) (st' := [.int 0]) (by decide +kernel) (ab_gto (by decide +kernel)) ?_
        exact ab_fin.q_ret (i := .ireturn) (k := 1) (v := some (.int 0)) (by decide +kernel) rfl F w
      · replace w := w.2 (Decidable.of_not_not q)
        refine ab_fin.s1i (i := .iconst 1) (k := 1) (pc' := 44) (n := 1) (by decide +kernel) rfl (by decide +kernel) rfl ?_
        refine ab_fin.s3 (i := .goto 20) (k := 3) (t := 64) (st' := [.int 1]) (by decide +kernel) (ab_gto (by decide +kernel)) ?_
        exact ab_fin.q_ret (i := .ireturn) (k := 1) (v := some (.int 1)) (by decide +kernel) rfl F w
  · replace w := w.2 q
    refine ab_fin.s1i (i := .iconst 0) (k := 1) (pc' := 9) (n := 0) (by decide +kernel) rfl (by decide +kernel) rfl ?_
    exact ab_fin.q_ret (i := .ireturn) (k := 1) (v := some (.int 0)) (by decide +kernel) rfl F w
theorem T_X10_judge_0 {Z : zT} {d : Nat} {σ : Sg} {l1 : Int32} {K : kS} (F : FX ΦC σ.sh σ.r) (w : ib l1 24 ∧ (((σ.i 68 l1.toNatClampNeg) = (σ.i 1 16) → ib l1 24 ∧ (K (.inl (some (.int (σ.i 69 l1.toNatClampNeg)))) σ)) ∧ (¬ (σ.i 68 l1.toNatClampNeg) = (σ.i 1 16) → ib l1 24 ∧ (C_X10_judge_33 Z (d + 1) (σ.wi 68 l1.toNatClampNeg (σ.i 1 16)) l1 1 0 K)))) : C_X10_judge_0 Z (d + 1) σ l1 K := by
  unfold C_X10_judge_0
  refine ab_fin.s2 (i := .aload_n 0) (k := 1) (pc' := 1) (lv' := [(0, .ref 67), (1, .int l1)]) (st' := [.ref 67]) (by decide +kernel) rfl rfl ?_
  refine ab_fin.q_rA (b := 68) (ix := 9) (ci := 11) (k := 3) (pc' := 4) (by decide +kernel) rfl (c_rA (F.s t0_67) rfl (rC_11_3 F t0_67)) rfl ?_
  refine ab_fin.s2 (i := .iload_n 1) (k := 1) (pc' := 5) (lv' := [(0, .ref 67), (1, .int l1)]) (st' := [.int l1, .ref 68]) (by decide +kernel) rfl rfl ?_
  obtain ⟨e1, w⟩ := w
  refine ab_fin.q_eI (x := (σ.i 68 l1.toNatClampNeg)) (pc' := 6) (by decide +kernel) (c_eI' (F.s t0_68) e1 rfl) rfl ?_
  refine ab_fin.s2 (i := .aload_n 0) (k := 1) (pc' := 7) (lv' := [(0, .ref 67), (1, .int l1)]) (st' := [.ref 67, .int (σ.i 68 l1.toNatClampNeg)]) (by decide +kernel) rfl rfl ?_
  refine ab_fin.q_rA (b := 1) (ix := 33) (ci := 11) (k := 0) (pc' := 10) (by decide +kernel) rfl (c_rA (F.s t0_67) rfl (rC_11_0 F t0_67)) rfl ?_
  refine ab_fin.q_rI (x := (σ.i 1 16)) (ix := 50) (ci := 12) (k := 16) (pc' := 13) (by decide +kernel) rfl (c_rI (F.s t0_1) rfl) rfl ?_
  refine ab_fin.br (c := (σ.i 68 l1.toNatClampNeg) = (σ.i 1 16)) (i := .if_icmp .eq 168) (off := 168) (t := 181) (pc' := 16) (r := []) (by decide +kernel) rfl (by decide +kernel) rfl (fun q => ?_) (fun q => ?_)
  · replace w := w.1 q
    refine ab_fin.s2 (i := .aload_n 0) (k := 1) (pc' := 182) (lv' := [(0, .ref 67), (1, .int l1)]) (st' := [.ref 67]) (by decide +kernel) rfl rfl ?_
    refine ab_fin.q_rA (b := 69) (ix := 15) (ci := 11) (k := 4) (pc' := 185) (by decide +kernel) rfl (c_rA (F.s t0_67) rfl (rC_11_4 F t0_67)) rfl ?_
    refine ab_fin.s2 (i := .iload_n 1) (k := 1) (pc' := 186) (lv' := [(0, .ref 67), (1, .int l1)]) (st' := [.int l1, .ref 69]) (by decide +kernel) rfl rfl ?_
    obtain ⟨e2, w⟩ := w
    refine ab_fin.q_eI (x := (σ.i 69 l1.toNatClampNeg)) (pc' := 187) (by decide +kernel) (c_eI' (F.s t0_69) e2 rfl) rfl ?_
    exact ab_fin.q_ret (i := .ireturn) (k := 1) (v := some (.int (σ.i 69 l1.toNatClampNeg))) (by decide +kernel) rfl F w
  · replace w := w.2 q
    refine ab_fin.s2 (i := .aload_n 0) (k := 1) (pc' := 17) (lv' := [(0, .ref 67), (1, .int l1)]) (st' := [.ref 67]) (by decide +kernel) rfl rfl ?_
    refine ab_fin.q_rA (b := 68) (ix := 9) (ci := 11) (k := 3) (pc' := 20) (by decide +kernel) rfl (c_rA (F.s t0_67) rfl (rC_11_3 F t0_67)) rfl ?_
    refine ab_fin.s2 (i := .iload_n 1) (k := 1) (pc' := 21) (lv' := [(0, .ref 67), (1, .int l1)]) (st' := [.int l1, .ref 68]) (by decide +kernel) rfl rfl ?_
    refine ab_fin.s2 (i := .aload_n 0) (k := 1) (pc' := 22) (lv' := [(0, .ref 67), (1, .int l1)]) (st' := [.ref 67, .int l1, .ref 68]) (by decide +kernel) rfl rfl ?_
    refine ab_fin.q_rA (b := 1) (ix := 33) (ci := 11) (k := 0) (pc' := 25) (by decide +kernel) rfl (c_rA (F.s t0_67) rfl (rC_11_0 F t0_67)) rfl ?_
    refine ab_fin.q_rI (x := (σ.i 1 16)) (ix := 50) (ci := 12) (k := 16) (pc' := 28) (by decide +kernel) rfl (c_rI (F.s t0_1) rfl) rfl ?_
    obtain ⟨e3, w⟩ := w
    refine ab_fin.q_sI (h1 := conc (σ.wi 68 l1.toNatClampNeg (σ.i 1 16))) (pc' := 29) (by decide +kernel) (c_sI' (F.s t0_68) e3 rfl) rfl ?_
    refine ab_fin.s1i (i := .iconst 1) (k := 1) (pc' := 30) (n := 1) (by decide +kernel) rfl (by decide +kernel) rfl ?_
    refine ab_fin.s2 (i := .istore_n 2) (k := 1) (pc' := 31) (lv' := [(2, .int 1), (0, .ref 67), (1, .int l1)]) (st' := []) (by decide +kernel) rfl rfl ?_
    refine ab_fin.s1i (i := .iconst 0) (k := 1) (pc' := 32) (n := 0) (by decide +kernel) rfl (by decide +kernel) rfl ?_
    refine ab_fin.s2 (i := .istore_n 3) (k := 1) (pc' := 33) (lv' := [(3, .int 0), (2, .int 1), (0, .ref 67), (1, .int l1)]) (st' := []) (by decide +kernel) rfl rfl ?_
    exact ab_fin.lv ⟨(List.forall_mem_cons.mpr ⟨(List.Mem.tail _ (List.Mem.tail _ (List.Mem.head _))), (List.forall_mem_cons.mpr ⟨(List.Mem.tail _ (List.Mem.tail _ (List.Mem.tail _ (List.Mem.head _)))), (List.forall_mem_cons.mpr ⟨(List.Mem.tail _ (List.Mem.head _)), (List.forall_mem_cons.mpr ⟨(List.Mem.head _), (fun _ h => absurd h List.not_mem_nil)⟩)⟩)⟩)⟩), (show ([3, 2, 0, 1] : List Nat).Nodup from by decide)⟩ w
theorem T_X10_judge_33 {Z : zT} {d : Nat} {σ : Sg} {l1 : Int32} {l2 : Int32} {l3 : Int32} {K : kS} (F : FX ΦC σ.sh σ.r) (w : ib l1 24 ∧ (((σ.i 31 l1.toNatClampNeg) ≤ l3 → ib l1 24 ∧ (C_X10_judge_74 Z (d + 1) (σ.wi 69 l1.toNatClampNeg (0 : Int32)) l1 l2 0 0 K)) ∧ (¬ (σ.i 31 l1.toNatClampNeg) ≤ l3 → C_X10_judge_33 Z (d + 1) σ l1 (l2 * (σ.i 1 14)) (l3 + 1) K))) : C_X10_judge_33 Z (d + 1) σ l1 l2 l3 K := by
  unfold C_X10_judge_33
  refine ab_fin.s2 (i := .iload_n 3) (k := 1) (pc' := 34) (lv' := [(0, .ref 67), (1, .int l1), (2, .int l2), (3, .int l3)]) (st' := [.int l3]) (by decide +kernel) rfl rfl ?_
  refine ab_fin.s2 (i := .aload_n 0) (k := 1) (pc' := 35) (lv' := [(0, .ref 67), (1, .int l1), (2, .int l2), (3, .int l3)]) (st' := [.ref 67, .int l3]) (by decide +kernel) rfl rfl ?_
  refine ab_fin.q_rA (b := 1) (ix := 33) (ci := 11) (k := 0) (pc' := 38) (by decide +kernel) rfl (c_rA (F.s t0_67) rfl (rC_11_0 F t0_67)) rfl ?_
  refine ab_fin.q_rA (b := 31) (ix := 56) (ci := 12) (k := 6) (pc' := 41) (by decide +kernel) rfl (c_rA (F.s t0_1) rfl (rC_12_6 F t0_1)) rfl ?_
  refine ab_fin.s2 (i := .iload_n 1) (k := 1) (pc' := 42) (lv' := [(0, .ref 67), (1, .int l1), (2, .int l2), (3, .int l3)]) (st' := [.int l1, .ref 31, .int l3]) (by decide +kernel) rfl rfl ?_
  obtain ⟨e1, w⟩ := w
  refine ab_fin.q_eI (x := (σ.i 31 l1.toNatClampNeg)) (pc' := 43) (by decide +kernel) (c_eI' (F.s t0_31) e1 rfl) rfl ?_
  refine ab_fin.br (c := (σ.i 31 l1.toNatClampNeg) ≤ l3) (i := .if_icmp .ge 19) (off := 19) (t := 62) (pc' := 46) (r := []) (by decide +kernel) rfl (by decide +kernel) rfl (fun q => ?_) (fun q => ?_)
  · replace w := w.1 q
    refine ab_fin.s2 (i := .aload_n 0) (k := 1) (pc' := 63) (lv' := [(0, .ref 67), (1, .int l1), (2, .int l2), (3, .int l3)]) (st' := [.ref 67]) (by decide +kernel) rfl rfl ?_
    refine ab_fin.q_rA (b := 69) (ix := 15) (ci := 11) (k := 4) (pc' := 66) (by decide +kernel) rfl (c_rA (F.s t0_67) rfl (rC_11_4 F t0_67)) rfl ?_
    refine ab_fin.s2 (i := .iload_n 1) (k := 1) (pc' := 67) (lv' := [(0, .ref 67), (1, .int l1), (2, .int l2), (3, .int l3)]) (st' := [.int l1, .ref 69]) (by decide +kernel) rfl rfl ?_
    refine ab_fin.s1i (i := .iconst 0) (k := 1) (pc' := 68) (n := 0) (by decide +kernel) rfl (by decide +kernel) rfl ?_
    obtain ⟨e2, w⟩ := w
    refine ab_fin.q_sI (h1 := conc (σ.wi 69 l1.toNatClampNeg (0 : Int32))) (pc' := 69) (by decide +kernel) (c_sI' (F.s t0_69) e2 rfl) rfl ?_
    refine ab_fin.s1i (i := .iconst 0) (k := 1) (pc' := 70) (n := 0) (by decide +kernel) rfl (by decide +kernel) rfl ?_
    refine ab_fin.s2 (i := .istore_n 3) (k := 1) (pc' := 71) (lv' := [(3, .int 0), (0, .ref 67), (1, .int l1), (2, .int l2)]) (st' := []) (by decide +kernel) rfl rfl ?_
    refine ab_fin.s1i (i := .iconst 0) (k := 1) (pc' := 72) (n := 0) (by decide +kernel) rfl (by decide +kernel) rfl ?_
    refine ab_fin.s2 (i := .istore 4) (k := 2) (pc' := 74) (lv' := [(4, .int 0), (3, .int 0), (0, .ref 67), (1, .int l1), (2, .int l2)]) (st' := []) (by decide +kernel) rfl rfl ?_
    exact ab_fin.lv ⟨(List.forall_mem_cons.mpr ⟨(List.Mem.tail _ (List.Mem.tail _ (List.Mem.head _))), (List.forall_mem_cons.mpr ⟨(List.Mem.tail _ (List.Mem.tail _ (List.Mem.tail _ (List.Mem.head _)))), (List.forall_mem_cons.mpr ⟨(List.Mem.tail _ (List.Mem.tail _ (List.Mem.tail _ (List.Mem.tail _ (List.Mem.head _))))), (List.forall_mem_cons.mpr ⟨(List.Mem.tail _ (List.Mem.head _)), (List.forall_mem_cons.mpr ⟨(List.Mem.head _), (fun _ h => absurd h List.not_mem_nil)⟩)⟩)⟩)⟩)⟩), (show ([4, 3, 0, 1, 2] : List Nat).Nodup from by decide)⟩ w
  · replace w := w.2 q
    refine ab_fin.s2 (i := .iload_n 2) (k := 1) (pc' := 47) (lv' := [(0, .ref 67), (1, .int l1), (2, .int l2), (3, .int l3)]) (st' := [.int l2]) (by decide +kernel) rfl rfl ?_
    refine ab_fin.s2 (i := .aload_n 0) (k := 1) (pc' := 48) (lv' := [(0, .ref 67), (1, .int l1), (2, .int l2), (3, .int l3)]) (st' := [.ref 67, .int l2]) (by decide +kernel) rfl rfl ?_
    refine ab_fin.q_rA (b := 1) (ix := 33) (ci := 11) (k := 0) (pc' := 51) (by decide +kernel) rfl (c_rA (F.s t0_67) rfl (rC_11_0 F t0_67)) rfl ?_
    refine ab_fin.q_rI (x := (σ.i 1 14)) (ix := 59) (ci := 12) (k := 14) (pc' := 54) (by decide +kernel) rfl (c_rI (F.s t0_1) rfl) rfl ?_
    refine ab_fin.s1 (i := .imul) (k := 1) (pc' := 55) (st' := [.int (l2 * (σ.i 1 14))]) (by decide +kernel) rfl rfl ?_
    refine ab_fin.s2 (i := .istore_n 2) (k := 1) (pc' := 56) (lv' := [(2, .int (l2 * (σ.i 1 14))), (0, .ref 67), (1, .int l1), (3, .int l3)]) (st' := []) (by decide +kernel) rfl rfl ?_
    refine ab_fin.q_inc (n := 3) (c := 1) (pc' := 59) (lv' := [(3, .int (l3 + 1)), (2, .int (l2 * (σ.i 1 14))), (0, .ref 67), (1, .int l1)]) (by decide +kernel) (by decide) rfl rfl rfl rfl ?_
    refine ab_fin.s3 (i := .goto (-26)) (k := 3) (t := 33) (st' := []) (by decide +kernel) (ab_gto (by decide +kernel)) ?_
    exact ab_fin.lv ⟨(List.forall_mem_cons.mpr ⟨(List.Mem.tail _ (List.Mem.tail _ (List.Mem.head _))), (List.forall_mem_cons.mpr ⟨(List.Mem.tail _ (List.Mem.tail _ (List.Mem.tail _ (List.Mem.head _)))), (List.forall_mem_cons.mpr ⟨(List.Mem.tail _ (List.Mem.head _)), (List.forall_mem_cons.mpr ⟨(List.Mem.head _), (fun _ h => absurd h List.not_mem_nil)⟩)⟩)⟩)⟩), (show ([3, 2, 0, 1] : List Nat).Nodup from by decide)⟩ w
theorem T_X10_judge_74 {Z : zT} {d : Nat} {σ : Sg} {l1 : Int32} {l2 : Int32} {l3 : Int32} {l4 : Int32} {K : kS} (F : FX ΦC σ.sh σ.r) (w : (l2 ≤ l4 → C_X10_keepKinds_0 Z d σ l1 (yN K fun τ1 => ib l1 24 ∧ (K (.inl (some (.int (τ1.i 69 l1.toNatClampNeg)))) τ1))) ∧ (¬ l2 ≤ l4 → ib l1 24 ∧ ((¬ (σ.i 69 l1.toNatClampNeg) = 0 → C_X10_keepKinds_0 Z d σ l1 (yN K fun τ5 => ib l1 24 ∧ (K (.inl (some (.int (τ5.i 69 l1.toNatClampNeg)))) τ5))) ∧ ((σ.i 69 l1.toNatClampNeg) = 0 → ib l1 24 ∧ (C_X10_goToRow_0 Z d σ l4 (σ.i 31 l1.toNatClampNeg) (yN K fun τ9 => C_X10_gatherFitting_0 Z d τ9 l1 (yI K fun v13 τ11 => (v13 ≤ 0 → C_X10_judge_122 Z (d + 1) τ11 l1 l2 l4 v13 l3 0 K) ∧ (¬ v13 ≤ 0 → C_X10_judge_122 Z (d + 1) τ11 l1 l2 l4 v13 l3 1 K)))))))) : C_X10_judge_74 Z (d + 1) σ l1 l2 l3 l4 K := by
  unfold C_X10_judge_74
  refine ab_fin.s2 (i := .iload 4) (k := 2) (pc' := 76) (lv' := [(0, .ref 67), (1, .int l1), (2, .int l2), (3, .int l3), (4, .int l4)]) (st' := [.int l4]) (by decide +kernel) rfl rfl ?_
  refine ab_fin.s2 (i := .iload_n 2) (k := 1) (pc' := 77) (lv' := [(0, .ref 67), (1, .int l1), (2, .int l2), (3, .int l3), (4, .int l4)]) (st' := [.int l2, .int l4]) (by decide +kernel) rfl rfl ?_
  refine ab_fin.br (c := l2 ≤ l4) (i := .if_icmp .ge 99) (off := 99) (t := 176) (pc' := 80) (r := []) (by decide +kernel) rfl (by decide +kernel) rfl (fun q => ?_) (fun q => ?_)
  · replace w := w.1 q
    refine ab_fin.s2 (i := .aload_n 0) (k := 1) (pc' := 177) (lv' := [(0, .ref 67), (1, .int l1), (2, .int l2), (3, .int l3), (4, .int l4)]) (st' := [.ref 67]) (by decide +kernel) rfl rfl ?_
    refine ab_fin.s2 (i := .iload_n 1) (k := 1) (pc' := 178) (lv' := [(0, .ref 67), (1, .int l1), (2, .int l2), (3, .int l3), (4, .int l4)]) (st' := [.int l1, .ref 67]) (by decide +kernel) rfl rfl ?_
    refine ab_fin.q_yN (i := .invokevirtual 73) (k := 3) (y := 2563) (As := [.ref 67, .int l1]) (rest := []) (M' := (mX10_keepKinds, [])) (lv2 := [(0, .ref 67), (1, .int l1)]) (pc' := 181) (X := K) (by decide +kernel) (ab_cv rfl rfl (conc_get (σ := σ) (F.s t0_67)) ⟨(Nat.le_of_ble_eq_true rfl), (Nat.le_of_ble_eq_true rfl)⟩ rfl) rfl (Nat.le_of_ble_eq_true rfl) rfl rfl (hY_no fun E => rfl) w (fun τ1 F2 w => ?_)
    refine ab_fin.s2 (i := .aload_n 0) (k := 1) (pc' := 182) (lv' := [(0, .ref 67), (1, .int l1), (2, .int l2), (3, .int l3), (4, .int l4)]) (st' := [.ref 67]) (by decide +kernel) rfl rfl ?_
    refine ab_fin.q_rA (b := 69) (ix := 15) (ci := 11) (k := 4) (pc' := 185) (by decide +kernel) rfl (c_rA (F2.s t0_67) rfl (rC_11_4 F2 t0_67)) rfl ?_
    refine ab_fin.s2 (i := .iload_n 1) (k := 1) (pc' := 186) (lv' := [(0, .ref 67), (1, .int l1), (2, .int l2), (3, .int l3), (4, .int l4)]) (st' := [.int l1, .ref 69]) (by decide +kernel) rfl rfl ?_
    obtain ⟨e3, w⟩ := w
    refine ab_fin.q_eI (x := (τ1.i 69 l1.toNatClampNeg)) (pc' := 187) (by decide +kernel) (c_eI' (F2.s t0_69) e3 rfl) rfl ?_
    exact ab_fin.q_ret (i := .ireturn) (k := 1) (v := some (.int (τ1.i 69 l1.toNatClampNeg))) (by decide +kernel) rfl F2 w
  · replace w := w.2 q
    refine ab_fin.s2 (i := .aload_n 0) (k := 1) (pc' := 81) (lv' := [(0, .ref 67), (1, .int l1), (2, .int l2), (3, .int l3), (4, .int l4)]) (st' := [.ref 67]) (by decide +kernel) rfl rfl ?_
    refine ab_fin.q_rA (b := 69) (ix := 15) (ci := 11) (k := 4) (pc' := 84) (by decide +kernel) rfl (c_rA (F.s t0_67) rfl (rC_11_4 F t0_67)) rfl ?_
    refine ab_fin.s2 (i := .iload_n 1) (k := 1) (pc' := 85) (lv' := [(0, .ref 67), (1, .int l1), (2, .int l2), (3, .int l3), (4, .int l4)]) (st' := [.int l1, .ref 69]) (by decide +kernel) rfl rfl ?_
    obtain ⟨e4, w⟩ := w
    refine ab_fin.q_eI (x := (σ.i 69 l1.toNatClampNeg)) (pc' := 86) (by decide +kernel) (c_eI' (F.s t0_69) e4 rfl) rfl ?_
    refine ab_fin.br (c := ¬ (σ.i 69 l1.toNatClampNeg) = 0) (i := .ifCond .ne 90) (off := 90) (t := 176) (pc' := 89) (r := []) (by decide +kernel) rfl (by decide +kernel) rfl (fun q => ?_) (fun q => ?_)
    · replace w := w.1 q
      refine ab_fin.s2 (i := .aload_n 0) (k := 1) (pc' := 177) (lv' := [(0, .ref 67), (1, .int l1), (2, .int l2), (3, .int l3), (4, .int l4)]) (st' := [.ref 67]) (by decide +kernel) rfl rfl ?_
      refine ab_fin.s2 (i := .iload_n 1) (k := 1) (pc' := 178) (lv' := [(0, .ref 67), (1, .int l1), (2, .int l2), (3, .int l3), (4, .int l4)]) (st' := [.int l1, .ref 67]) (by decide +kernel) rfl rfl ?_
      refine ab_fin.q_yN (i := .invokevirtual 73) (k := 3) (y := 2563) (As := [.ref 67, .int l1]) (rest := []) (M' := (mX10_keepKinds, [])) (lv2 := [(0, .ref 67), (1, .int l1)]) (pc' := 181) (X := K) (by decide +kernel) (ab_cv rfl rfl (conc_get (σ := σ) (F.s t0_67)) ⟨(Nat.le_of_ble_eq_true rfl), (Nat.le_of_ble_eq_true rfl)⟩ rfl) rfl (Nat.le_of_ble_eq_true rfl) rfl rfl (hY_no fun E => rfl) w (fun τ5 F6 w => ?_)
      refine ab_fin.s2 (i := .aload_n 0) (k := 1) (pc' := 182) (lv' := [(0, .ref 67), (1, .int l1), (2, .int l2), (3, .int l3), (4, .int l4)]) (st' := [.ref 67]) (by decide +kernel) rfl rfl ?_
      refine ab_fin.q_rA (b := 69) (ix := 15) (ci := 11) (k := 4) (pc' := 185) (by decide +kernel) rfl (c_rA (F6.s t0_67) rfl (rC_11_4 F6 t0_67)) rfl ?_
      refine ab_fin.s2 (i := .iload_n 1) (k := 1) (pc' := 186) (lv' := [(0, .ref 67), (1, .int l1), (2, .int l2), (3, .int l3), (4, .int l4)]) (st' := [.int l1, .ref 69]) (by decide +kernel) rfl rfl ?_
      obtain ⟨e7, w⟩ := w
      refine ab_fin.q_eI (x := (τ5.i 69 l1.toNatClampNeg)) (pc' := 187) (by decide +kernel) (c_eI' (F6.s t0_69) e7 rfl) rfl ?_
      exact ab_fin.q_ret (i := .ireturn) (k := 1) (v := some (.int (τ5.i 69 l1.toNatClampNeg))) (by decide +kernel) rfl F6 w
    · replace w := w.2 (Decidable.of_not_not q)
      refine ab_fin.s2 (i := .aload_n 0) (k := 1) (pc' := 90) (lv' := [(0, .ref 67), (1, .int l1), (2, .int l2), (3, .int l3), (4, .int l4)]) (st' := [.ref 67]) (by decide +kernel) rfl rfl ?_
      refine ab_fin.s2 (i := .iload 4) (k := 2) (pc' := 92) (lv' := [(0, .ref 67), (1, .int l1), (2, .int l2), (3, .int l3), (4, .int l4)]) (st' := [.int l4, .ref 67]) (by decide +kernel) rfl rfl ?_
      refine ab_fin.s2 (i := .aload_n 0) (k := 1) (pc' := 93) (lv' := [(0, .ref 67), (1, .int l1), (2, .int l2), (3, .int l3), (4, .int l4)]) (st' := [.ref 67, .int l4, .ref 67]) (by decide +kernel) rfl rfl ?_
      refine ab_fin.q_rA (b := 1) (ix := 33) (ci := 11) (k := 0) (pc' := 96) (by decide +kernel) rfl (c_rA (F.s t0_67) rfl (rC_11_0 F t0_67)) rfl ?_
      refine ab_fin.q_rA (b := 31) (ix := 56) (ci := 12) (k := 6) (pc' := 99) (by decide +kernel) rfl (c_rA (F.s t0_1) rfl (rC_12_6 F t0_1)) rfl ?_
      refine ab_fin.s2 (i := .iload_n 1) (k := 1) (pc' := 100) (lv' := [(0, .ref 67), (1, .int l1), (2, .int l2), (3, .int l3), (4, .int l4)]) (st' := [.int l1, .ref 31, .int l4, .ref 67]) (by decide +kernel) rfl rfl ?_
      obtain ⟨e8, w⟩ := w
      refine ab_fin.q_eI (x := (σ.i 31 l1.toNatClampNeg)) (pc' := 101) (by decide +kernel) (c_eI' (F.s t0_31) e8 rfl) rfl ?_
      refine ab_fin.q_yN (i := .invokevirtual 62) (k := 3) (y := 2562) (As := [.ref 67, .int l4, .int (σ.i 31 l1.toNatClampNeg)]) (rest := []) (M' := (mX10_goToRow, [])) (lv2 := [(0, .ref 67), (1, .int l4), (2, .int (σ.i 31 l1.toNatClampNeg))]) (pc' := 104) (X := K) (by decide +kernel) (ab_cv rfl rfl (conc_get (σ := σ) (F.s t0_67)) ⟨(Nat.le_of_ble_eq_true rfl), (Nat.le_of_ble_eq_true rfl)⟩ rfl) rfl (Nat.le_of_ble_eq_true rfl) rfl rfl (hY_no fun E => rfl) w (fun τ9 F10 w => ?_)
      refine ab_fin.s2 (i := .aload_n 0) (k := 1) (pc' := 105) (lv' := [(0, .ref 67), (1, .int l1), (2, .int l2), (3, .int l3), (4, .int l4)]) (st' := [.ref 67]) (by decide +kernel) rfl rfl ?_
      refine ab_fin.s2 (i := .iload_n 1) (k := 1) (pc' := 106) (lv' := [(0, .ref 67), (1, .int l1), (2, .int l2), (3, .int l3), (4, .int l4)]) (st' := [.int l1, .ref 67]) (by decide +kernel) rfl rfl ?_
      refine ab_fin.q_yI (i := .invokevirtual 66) (k := 3) (y := 2564) (As := [.ref 67, .int l1]) (rest := []) (M' := (mX10_gatherFitting, [])) (lv2 := [(0, .ref 67), (1, .int l1)]) (pc' := 109) (X := K) (by decide +kernel) (ab_cv rfl rfl (conc_get (σ := τ9) (F10.s t0_67)) ⟨(Nat.le_of_ble_eq_true rfl), (Nat.le_of_ble_eq_true rfl)⟩ rfl) rfl (Nat.le_of_ble_eq_true rfl) rfl rfl (hY_no fun E => rfl) w (fun v13 τ11 F12 w => ?_)
      refine ab_fin.s2 (i := .istore 5) (k := 2) (pc' := 111) (lv' := [(5, .int v13), (0, .ref 67), (1, .int l1), (2, .int l2), (3, .int l3), (4, .int l4)]) (st' := []) (by decide +kernel) rfl rfl ?_
      refine ab_fin.s2 (i := .iload_n 3) (k := 1) (pc' := 112) (lv' := [(5, .int v13), (0, .ref 67), (1, .int l1), (2, .int l2), (3, .int l3), (4, .int l4)]) (st' := [.int l3]) (by decide +kernel) rfl rfl ?_
      refine ab_fin.s2 (i := .iload 5) (k := 2) (pc' := 114) (lv' := [(5, .int v13), (0, .ref 67), (1, .int l1), (2, .int l2), (3, .int l3), (4, .int l4)]) (st' := [.int v13, .int l3]) (by decide +kernel) rfl rfl ?_
      refine ab_fin.br (c := v13 ≤ 0) (i := .ifCond .le 7) (off := 7) (t := 121) (pc' := 117) (r := [.int l3]) (by decide +kernel) rfl (by decide +kernel) rfl (fun q => ?_) (fun q => ?_)
      · replace w := w.1 q
        refine ab_fin.s1i (i := .iconst 0) (k := 1) (pc' := 122) (n := 0) (by decide +kernel) rfl (by decide +kernel) rfl ?_
        exact ab_fin.lv ⟨(List.forall_mem_cons.mpr ⟨(List.Mem.tail _ (List.Mem.head _)), (List.forall_mem_cons.mpr ⟨(List.Mem.tail _ (List.Mem.tail _ (List.Mem.head _))), (List.forall_mem_cons.mpr ⟨(List.Mem.tail _ (List.Mem.tail _ (List.Mem.tail _ (List.Mem.head _)))), (List.forall_mem_cons.mpr ⟨(List.Mem.tail _ (List.Mem.tail _ (List.Mem.tail _ (List.Mem.tail _ (List.Mem.tail _ (List.Mem.head _)))))), (List.forall_mem_cons.mpr ⟨(List.Mem.head _), (fun _ h => absurd h List.not_mem_nil)⟩)⟩)⟩)⟩)⟩), (show ([5, 0, 1, 2, 3, 4] : List Nat).Nodup from by decide)⟩ w
      · replace w := w.2 q
        refine ab_fin.s1i (i := .iconst 1) (k := 1) (pc' := 118) (n := 1) (by decide +kernel) rfl (by decide +kernel) rfl ?_
        refine ab_fin.s3 (i := .goto 4) (k := 3) (t := 122) (st' := [.int 1, .int l3]) (by decide +kernel) (ab_gto (by decide +kernel)) ?_
        exact ab_fin.lv ⟨(List.forall_mem_cons.mpr ⟨(List.Mem.tail _ (List.Mem.head _)), (List.forall_mem_cons.mpr ⟨(List.Mem.tail _ (List.Mem.tail _ (List.Mem.head _))), (List.forall_mem_cons.mpr ⟨(List.Mem.tail _ (List.Mem.tail _ (List.Mem.tail _ (List.Mem.head _)))), (List.forall_mem_cons.mpr ⟨(List.Mem.tail _ (List.Mem.tail _ (List.Mem.tail _ (List.Mem.tail _ (List.Mem.tail _ (List.Mem.head _)))))), (List.forall_mem_cons.mpr ⟨(List.Mem.head _), (fun _ h => absurd h List.not_mem_nil)⟩)⟩)⟩)⟩)⟩), (show ([5, 0, 1, 2, 3, 4] : List Nat).Nodup from by decide)⟩ w
theorem T_X10_judge_122 {Z : zT} {d : Nat} {σ : Sg} {l1 : Int32} {l2 : Int32} {l4 : Int32} {l5 : Int32} {s0 : Int32} {s1 : Int32} {K : kS} (F : FX ΦC σ.sh σ.r) (w : (8 < l5 → C_X10_judge_143 Z (d + 1) σ l1 l2 (s0 + s1) l4 K) ∧ (¬ 8 < l5 → (l5 ≤ 0 → C_X10_judge_147 Z (d + 1) σ l1 l2 (s0 + s1) l4 K) ∧ (¬ l5 ≤ 0 → ((s0 + s1) ≤ 200 → C_X10_judge_147 Z (d + 1) σ l1 l2 (s0 + s1) l4 K) ∧ (¬ (s0 + s1) ≤ 200 → C_X10_judge_143 Z (d + 1) σ l1 l2 (s0 + s1) l4 K)))) : C_X10_judge_122 Z (d + 1) σ l1 l2 l4 l5 s0 s1 K := by
  unfold C_X10_judge_122
  refine ab_fin.s1 (i := .iadd) (k := 1) (pc' := 123) (st' := [.int (s0 + s1)]) (by decide +kernel) rfl rfl ?_
  refine ab_fin.s2 (i := .istore_n 3) (k := 1) (pc' := 124) (lv' := [(3, .int (s0 + s1)), (0, .ref 67), (1, .int l1), (2, .int l2), (4, .int l4), (5, .int l5)]) (st' := []) (by decide +kernel) rfl rfl ?_
  refine ab_fin.s2 (i := .iload 5) (k := 2) (pc' := 126) (lv' := [(3, .int (s0 + s1)), (0, .ref 67), (1, .int l1), (2, .int l2), (4, .int l4), (5, .int l5)]) (st' := [.int l5]) (by decide +kernel) rfl rfl ?_
  refine ab_fin.s1i (i := .bipush 8) (k := 2) (pc' := 128) (n := 8) (by decide +kernel) rfl (by decide +kernel) rfl ?_
  refine ab_fin.br (c := 8 < l5) (i := .if_icmp .gt 15) (off := 15) (t := 143) (pc' := 131) (r := []) (by decide +kernel) rfl (by decide +kernel) rfl (fun q => ?_) (fun q => ?_)
  · replace w := w.1 q
    exact ab_fin.lv ⟨(List.forall_mem_cons.mpr ⟨(List.Mem.tail _ (List.Mem.head _)), (List.forall_mem_cons.mpr ⟨(List.Mem.tail _ (List.Mem.tail _ (List.Mem.head _))), (List.forall_mem_cons.mpr ⟨(List.Mem.tail _ (List.Mem.tail _ (List.Mem.tail _ (List.Mem.head _)))), (List.forall_mem_cons.mpr ⟨(List.Mem.head _), (List.forall_mem_cons.mpr ⟨(List.Mem.tail _ (List.Mem.tail _ (List.Mem.tail _ (List.Mem.tail _ (List.Mem.head _))))), (fun _ h => absurd h List.not_mem_nil)⟩)⟩)⟩)⟩)⟩), (show ([3, 0, 1, 2, 4, 5] : List Nat).Nodup from by decide)⟩ w
  · replace w := w.2 q
    refine ab_fin.s2 (i := .iload 5) (k := 2) (pc' := 133) (lv' := [(3, .int (s0 + s1)), (0, .ref 67), (1, .int l1), (2, .int l2), (4, .int l4), (5, .int l5)]) (st' := [.int l5]) (by decide +kernel) rfl rfl ?_
    refine ab_fin.br (c := l5 ≤ 0) (i := .ifCond .le 14) (off := 14) (t := 147) (pc' := 136) (r := []) (by decide +kernel) rfl (by decide +kernel) rfl (fun q => ?_) (fun q => ?_)
    · replace w := w.1 q
      exact ab_fin.lv ⟨(List.forall_mem_cons.mpr ⟨(List.Mem.tail _ (List.Mem.head _)), (List.forall_mem_cons.mpr ⟨(List.Mem.tail _ (List.Mem.tail _ (List.Mem.head _))), (List.forall_mem_cons.mpr ⟨(List.Mem.tail _ (List.Mem.tail _ (List.Mem.tail _ (List.Mem.head _)))), (List.forall_mem_cons.mpr ⟨(List.Mem.head _), (List.forall_mem_cons.mpr ⟨(List.Mem.tail _ (List.Mem.tail _ (List.Mem.tail _ (List.Mem.tail _ (List.Mem.head _))))), (fun _ h => absurd h List.not_mem_nil)⟩)⟩)⟩)⟩)⟩), (show ([3, 0, 1, 2, 4, 5] : List Nat).Nodup from by decide)⟩ w
    · replace w := w.2 q
      refine ab_fin.s2 (i := .iload_n 3) (k := 1) (pc' := 137) (lv' := [(3, .int (s0 + s1)), (0, .ref 67), (1, .int l1), (2, .int l2), (4, .int l4), (5, .int l5)]) (st' := [.int (s0 + s1)]) (by decide +kernel) rfl rfl ?_
      refine ab_fin.s1i (i := .sipush 200) (k := 3) (pc' := 140) (n := 200) (by decide +kernel) rfl (by decide +kernel) rfl ?_
      refine ab_fin.br (c := (s0 + s1) ≤ 200) (i := .if_icmp .le 7) (off := 7) (t := 147) (pc' := 143) (r := []) (by decide +kernel) rfl (by decide +kernel) rfl (fun q => ?_) (fun q => ?_)
      · replace w := w.1 q
        exact ab_fin.lv ⟨(List.forall_mem_cons.mpr ⟨(List.Mem.tail _ (List.Mem.head _)), (List.forall_mem_cons.mpr ⟨(List.Mem.tail _ (List.Mem.tail _ (List.Mem.head _))), (List.forall_mem_cons.mpr ⟨(List.Mem.tail _ (List.Mem.tail _ (List.Mem.tail _ (List.Mem.head _)))), (List.forall_mem_cons.mpr ⟨(List.Mem.head _), (List.forall_mem_cons.mpr ⟨(List.Mem.tail _ (List.Mem.tail _ (List.Mem.tail _ (List.Mem.tail _ (List.Mem.head _))))), (fun _ h => absurd h List.not_mem_nil)⟩)⟩)⟩)⟩)⟩), (show ([3, 0, 1, 2, 4, 5] : List Nat).Nodup from by decide)⟩ w
      · replace w := w.2 q
        exact ab_fin.lv ⟨(List.forall_mem_cons.mpr ⟨(List.Mem.tail _ (List.Mem.head _)), (List.forall_mem_cons.mpr ⟨(List.Mem.tail _ (List.Mem.tail _ (List.Mem.head _))), (List.forall_mem_cons.mpr ⟨(List.Mem.tail _ (List.Mem.tail _ (List.Mem.tail _ (List.Mem.head _)))), (List.forall_mem_cons.mpr ⟨(List.Mem.head _), (List.forall_mem_cons.mpr ⟨(List.Mem.tail _ (List.Mem.tail _ (List.Mem.tail _ (List.Mem.tail _ (List.Mem.head _))))), (fun _ h => absurd h List.not_mem_nil)⟩)⟩)⟩)⟩)⟩), (show ([3, 0, 1, 2, 4, 5] : List Nat).Nodup from by decide)⟩ w
theorem T_X10_judge_143 {Z : zT} {d : Nat} {σ : Sg} {l1 : Int32} {l2 : Int32} {l3 : Int32} {l4 : Int32} {K : kS} (F : FX ΦC σ.sh σ.r) (w : C_X10_judge_148 Z (d + 1) σ l1 l2 l3 l4 1 K) : C_X10_judge_143 Z (d + 1) σ l1 l2 l3 l4 K := by
  unfold C_X10_judge_143
  refine ab_fin.s1i (i := .iconst 1) (k := 1) (pc' := 144) (n := 1) (by decide +kernel) rfl (by decide +kernel) rfl ?_
  refine ab_fin.s3 (i := .goto 4) (k := 3) (t := 148) (st' := [.int 1]) (by decide +kernel) (ab_gto (by decide +kernel)) ?_
  exact ab_fin.lv ⟨(List.forall_mem_cons.mpr ⟨(List.Mem.head _), (List.forall_mem_cons.mpr ⟨(List.Mem.tail _ (List.Mem.head _)), (List.forall_mem_cons.mpr ⟨(List.Mem.tail _ (List.Mem.tail _ (List.Mem.head _))), (List.forall_mem_cons.mpr ⟨(List.Mem.tail _ (List.Mem.tail _ (List.Mem.tail _ (List.Mem.head _)))), (List.forall_mem_cons.mpr ⟨(List.Mem.tail _ (List.Mem.tail _ (List.Mem.tail _ (List.Mem.tail _ (List.Mem.head _))))), (fun _ h => absurd h List.not_mem_nil)⟩)⟩)⟩)⟩)⟩), (show ([0, 1, 2, 3, 4] : List Nat).Nodup from by decide)⟩ w
theorem T_X10_judge_147 {Z : zT} {d : Nat} {σ : Sg} {l1 : Int32} {l2 : Int32} {l3 : Int32} {l4 : Int32} {K : kS} (F : FX ΦC σ.sh σ.r) (w : C_X10_judge_148 Z (d + 1) σ l1 l2 l3 l4 0 K) : C_X10_judge_147 Z (d + 1) σ l1 l2 l3 l4 K := by
  unfold C_X10_judge_147
  refine ab_fin.s1i (i := .iconst 0) (k := 1) (pc' := 148) (n := 0) (by decide +kernel) rfl (by decide +kernel) rfl ?_
  exact ab_fin.lv ⟨(List.forall_mem_cons.mpr ⟨(List.Mem.head _), (List.forall_mem_cons.mpr ⟨(List.Mem.tail _ (List.Mem.head _)), (List.forall_mem_cons.mpr ⟨(List.Mem.tail _ (List.Mem.tail _ (List.Mem.head _))), (List.forall_mem_cons.mpr ⟨(List.Mem.tail _ (List.Mem.tail _ (List.Mem.tail _ (List.Mem.head _)))), (List.forall_mem_cons.mpr ⟨(List.Mem.tail _ (List.Mem.tail _ (List.Mem.tail _ (List.Mem.tail _ (List.Mem.head _))))), (fun _ h => absurd h List.not_mem_nil)⟩)⟩)⟩)⟩)⟩), (show ([0, 1, 2, 3, 4] : List Nat).Nodup from by decide)⟩ w
theorem T_X10_judge_148 {Z : zT} {d : Nat} {σ : Sg} {l1 : Int32} {l2 : Int32} {l3 : Int32} {l4 : Int32} {s0 : Int32} {K : kS} (F : FX ΦC σ.sh σ.r) (w : (s0 = 0 → C_X10_judgeRow_0 Z d σ l1 (yI K fun v3 τ1 => ib l1 24 ∧ (C_X10_judge_74 Z (d + 1) (τ1.wi 69 l1.toNatClampNeg v3) l1 l2 l3 (l4 + 1) K))) ∧ (¬ s0 = 0 → ib l1 24 ∧ (C_X10_judge_74 Z (d + 1) (σ.wi 69 l1.toNatClampNeg (-1 : Int32)) l1 l2 l3 (l4 + 1) K))) : C_X10_judge_148 Z (d + 1) σ l1 l2 l3 l4 s0 K := by
  unfold C_X10_judge_148
  refine ab_fin.s2 (i := .istore 6) (k := 2) (pc' := 150) (lv' := [(6, .int s0), (0, .ref 67), (1, .int l1), (2, .int l2), (3, .int l3), (4, .int l4)]) (st' := []) (by decide +kernel) rfl rfl ?_
  refine ab_fin.s2 (i := .aload_n 0) (k := 1) (pc' := 151) (lv' := [(6, .int s0), (0, .ref 67), (1, .int l1), (2, .int l2), (3, .int l3), (4, .int l4)]) (st' := [.ref 67]) (by decide +kernel) rfl rfl ?_
  refine ab_fin.q_rA (b := 69) (ix := 15) (ci := 11) (k := 4) (pc' := 154) (by decide +kernel) rfl (c_rA (F.s t0_67) rfl (rC_11_4 F t0_67)) rfl ?_
  refine ab_fin.s2 (i := .iload_n 1) (k := 1) (pc' := 155) (lv' := [(6, .int s0), (0, .ref 67), (1, .int l1), (2, .int l2), (3, .int l3), (4, .int l4)]) (st' := [.int l1, .ref 69]) (by decide +kernel) rfl rfl ?_
  refine ab_fin.s2 (i := .iload 6) (k := 2) (pc' := 157) (lv' := [(6, .int s0), (0, .ref 67), (1, .int l1), (2, .int l2), (3, .int l3), (4, .int l4)]) (st' := [.int s0, .int l1, .ref 69]) (by decide +kernel) rfl rfl ?_
  refine ab_fin.br (c := s0 = 0) (i := .ifCond .eq 7) (off := 7) (t := 164) (pc' := 160) (r := [.int l1, .ref 69]) (by decide +kernel) rfl (by decide +kernel) rfl (fun q => ?_) (fun q => ?_)
  · replace w := w.1 q
    refine ab_fin.s2 (i := .aload_n 0) (k := 1) (pc' := 165) (lv' := [(6, .int s0), (0, .ref 67), (1, .int l1), (2, .int l2), (3, .int l3), (4, .int l4)]) (st' := [.ref 67, .int l1, .ref 69]) (by decide +kernel) rfl rfl ?_
    refine ab_fin.s2 (i := .iload_n 1) (k := 1) (pc' := 166) (lv' := [(6, .int s0), (0, .ref 67), (1, .int l1), (2, .int l2), (3, .int l3), (4, .int l4)]) (st' := [.int l1, .ref 67, .int l1, .ref 69]) (by decide +kernel) rfl rfl ?_
    refine ab_fin.q_yI (i := .invokevirtual 70) (k := 3) (y := 2565) (As := [.ref 67, .int l1]) (rest := [.int l1, .ref 69]) (M' := (mX10_judgeRow, [])) (lv2 := [(0, .ref 67), (1, .int l1)]) (pc' := 169) (X := K) (by decide +kernel) (ab_cv rfl rfl (conc_get (σ := σ) (F.s t0_67)) ⟨(Nat.le_of_ble_eq_true rfl), (Nat.le_of_ble_eq_true rfl)⟩ rfl) rfl (Nat.le_of_ble_eq_true rfl) rfl rfl (hY_no fun E => rfl) w (fun v3 τ1 F2 w => ?_)
    obtain ⟨e4, w⟩ := w
    refine ab_fin.q_sI (h1 := conc (τ1.wi 69 l1.toNatClampNeg v3)) (pc' := 170) (by decide +kernel) (c_sI' (F2.s t0_69) e4 rfl) rfl ?_
    refine ab_fin.q_inc (n := 4) (c := 1) (pc' := 173) (lv' := [(4, .int (l4 + 1)), (6, .int s0), (0, .ref 67), (1, .int l1), (2, .int l2), (3, .int l3)]) (by decide +kernel) (by decide) rfl rfl rfl rfl ?_
    refine ab_fin.s3 (i := .goto (-99)) (k := 3) (t := 74) (st' := []) (by decide +kernel) (ab_gto (by decide +kernel)) ?_
    exact ab_fin.lv ⟨(List.forall_mem_cons.mpr ⟨(List.Mem.tail _ (List.Mem.tail _ (List.Mem.head _))), (List.forall_mem_cons.mpr ⟨(List.Mem.tail _ (List.Mem.tail _ (List.Mem.tail _ (List.Mem.head _)))), (List.forall_mem_cons.mpr ⟨(List.Mem.tail _ (List.Mem.tail _ (List.Mem.tail _ (List.Mem.tail _ (List.Mem.head _))))), (List.forall_mem_cons.mpr ⟨(List.Mem.tail _ (List.Mem.tail _ (List.Mem.tail _ (List.Mem.tail _ (List.Mem.tail _ (List.Mem.head _)))))), (List.forall_mem_cons.mpr ⟨(List.Mem.head _), (fun _ h => absurd h List.not_mem_nil)⟩)⟩)⟩)⟩)⟩), (show ([4, 6, 0, 1, 2, 3] : List Nat).Nodup from by decide)⟩ w
  · replace w := w.2 q
    refine ab_fin.s1i (i := .iconst (-1)) (k := 1) (pc' := 161) (n := (-1)) (by decide +kernel) rfl (by decide +kernel) rfl ?_
    refine ab_fin.s3 (i := .goto 8) (k := 3) (t := 169) (st' := [.int (-1), .int l1, .ref 69]) (by decide +kernel) (ab_gto (by decide +kernel)) ?_
    obtain ⟨e5, w⟩ := w
    refine ab_fin.q_sI (h1 := conc (σ.wi 69 l1.toNatClampNeg (-1 : Int32))) (pc' := 170) (by decide +kernel) (c_sI' (F.s t0_69) e5 rfl) rfl ?_
    refine ab_fin.q_inc (n := 4) (c := 1) (pc' := 173) (lv' := [(4, .int (l4 + 1)), (6, .int s0), (0, .ref 67), (1, .int l1), (2, .int l2), (3, .int l3)]) (by decide +kernel) (by decide) rfl rfl rfl rfl ?_
    refine ab_fin.s3 (i := .goto (-99)) (k := 3) (t := 74) (st' := []) (by decide +kernel) (ab_gto (by decide +kernel)) ?_
    exact ab_fin.lv ⟨(List.forall_mem_cons.mpr ⟨(List.Mem.tail _ (List.Mem.tail _ (List.Mem.head _))), (List.forall_mem_cons.mpr ⟨(List.Mem.tail _ (List.Mem.tail _ (List.Mem.tail _ (List.Mem.head _)))), (List.forall_mem_cons.mpr ⟨(List.Mem.tail _ (List.Mem.tail _ (List.Mem.tail _ (List.Mem.tail _ (List.Mem.head _))))), (List.forall_mem_cons.mpr ⟨(List.Mem.tail _ (List.Mem.tail _ (List.Mem.tail _ (List.Mem.tail _ (List.Mem.tail _ (List.Mem.head _)))))), (List.forall_mem_cons.mpr ⟨(List.Mem.head _), (fun _ h => absurd h List.not_mem_nil)⟩)⟩)⟩)⟩)⟩), (show ([4, 6, 0, 1, 2, 3] : List Nat).Nodup from by decide)⟩ w
theorem T_X10_goToRow_0 {Z : zT} {d : Nat} {σ : Sg} {l1 : Int32} {l2 : Int32} {K : kS} (F : FX ΦC σ.sh σ.r) (w : C_X10_goToRow_7 Z (d + 1) σ l1 (l2 - (1 : Int32)) K) : C_X10_goToRow_0 Z (d + 1) σ l1 l2 K := by
  unfold C_X10_goToRow_0
  refine ab_fin.s2 (i := .iload_n 1) (k := 1) (pc' := 1) (lv' := [(0, .ref 67), (1, .int l1), (2, .int l2)]) (st' := [.int l1]) (by decide +kernel) rfl rfl ?_
  refine ab_fin.s2 (i := .istore_n 3) (k := 1) (pc' := 2) (lv' := [(3, .int l1), (0, .ref 67), (1, .int l1), (2, .int l2)]) (st' := []) (by decide +kernel) rfl rfl ?_
  refine ab_fin.s2 (i := .iload_n 2) (k := 1) (pc' := 3) (lv' := [(3, .int l1), (0, .ref 67), (1, .int l1), (2, .int l2)]) (st' := [.int l2]) (by decide +kernel) rfl rfl ?_
  refine ab_fin.s1i (i := .iconst 1) (k := 1) (pc' := 4) (n := 1) (by decide +kernel) rfl (by decide +kernel) rfl ?_
  refine ab_fin.s1 (i := .isub) (k := 1) (pc' := 5) (st' := [.int (l2 - (1 : Int32))]) (by decide +kernel) rfl rfl ?_
  refine ab_fin.s2 (i := .istore 4) (k := 2) (pc' := 7) (lv' := [(4, .int (l2 - (1 : Int32))), (3, .int l1), (0, .ref 67), (1, .int l1), (2, .int l2)]) (st' := []) (by decide +kernel) rfl rfl ?_
  exact ab_fin.lv ⟨(List.forall_mem_cons.mpr ⟨(List.Mem.tail _ (List.Mem.tail _ (List.Mem.head _))), (List.forall_mem_cons.mpr ⟨(List.Mem.tail _ (List.Mem.head _)), (List.forall_mem_cons.mpr ⟨(List.Mem.head _), (fun _ h => absurd h List.not_mem_nil)⟩)⟩)⟩), (show ([4, 3, 0, 1, 2] : List Nat).Nodup from by decide)⟩ w
theorem T_X10_goToRow_7 {Z : zT} {d : Nat} {σ : Sg} {l3 : Int32} {l4 : Int32} {K : kS} (F : FX ΦC σ.sh σ.r) (w : (l4 < 0 → K (.inl none) σ) ∧ (¬ l4 < 0 → ((σ.i 1 14) ≤ 0 → K (.inl none) σ) ∧ (¬ (σ.i 1 14) ≤ 0 → ¬ (σ.i 1 14) = 0 ∧ (ib (irm l3 (σ.i 1 14)) 24 ∧ (ib l4 3 ∧ (¬ (σ.i 1 14) = 0 ∧ (C_X10_goToRow_7 Z (d + 1) (σ.wi 71 l4.toNatClampNeg (σ.i 38 ((irm l3 (σ.i 1 14)).toNatClampNeg))) (l3 / (σ.i 1 14)) (l4 + (-1)) K))))))) : C_X10_goToRow_7 Z (d + 1) σ l3 l4 K := by
  unfold C_X10_goToRow_7
  refine ab_fin.s2 (i := .iload 4) (k := 2) (pc' := 9) (lv' := [(0, .ref 67), (3, .int l3), (4, .int l4)]) (st' := [.int l4]) (by decide +kernel) rfl rfl ?_
  refine ab_fin.br (c := l4 < 0) (i := .ifCond .lt 53) (off := 53) (t := 62) (pc' := 12) (r := []) (by decide +kernel) rfl (by decide +kernel) rfl (fun q => ?_) (fun q => ?_)
  · replace w := w.1 q
    exact ab_fin.q_ret (i := .return_) (k := 1) (v := none) (by decide +kernel) rfl F w
  · replace w := w.2 q
    refine ab_fin.s2 (i := .aload_n 0) (k := 1) (pc' := 13) (lv' := [(0, .ref 67), (3, .int l3), (4, .int l4)]) (st' := [.ref 67]) (by decide +kernel) rfl rfl ?_
    refine ab_fin.q_rA (b := 1) (ix := 33) (ci := 11) (k := 0) (pc' := 16) (by decide +kernel) rfl (c_rA (F.s t0_67) rfl (rC_11_0 F t0_67)) rfl ?_
    refine ab_fin.q_rI (x := (σ.i 1 14)) (ix := 59) (ci := 12) (k := 14) (pc' := 19) (by decide +kernel) rfl (c_rI (F.s t0_1) rfl) rfl ?_
    refine ab_fin.br (c := (σ.i 1 14) ≤ 0) (i := .ifCond .le 43) (off := 43) (t := 62) (pc' := 22) (r := []) (by decide +kernel) rfl (by decide +kernel) rfl (fun q => ?_) (fun q => ?_)
    · replace w := w.1 q
      exact ab_fin.q_ret (i := .return_) (k := 1) (v := none) (by decide +kernel) rfl F w
    · replace w := w.2 q
      refine ab_fin.s2 (i := .aload_n 0) (k := 1) (pc' := 23) (lv' := [(0, .ref 67), (3, .int l3), (4, .int l4)]) (st' := [.ref 67]) (by decide +kernel) rfl rfl ?_
      refine ab_fin.q_rA (b := 71) (ix := 21) (ci := 11) (k := 6) (pc' := 26) (by decide +kernel) rfl (c_rA (F.s t0_67) rfl (rC_11_6 F t0_67)) rfl ?_
      refine ab_fin.s2 (i := .iload 4) (k := 2) (pc' := 28) (lv' := [(0, .ref 67), (3, .int l3), (4, .int l4)]) (st' := [.int l4, .ref 71]) (by decide +kernel) rfl rfl ?_
      refine ab_fin.s2 (i := .aload_n 0) (k := 1) (pc' := 29) (lv' := [(0, .ref 67), (3, .int l3), (4, .int l4)]) (st' := [.ref 67, .int l4, .ref 71]) (by decide +kernel) rfl rfl ?_
      refine ab_fin.q_rA (b := 1) (ix := 33) (ci := 11) (k := 0) (pc' := 32) (by decide +kernel) rfl (c_rA (F.s t0_67) rfl (rC_11_0 F t0_67)) rfl ?_
      refine ab_fin.q_rA (b := 38) (ix := 77) (ci := 12) (k := 13) (pc' := 35) (by decide +kernel) rfl (c_rA (F.s t0_1) rfl (rC_12_13 F t0_1)) rfl ?_
      refine ab_fin.s2 (i := .iload_n 3) (k := 1) (pc' := 36) (lv' := [(0, .ref 67), (3, .int l3), (4, .int l4)]) (st' := [.int l3, .ref 38, .int l4, .ref 71]) (by decide +kernel) rfl rfl ?_
      refine ab_fin.s2 (i := .aload_n 0) (k := 1) (pc' := 37) (lv' := [(0, .ref 67), (3, .int l3), (4, .int l4)]) (st' := [.ref 67, .int l3, .ref 38, .int l4, .ref 71]) (by decide +kernel) rfl rfl ?_
      refine ab_fin.q_rA (b := 1) (ix := 33) (ci := 11) (k := 0) (pc' := 40) (by decide +kernel) rfl (c_rA (F.s t0_67) rfl (rC_11_0 F t0_67)) rfl ?_
      refine ab_fin.q_rI (x := (σ.i 1 14)) (ix := 59) (ci := 12) (k := 14) (pc' := 43) (by decide +kernel) rfl (c_rI (F.s t0_1) rfl) rfl ?_
      obtain ⟨c1, w⟩ := w
      refine ab_fin.q_rem (pc' := 44) (by decide +kernel) c1 rfl ?_
      obtain ⟨e2, w⟩ := w
      refine ab_fin.q_eI (x := (σ.i 38 ((irm l3 (σ.i 1 14)).toNatClampNeg))) (pc' := 45) (by decide +kernel) (c_eI' (F.s t0_38) e2 rfl) rfl ?_
      obtain ⟨e3, w⟩ := w
      refine ab_fin.q_sI (h1 := conc (σ.wi 71 l4.toNatClampNeg (σ.i 38 ((irm l3 (σ.i 1 14)).toNatClampNeg)))) (pc' := 46) (by decide +kernel) (c_sI' (F.s t0_71) e3 rfl) rfl ?_
      refine ab_fin.s2 (i := .iload_n 3) (k := 1) (pc' := 47) (lv' := [(0, .ref 67), (3, .int l3), (4, .int l4)]) (st' := [.int l3]) (by decide +kernel) rfl rfl ?_
      refine ab_fin.s2 (i := .aload_n 0) (k := 1) (pc' := 48) (lv' := [(0, .ref 67), (3, .int l3), (4, .int l4)]) (st' := [.ref 67, .int l3]) (by decide +kernel) rfl rfl ?_
      refine ab_fin.q_rA (b := 1) (ix := 33) (ci := 11) (k := 0) (pc' := 51) (by decide +kernel) rfl (c_rA (F.s t0_67) rfl (rC_11_0 F t0_67)) rfl ?_
      refine ab_fin.q_rI (x := (σ.i 1 14)) (ix := 59) (ci := 12) (k := 14) (pc' := 54) (by decide +kernel) rfl (c_rI (F.s t0_1) rfl) rfl ?_
      obtain ⟨c4, w⟩ := w
      refine ab_fin.q_div (pc' := 55) (by decide +kernel) c4 rfl ?_
      refine ab_fin.s2 (i := .istore_n 3) (k := 1) (pc' := 56) (lv' := [(3, .int (l3 / (σ.i 1 14))), (0, .ref 67), (4, .int l4)]) (st' := []) (by decide +kernel) rfl rfl ?_
      refine ab_fin.q_inc (n := 4) (c := (-1)) (pc' := 59) (lv' := [(4, .int (l4 + (-1))), (3, .int (l3 / (σ.i 1 14))), (0, .ref 67)]) (by decide +kernel) (by decide) rfl rfl rfl rfl ?_
      refine ab_fin.s3 (i := .goto (-52)) (k := 3) (t := 7) (st' := []) (by decide +kernel) (ab_gto (by decide +kernel)) ?_
      exact ab_fin.lv ⟨(List.forall_mem_cons.mpr ⟨(List.Mem.tail _ (List.Mem.tail _ (List.Mem.head _))), (List.forall_mem_cons.mpr ⟨(List.Mem.tail _ (List.Mem.head _)), (List.forall_mem_cons.mpr ⟨(List.Mem.head _), (fun _ h => absurd h List.not_mem_nil)⟩)⟩)⟩), (show ([4, 3, 0] : List Nat).Nodup from by decide)⟩ w
theorem T_X10_keepKinds_0 {Z : zT} {d : Nat} {σ : Sg} {l1 : Int32} {K : kS} (F : FX ΦC σ.sh σ.r) (w : C_X10_keepKinds_2 Z (d + 1) σ l1 0 K) : C_X10_keepKinds_0 Z (d + 1) σ l1 K := by
  unfold C_X10_keepKinds_0
  refine ab_fin.s1i (i := .iconst 0) (k := 1) (pc' := 1) (n := 0) (by decide +kernel) rfl (by decide +kernel) rfl ?_
  refine ab_fin.s2 (i := .istore_n 2) (k := 1) (pc' := 2) (lv' := [(2, .int 0), (0, .ref 67), (1, .int l1)]) (st' := []) (by decide +kernel) rfl rfl ?_
  exact ab_fin.lv ⟨(List.forall_mem_cons.mpr ⟨(List.Mem.tail _ (List.Mem.head _)), (List.forall_mem_cons.mpr ⟨(List.Mem.tail _ (List.Mem.tail _ (List.Mem.head _))), (List.forall_mem_cons.mpr ⟨(List.Mem.head _), (fun _ h => absurd h List.not_mem_nil)⟩)⟩)⟩), (show ([2, 0, 1] : List Nat).Nodup from by decide)⟩ w
theorem T_X10_keepKinds_2 {Z : zT} {d : Nat} {σ : Sg} {l1 : Int32} {l2 : Int32} {K : kS} (F : FX ΦC σ.sh σ.r) (w : (3 ≤ l2 → K (.inl none) σ) ∧ (¬ 3 ≤ l2 → ib l1 24 ∧ (((σ.i 69 l1.toNatClampNeg) ≤ 0 → ib ((l1 * (3 : Int32)) + l2) 72 ∧ (C_X10_keepKinds_2 Z (d + 1) (σ.wi 70 (((l1 * (3 : Int32)) + l2).toNatClampNeg) (-1 : Int32)) l1 (l2 + 1) K)) ∧ (¬ (σ.i 69 l1.toNatClampNeg) ≤ 0 → ib l1 24 ∧ (((σ.i 31 l1.toNatClampNeg) ≤ l2 → ib ((l1 * (3 : Int32)) + l2) 72 ∧ (C_X10_keepKinds_2 Z (d + 1) (σ.wi 70 (((l1 * (3 : Int32)) + l2).toNatClampNeg) (-1 : Int32)) l1 (l2 + 1) K)) ∧ (¬ (σ.i 31 l1.toNatClampNeg) ≤ l2 → ib l2 3 ∧ (ib ((l1 * (3 : Int32)) + l2) 72 ∧ (C_X10_keepKinds_2 Z (d + 1) (σ.wi 70 (((l1 * (3 : Int32)) + l2).toNatClampNeg) (σ.i 71 l2.toNatClampNeg)) l1 (l2 + 1) K)))))))) : C_X10_keepKinds_2 Z (d + 1) σ l1 l2 K := by
  unfold C_X10_keepKinds_2
  refine ab_fin.s2 (i := .iload_n 2) (k := 1) (pc' := 3) (lv' := [(0, .ref 67), (1, .int l1), (2, .int l2)]) (st' := [.int l2]) (by decide +kernel) rfl rfl ?_
  refine ab_fin.s1i (i := .iconst 3) (k := 1) (pc' := 4) (n := 3) (by decide +kernel) rfl (by decide +kernel) rfl ?_
  refine ab_fin.br (c := 3 ≤ l2) (i := .if_icmp .ge 51) (off := 51) (t := 55) (pc' := 7) (r := []) (by decide +kernel) rfl (by decide +kernel) rfl (fun q => ?_) (fun q => ?_)
  · replace w := w.1 q
    exact ab_fin.q_ret (i := .return_) (k := 1) (v := none) (by decide +kernel) rfl F w
  · replace w := w.2 q
    refine ab_fin.s2 (i := .aload_n 0) (k := 1) (pc' := 8) (lv' := [(0, .ref 67), (1, .int l1), (2, .int l2)]) (st' := [.ref 67]) (by decide +kernel) rfl rfl ?_
    refine ab_fin.q_rA (b := 70) (ix := 18) (ci := 11) (k := 5) (pc' := 11) (by decide +kernel) rfl (c_rA (F.s t0_67) rfl (rC_11_5 F t0_67)) rfl ?_
    refine ab_fin.s2 (i := .iload_n 1) (k := 1) (pc' := 12) (lv' := [(0, .ref 67), (1, .int l1), (2, .int l2)]) (st' := [.int l1, .ref 70]) (by decide +kernel) rfl rfl ?_
    refine ab_fin.s1i (i := .iconst 3) (k := 1) (pc' := 13) (n := 3) (by decide +kernel) rfl (by decide +kernel) rfl ?_
    refine ab_fin.s1 (i := .imul) (k := 1) (pc' := 14) (st' := [.int (l1 * (3 : Int32)), .ref 70]) (by decide +kernel) rfl rfl ?_
    refine ab_fin.s2 (i := .iload_n 2) (k := 1) (pc' := 15) (lv' := [(0, .ref 67), (1, .int l1), (2, .int l2)]) (st' := [.int l2, .int (l1 * (3 : Int32)), .ref 70]) (by decide +kernel) rfl rfl ?_
    refine ab_fin.s1 (i := .iadd) (k := 1) (pc' := 16) (st' := [.int ((l1 * (3 : Int32)) + l2), .ref 70]) (by decide +kernel) rfl rfl ?_
    refine ab_fin.s2 (i := .aload_n 0) (k := 1) (pc' := 17) (lv' := [(0, .ref 67), (1, .int l1), (2, .int l2)]) (st' := [.ref 67, .int ((l1 * (3 : Int32)) + l2), .ref 70]) (by decide +kernel) rfl rfl ?_
    refine ab_fin.q_rA (b := 69) (ix := 15) (ci := 11) (k := 4) (pc' := 20) (by decide +kernel) rfl (c_rA (F.s t0_67) rfl (rC_11_4 F t0_67)) rfl ?_
    refine ab_fin.s2 (i := .iload_n 1) (k := 1) (pc' := 21) (lv' := [(0, .ref 67), (1, .int l1), (2, .int l2)]) (st' := [.int l1, .ref 69, .int ((l1 * (3 : Int32)) + l2), .ref 70]) (by decide +kernel) rfl rfl ?_
    obtain ⟨e1, w⟩ := w
    refine ab_fin.q_eI (x := (σ.i 69 l1.toNatClampNeg)) (pc' := 22) (by decide +kernel) (c_eI' (F.s t0_69) e1 rfl) rfl ?_
    refine ab_fin.br (c := (σ.i 69 l1.toNatClampNeg) ≤ 0) (i := .ifCond .le 25) (off := 25) (t := 47) (pc' := 25) (r := [.int ((l1 * (3 : Int32)) + l2), .ref 70]) (by decide +kernel) rfl (by decide +kernel) rfl (fun q => ?_) (fun q => ?_)
    · replace w := w.1 q
      refine ab_fin.s1i (i := .iconst (-1)) (k := 1) (pc' := 48) (n := (-1)) (by decide +kernel) rfl (by decide +kernel) rfl ?_
      obtain ⟨e2, w⟩ := w
      refine ab_fin.q_sI (h1 := conc (σ.wi 70 (((l1 * (3 : Int32)) + l2).toNatClampNeg) (-1 : Int32))) (pc' := 49) (by decide +kernel) (c_sI' (F.s t0_70) e2 rfl) rfl ?_
      refine ab_fin.q_inc (n := 2) (c := 1) (pc' := 52) (lv' := [(2, .int (l2 + 1)), (0, .ref 67), (1, .int l1)]) (by decide +kernel) (by decide) rfl rfl rfl rfl ?_
      refine ab_fin.s3 (i := .goto (-50)) (k := 3) (t := 2) (st' := []) (by decide +kernel) (ab_gto (by decide +kernel)) ?_
      exact ab_fin.lv ⟨(List.forall_mem_cons.mpr ⟨(List.Mem.tail _ (List.Mem.head _)), (List.forall_mem_cons.mpr ⟨(List.Mem.tail _ (List.Mem.tail _ (List.Mem.head _))), (List.forall_mem_cons.mpr ⟨(List.Mem.head _), (fun _ h => absurd h List.not_mem_nil)⟩)⟩)⟩), (show ([2, 0, 1] : List Nat).Nodup from by decide)⟩ w
    · replace w := w.2 q
      refine ab_fin.s2 (i := .iload_n 2) (k := 1) (pc' := 26) (lv' := [(0, .ref 67), (1, .int l1), (2, .int l2)]) (st' := [.int l2, .int ((l1 * (3 : Int32)) + l2), .ref 70]) (by decide +kernel) rfl rfl ?_
      refine ab_fin.s2 (i := .aload_n 0) (k := 1) (pc' := 27) (lv' := [(0, .ref 67), (1, .int l1), (2, .int l2)]) (st' := [.ref 67, .int l2, .int ((l1 * (3 : Int32)) + l2), .ref 70]) (by decide +kernel) rfl rfl ?_
      refine ab_fin.q_rA (b := 1) (ix := 33) (ci := 11) (k := 0) (pc' := 30) (by decide +kernel) rfl (c_rA (F.s t0_67) rfl (rC_11_0 F t0_67)) rfl ?_
      refine ab_fin.q_rA (b := 31) (ix := 56) (ci := 12) (k := 6) (pc' := 33) (by decide +kernel) rfl (c_rA (F.s t0_1) rfl (rC_12_6 F t0_1)) rfl ?_
      refine ab_fin.s2 (i := .iload_n 1) (k := 1) (pc' := 34) (lv' := [(0, .ref 67), (1, .int l1), (2, .int l2)]) (st' := [.int l1, .ref 31, .int l2, .int ((l1 * (3 : Int32)) + l2), .ref 70]) (by decide +kernel) rfl rfl ?_
      obtain ⟨e3, w⟩ := w
      refine ab_fin.q_eI (x := (σ.i 31 l1.toNatClampNeg)) (pc' := 35) (by decide +kernel) (c_eI' (F.s t0_31) e3 rfl) rfl ?_
      refine ab_fin.br (c := (σ.i 31 l1.toNatClampNeg) ≤ l2) (i := .if_icmp .ge 12) (off := 12) (t := 47) (pc' := 38) (r := [.int ((l1 * (3 : Int32)) + l2), .ref 70]) (by decide +kernel) rfl (by decide +kernel) rfl (fun q => ?_) (fun q => ?_)
      · replace w := w.1 q
        refine ab_fin.s1i (i := .iconst (-1)) (k := 1) (pc' := 48) (n := (-1)) (by decide +kernel) rfl (by decide +kernel) rfl ?_
        obtain ⟨e4, w⟩ := w
        refine ab_fin.q_sI (h1 := conc (σ.wi 70 (((l1 * (3 : Int32)) + l2).toNatClampNeg) (-1 : Int32))) (pc' := 49) (by decide +kernel) (c_sI' (F.s t0_70) e4 rfl) rfl ?_
        refine ab_fin.q_inc (n := 2) (c := 1) (pc' := 52) (lv' := [(2, .int (l2 + 1)), (0, .ref 67), (1, .int l1)]) (by decide +kernel) (by decide) rfl rfl rfl rfl ?_
        refine ab_fin.s3 (i := .goto (-50)) (k := 3) (t := 2) (st' := []) (by decide +kernel) (ab_gto (by decide +kernel)) ?_
        exact ab_fin.lv ⟨(List.forall_mem_cons.mpr ⟨(List.Mem.tail _ (List.Mem.head _)), (List.forall_mem_cons.mpr ⟨(List.Mem.tail _ (List.Mem.tail _ (List.Mem.head _))), (List.forall_mem_cons.mpr ⟨(List.Mem.head _), (fun _ h => absurd h List.not_mem_nil)⟩)⟩)⟩), (show ([2, 0, 1] : List Nat).Nodup from by decide)⟩ w
      · replace w := w.2 q
        refine ab_fin.s2 (i := .aload_n 0) (k := 1) (pc' := 39) (lv' := [(0, .ref 67), (1, .int l1), (2, .int l2)]) (st' := [.ref 67, .int ((l1 * (3 : Int32)) + l2), .ref 70]) (by decide +kernel) rfl rfl ?_
        refine ab_fin.q_rA (b := 71) (ix := 21) (ci := 11) (k := 6) (pc' := 42) (by decide +kernel) rfl (c_rA (F.s t0_67) rfl (rC_11_6 F t0_67)) rfl ?_
        refine ab_fin.s2 (i := .iload_n 2) (k := 1) (pc' := 43) (lv' := [(0, .ref 67), (1, .int l1), (2, .int l2)]) (st' := [.int l2, .ref 71, .int ((l1 * (3 : Int32)) + l2), .ref 70]) (by decide +kernel) rfl rfl ?_
        obtain ⟨e5, w⟩ := w
        refine ab_fin.q_eI (x := (σ.i 71 l2.toNatClampNeg)) (pc' := 44) (by decide +kernel) (c_eI' (F.s t0_71) e5 rfl) rfl ?_
        refine ab_fin.s3 (i := .goto 4) (k := 3) (t := 48) (st' := [.int (σ.i 71 l2.toNatClampNeg), .int ((l1 * (3 : Int32)) + l2), .ref 70]) (by decide +kernel) (ab_gto (by decide +kernel)) ?_
        obtain ⟨e6, w⟩ := w
        refine ab_fin.q_sI (h1 := conc (σ.wi 70 (((l1 * (3 : Int32)) + l2).toNatClampNeg) (σ.i 71 l2.toNatClampNeg))) (pc' := 49) (by decide +kernel) (c_sI' (F.s t0_70) e6 rfl) rfl ?_
        refine ab_fin.q_inc (n := 2) (c := 1) (pc' := 52) (lv' := [(2, .int (l2 + 1)), (0, .ref 67), (1, .int l1)]) (by decide +kernel) (by decide) rfl rfl rfl rfl ?_
        refine ab_fin.s3 (i := .goto (-50)) (k := 3) (t := 2) (st' := []) (by decide +kernel) (ab_gto (by decide +kernel)) ?_
        exact ab_fin.lv ⟨(List.forall_mem_cons.mpr ⟨(List.Mem.tail _ (List.Mem.head _)), (List.forall_mem_cons.mpr ⟨(List.Mem.tail _ (List.Mem.tail _ (List.Mem.head _))), (List.forall_mem_cons.mpr ⟨(List.Mem.head _), (fun _ h => absurd h List.not_mem_nil)⟩)⟩)⟩), (show ([2, 0, 1] : List Nat).Nodup from by decide)⟩ w
theorem T_X10_gatherFitting_0 {Z : zT} {d : Nat} {σ : Sg} {l1 : Int32} {K : kS} (F : FX ΦC σ.sh σ.r) (w : C_X11_listFor_0 Z d σ l1 71 72 (yI K fun v3 τ1 => C_X10_gatherFitting_36 Z (d + 1) (τ1.wi 67 9 (0 : Int32)) v3 0 0 K)) : C_X10_gatherFitting_0 Z (d + 1) σ l1 K := by
  unfold C_X10_gatherFitting_0
  refine ab_fin.s2 (i := .aload_n 0) (k := 1) (pc' := 1) (lv' := [(0, .ref 67), (1, .int l1)]) (st' := [.ref 67]) (by decide +kernel) rfl rfl ?_
  refine ab_fin.q_rA (b := 1) (ix := 33) (ci := 11) (k := 0) (pc' := 4) (by decide +kernel) rfl (c_rA (F.s t0_67) rfl (rC_11_0 F t0_67)) rfl ?_
  refine ab_fin.q_rA (b := 10) (ix := 80) (ci := 12) (k := 1) (pc' := 7) (by decide +kernel) rfl (c_rA (F.s t0_1) rfl (rC_12_1 F t0_1)) rfl ?_
  refine ab_fin.s2 (i := .astore_n 2) (k := 1) (pc' := 8) (lv' := [(2, .ref 10), (0, .ref 67), (1, .int l1)]) (st' := []) (by decide +kernel) rfl rfl ?_
  refine ab_fin.s2 (i := .aload_n 0) (k := 1) (pc' := 9) (lv' := [(2, .ref 10), (0, .ref 67), (1, .int l1)]) (st' := [.ref 67]) (by decide +kernel) rfl rfl ?_
  refine ab_fin.q_rA (b := 1) (ix := 33) (ci := 11) (k := 0) (pc' := 12) (by decide +kernel) rfl (c_rA (F.s t0_67) rfl (rC_11_0 F t0_67)) rfl ?_
  refine ab_fin.s2 (i := .iload_n 1) (k := 1) (pc' := 13) (lv' := [(2, .ref 10), (0, .ref 67), (1, .int l1)]) (st' := [.int l1, .ref 1]) (by decide +kernel) rfl rfl ?_
  refine ab_fin.s2 (i := .aload_n 0) (k := 1) (pc' := 14) (lv' := [(2, .ref 10), (0, .ref 67), (1, .int l1)]) (st' := [.ref 67, .int l1, .ref 1]) (by decide +kernel) rfl rfl ?_
  refine ab_fin.q_rA (b := 71) (ix := 21) (ci := 11) (k := 6) (pc' := 17) (by decide +kernel) rfl (c_rA (F.s t0_67) rfl (rC_11_6 F t0_67)) rfl ?_
  refine ab_fin.s2 (i := .aload_n 0) (k := 1) (pc' := 18) (lv' := [(2, .ref 10), (0, .ref 67), (1, .int l1)]) (st' := [.ref 67, .ref 71, .int l1, .ref 1]) (by decide +kernel) rfl rfl ?_
  refine ab_fin.q_rA (b := 72) (ix := 24) (ci := 11) (k := 7) (pc' := 21) (by decide +kernel) rfl (c_rA (F.s t0_67) rfl (rC_11_7 F t0_67)) rfl ?_
  refine ab_fin.q_yI (i := .invokevirtual 84) (k := 3) (y := 2828) (As := [.ref 1, .int l1, .ref 71, .ref 72]) (rest := []) (M' := (mX11_listFor, [])) (lv2 := [(0, .ref 1), (1, .int l1), (2, .ref 71), (3, .ref 72)]) (pc' := 24) (X := K) (by decide +kernel) (ab_cv rfl rfl (conc_get (σ := σ) (F.s t0_1)) ⟨(Nat.le_of_ble_eq_true rfl), (Nat.le_of_ble_eq_true rfl)⟩ rfl) rfl (Nat.le_of_ble_eq_true rfl) rfl rfl (hY_no fun E => rfl) w (fun v3 τ1 F2 w => ?_)
  refine ab_fin.s2 (i := .istore_n 3) (k := 1) (pc' := 25) (lv' := [(3, .int v3), (2, .ref 10), (0, .ref 67), (1, .int l1)]) (st' := []) (by decide +kernel) rfl rfl ?_
  refine ab_fin.s1i (i := .iconst 0) (k := 1) (pc' := 26) (n := 0) (by decide +kernel) rfl (by decide +kernel) rfl ?_
  refine ab_fin.s2 (i := .istore 4) (k := 2) (pc' := 28) (lv' := [(4, .int 0), (3, .int v3), (2, .ref 10), (0, .ref 67), (1, .int l1)]) (st' := []) (by decide +kernel) rfl rfl ?_
  refine ab_fin.s2 (i := .aload_n 0) (k := 1) (pc' := 29) (lv' := [(4, .int 0), (3, .int v3), (2, .ref 10), (0, .ref 67), (1, .int l1)]) (st' := [.ref 67]) (by decide +kernel) rfl rfl ?_
  refine ab_fin.s1i (i := .iconst 0) (k := 1) (pc' := 30) (n := 0) (by decide +kernel) rfl (by decide +kernel) rfl ?_
  refine ab_fin.q_pF (ix := 88) (ci := 11) (k := 9) (h1 := conc (τ1.wi 67 9 (0 : Int32))) (pc' := 33) (by decide +kernel) rfl (c_pI (v := 0) (F2.s t0_67) rfl) rfl rfl rfl ?_
  refine ab_fin.s1i (i := .iconst 0) (k := 1) (pc' := 34) (n := 0) (by decide +kernel) rfl (by decide +kernel) rfl ?_
  refine ab_fin.s2 (i := .istore 5) (k := 2) (pc' := 36) (lv' := [(5, .int 0), (4, .int 0), (3, .int v3), (2, .ref 10), (0, .ref 67), (1, .int l1)]) (st' := []) (by decide +kernel) rfl rfl ?_
  exact ab_fin.lv ⟨(List.forall_mem_cons.mpr ⟨(List.Mem.tail _ (List.Mem.tail _ (List.Mem.tail _ (List.Mem.tail _ (List.Mem.head _))))), (List.forall_mem_cons.mpr ⟨(List.Mem.tail _ (List.Mem.tail _ (List.Mem.tail _ (List.Mem.head _)))), (List.forall_mem_cons.mpr ⟨(List.Mem.tail _ (List.Mem.tail _ (List.Mem.head _))), (List.forall_mem_cons.mpr ⟨(List.Mem.tail _ (List.Mem.head _)), (List.forall_mem_cons.mpr ⟨(List.Mem.head _), (fun _ h => absurd h List.not_mem_nil)⟩)⟩)⟩)⟩)⟩), (show ([5, 4, 3, 2, 0, 1] : List Nat).Nodup from by decide)⟩ w
theorem T_X10_gatherFitting_36 {Z : zT} {d : Nat} {σ : Sg} {l3 : Int32} {l4 : Int32} {l5 : Int32} {K : kS} (F : FX ΦC σ.sh σ.r) (w : (l3 ≤ l5 → K (.inl (some (.int l4))) σ) ∧ (¬ l3 ≤ l5 → ib l5 120 ∧ (ib (σ.i 72 l5.toNatClampNeg) 122 ∧ ((¬ (σ.i 12 ((σ.i 72 l5.toNatClampNeg).toNatClampNeg)) = 0 → C_X10_gatherFitting_36 Z (d + 1) σ l3 l4 (l5 + 1) K) ∧ ((σ.i 12 ((σ.i 72 l5.toNatClampNeg).toNatClampNeg)) = 0 → ib (σ.i 72 l5.toNatClampNeg) 122 ∧ ((0 ≤ (σ.i 13 ((σ.i 72 l5.toNatClampNeg).toNatClampNeg)) → C_X10_gatherFitting_36 Z (d + 1) σ l3 l4 (l5 + 1) K) ∧ (¬ 0 ≤ (σ.i 13 ((σ.i 72 l5.toNatClampNeg).toNatClampNeg)) → ib (σ.i 67 9) 120 ∧ (C_X5_asked_0 Z d ((σ.wi 72 ((σ.i 67 9).toNatClampNeg) (σ.i 72 l5.toNatClampNeg)).wi 67 9 ((σ.i 67 9) + (1 : Int32))) (σ.i 72 l5.toNatClampNeg) (yI K fun v7 τ5 => C_X10_gatherFitting_36 Z (d + 1) τ5 l3 (l4 + v7) (l5 + 1) K))))))))) : C_X10_gatherFitting_36 Z (d + 1) σ l3 l4 l5 K := by
  unfold C_X10_gatherFitting_36
  refine ab_fin.s2 (i := .iload 5) (k := 2) (pc' := 38) (lv' := [(0, .ref 67), (2, .ref 10), (3, .int l3), (4, .int l4), (5, .int l5)]) (st' := [.int l5]) (by decide +kernel) rfl rfl ?_
  refine ab_fin.s2 (i := .iload_n 3) (k := 1) (pc' := 39) (lv' := [(0, .ref 67), (2, .ref 10), (3, .int l3), (4, .int l4), (5, .int l5)]) (st' := [.int l3, .int l5]) (by decide +kernel) rfl rfl ?_
  refine ab_fin.br (c := l3 ≤ l5) (i := .if_icmp .ge 70) (off := 70) (t := 109) (pc' := 42) (r := []) (by decide +kernel) rfl (by decide +kernel) rfl (fun q => ?_) (fun q => ?_)
  · replace w := w.1 q
    refine ab_fin.s2 (i := .iload 4) (k := 2) (pc' := 111) (lv' := [(0, .ref 67), (2, .ref 10), (3, .int l3), (4, .int l4), (5, .int l5)]) (st' := [.int l4]) (by decide +kernel) rfl rfl ?_
    exact ab_fin.q_ret (i := .ireturn) (k := 1) (v := some (.int l4)) (by decide +kernel) rfl F w
  · replace w := w.2 q
    refine ab_fin.s2 (i := .aload_n 0) (k := 1) (pc' := 43) (lv' := [(0, .ref 67), (2, .ref 10), (3, .int l3), (4, .int l4), (5, .int l5)]) (st' := [.ref 67]) (by decide +kernel) rfl rfl ?_
    refine ab_fin.q_rA (b := 72) (ix := 24) (ci := 11) (k := 7) (pc' := 46) (by decide +kernel) rfl (c_rA (F.s t0_67) rfl (rC_11_7 F t0_67)) rfl ?_
    refine ab_fin.s2 (i := .iload 5) (k := 2) (pc' := 48) (lv' := [(0, .ref 67), (2, .ref 10), (3, .int l3), (4, .int l4), (5, .int l5)]) (st' := [.int l5, .ref 72]) (by decide +kernel) rfl rfl ?_
    obtain ⟨e1, w⟩ := w
    refine ab_fin.q_eI (x := (σ.i 72 l5.toNatClampNeg)) (pc' := 49) (by decide +kernel) (c_eI' (F.s t0_72) e1 rfl) rfl ?_
    refine ab_fin.s2 (i := .istore 6) (k := 2) (pc' := 51) (lv' := [(6, .int (σ.i 72 l5.toNatClampNeg)), (0, .ref 67), (2, .ref 10), (3, .int l3), (4, .int l4), (5, .int l5)]) (st' := []) (by decide +kernel) rfl rfl ?_
    refine ab_fin.s2 (i := .aload_n 2) (k := 1) (pc' := 52) (lv' := [(6, .int (σ.i 72 l5.toNatClampNeg)), (0, .ref 67), (2, .ref 10), (3, .int l3), (4, .int l4), (5, .int l5)]) (st' := [.ref 10]) (by decide +kernel) rfl rfl ?_
    refine ab_fin.q_rA (b := 12) (ix := 91) (ci := 6) (k := 2) (pc' := 55) (by decide +kernel) rfl (c_rA (F.s t0_10) rfl (rC_6_2 F t0_10)) rfl ?_
    refine ab_fin.s2 (i := .iload 6) (k := 2) (pc' := 57) (lv' := [(6, .int (σ.i 72 l5.toNatClampNeg)), (0, .ref 67), (2, .ref 10), (3, .int l3), (4, .int l4), (5, .int l5)]) (st' := [.int (σ.i 72 l5.toNatClampNeg), .ref 12]) (by decide +kernel) rfl rfl ?_
    obtain ⟨e2, w⟩ := w
    refine ab_fin.q_eI (x := (σ.i 12 ((σ.i 72 l5.toNatClampNeg).toNatClampNeg))) (pc' := 58) (by decide +kernel) (c_eI' (F.s t0_12) e2 rfl) rfl ?_
    refine ab_fin.br (c := ¬ (σ.i 12 ((σ.i 72 l5.toNatClampNeg).toNatClampNeg)) = 0) (i := .ifCond .ne 45) (off := 45) (t := 103) (pc' := 61) (r := []) (by decide +kernel) rfl (by decide +kernel) rfl (fun q => ?_) (fun q => ?_)
    · replace w := w.1 q
      refine ab_fin.q_inc (n := 5) (c := 1) (pc' := 106) (lv' := [(5, .int (l5 + 1)), (6, .int (σ.i 72 l5.toNatClampNeg)), (0, .ref 67), (2, .ref 10), (3, .int l3), (4, .int l4)]) (by decide +kernel) (by decide) rfl rfl rfl rfl ?_
      refine ab_fin.s3 (i := .goto (-70)) (k := 3) (t := 36) (st' := []) (by decide +kernel) (ab_gto (by decide +kernel)) ?_
      exact ab_fin.lv ⟨(List.forall_mem_cons.mpr ⟨(List.Mem.tail _ (List.Mem.tail _ (List.Mem.head _))), (List.forall_mem_cons.mpr ⟨(List.Mem.tail _ (List.Mem.tail _ (List.Mem.tail _ (List.Mem.head _)))), (List.forall_mem_cons.mpr ⟨(List.Mem.tail _ (List.Mem.tail _ (List.Mem.tail _ (List.Mem.tail _ (List.Mem.head _))))), (List.forall_mem_cons.mpr ⟨(List.Mem.tail _ (List.Mem.tail _ (List.Mem.tail _ (List.Mem.tail _ (List.Mem.tail _ (List.Mem.head _)))))), (List.forall_mem_cons.mpr ⟨(List.Mem.head _), (fun _ h => absurd h List.not_mem_nil)⟩)⟩)⟩)⟩)⟩), (show ([5, 6, 0, 2, 3, 4] : List Nat).Nodup from by decide)⟩ w
    · replace w := w.2 (Decidable.of_not_not q)
      refine ab_fin.s2 (i := .aload_n 2) (k := 1) (pc' := 62) (lv' := [(6, .int (σ.i 72 l5.toNatClampNeg)), (0, .ref 67), (2, .ref 10), (3, .int l3), (4, .int l4), (5, .int l5)]) (st' := [.ref 10]) (by decide +kernel) rfl rfl ?_
      refine ab_fin.q_rA (b := 13) (ix := 96) (ci := 6) (k := 3) (pc' := 65) (by decide +kernel) rfl (c_rA (F.s t0_10) rfl (rC_6_3 F t0_10)) rfl ?_
      refine ab_fin.s2 (i := .iload 6) (k := 2) (pc' := 67) (lv' := [(6, .int (σ.i 72 l5.toNatClampNeg)), (0, .ref 67), (2, .ref 10), (3, .int l3), (4, .int l4), (5, .int l5)]) (st' := [.int (σ.i 72 l5.toNatClampNeg), .ref 13]) (by decide +kernel) rfl rfl ?_
      obtain ⟨e3, w⟩ := w
      refine ab_fin.q_eI (x := (σ.i 13 ((σ.i 72 l5.toNatClampNeg).toNatClampNeg))) (pc' := 68) (by decide +kernel) (c_eI' (F.s t0_13) e3 rfl) rfl ?_
      refine ab_fin.br (c := 0 ≤ (σ.i 13 ((σ.i 72 l5.toNatClampNeg).toNatClampNeg))) (i := .ifCond .ge 35) (off := 35) (t := 103) (pc' := 71) (r := []) (by decide +kernel) rfl (by decide +kernel) rfl (fun q => ?_) (fun q => ?_)
      · replace w := w.1 q
        refine ab_fin.q_inc (n := 5) (c := 1) (pc' := 106) (lv' := [(5, .int (l5 + 1)), (6, .int (σ.i 72 l5.toNatClampNeg)), (0, .ref 67), (2, .ref 10), (3, .int l3), (4, .int l4)]) (by decide +kernel) (by decide) rfl rfl rfl rfl ?_
        refine ab_fin.s3 (i := .goto (-70)) (k := 3) (t := 36) (st' := []) (by decide +kernel) (ab_gto (by decide +kernel)) ?_
        exact ab_fin.lv ⟨(List.forall_mem_cons.mpr ⟨(List.Mem.tail _ (List.Mem.tail _ (List.Mem.head _))), (List.forall_mem_cons.mpr ⟨(List.Mem.tail _ (List.Mem.tail _ (List.Mem.tail _ (List.Mem.head _)))), (List.forall_mem_cons.mpr ⟨(List.Mem.tail _ (List.Mem.tail _ (List.Mem.tail _ (List.Mem.tail _ (List.Mem.head _))))), (List.forall_mem_cons.mpr ⟨(List.Mem.tail _ (List.Mem.tail _ (List.Mem.tail _ (List.Mem.tail _ (List.Mem.tail _ (List.Mem.head _)))))), (List.forall_mem_cons.mpr ⟨(List.Mem.head _), (fun _ h => absurd h List.not_mem_nil)⟩)⟩)⟩)⟩)⟩), (show ([5, 6, 0, 2, 3, 4] : List Nat).Nodup from by decide)⟩ w
      · replace w := w.2 q
        refine ab_fin.s2 (i := .aload_n 0) (k := 1) (pc' := 72) (lv' := [(6, .int (σ.i 72 l5.toNatClampNeg)), (0, .ref 67), (2, .ref 10), (3, .int l3), (4, .int l4), (5, .int l5)]) (st' := [.ref 67]) (by decide +kernel) rfl rfl ?_
        refine ab_fin.q_rA (b := 72) (ix := 24) (ci := 11) (k := 7) (pc' := 75) (by decide +kernel) rfl (c_rA (F.s t0_67) rfl (rC_11_7 F t0_67)) rfl ?_
        refine ab_fin.s2 (i := .aload_n 0) (k := 1) (pc' := 76) (lv' := [(6, .int (σ.i 72 l5.toNatClampNeg)), (0, .ref 67), (2, .ref 10), (3, .int l3), (4, .int l4), (5, .int l5)]) (st' := [.ref 67, .ref 72]) (by decide +kernel) rfl rfl ?_
        refine ab_fin.q_rI (x := (σ.i 67 9)) (ix := 88) (ci := 11) (k := 9) (pc' := 79) (by decide +kernel) rfl (c_rI (F.s t0_67) rfl) rfl ?_
        refine ab_fin.s2 (i := .iload 6) (k := 2) (pc' := 81) (lv' := [(6, .int (σ.i 72 l5.toNatClampNeg)), (0, .ref 67), (2, .ref 10), (3, .int l3), (4, .int l4), (5, .int l5)]) (st' := [.int (σ.i 72 l5.toNatClampNeg), .int (σ.i 67 9), .ref 72]) (by decide +kernel) rfl rfl ?_
        obtain ⟨e4, w⟩ := w
        refine ab_fin.q_sI (h1 := conc (σ.wi 72 ((σ.i 67 9).toNatClampNeg) (σ.i 72 l5.toNatClampNeg))) (pc' := 82) (by decide +kernel) (c_sI' (F.s t0_72) e4 rfl) rfl ?_
        refine ab_fin.s2 (i := .aload_n 0) (k := 1) (pc' := 83) (lv' := [(6, .int (σ.i 72 l5.toNatClampNeg)), (0, .ref 67), (2, .ref 10), (3, .int l3), (4, .int l4), (5, .int l5)]) (st' := [.ref 67]) (by decide +kernel) rfl rfl ?_
        refine ab_fin.s1 (i := .dup) (k := 1) (pc' := 84) (st' := [.ref 67, .ref 67]) (by decide +kernel) rfl rfl ?_
        refine ab_fin.q_rI (x := (σ.i 67 9)) (ix := 88) (ci := 11) (k := 9) (pc' := 87) (by decide +kernel) rfl (c_rI (F.s t0_67) rfl) rfl ?_
        refine ab_fin.s1i (i := .iconst 1) (k := 1) (pc' := 88) (n := 1) (by decide +kernel) rfl (by decide +kernel) rfl ?_
        refine ab_fin.s1 (i := .iadd) (k := 1) (pc' := 89) (st' := [.int ((σ.i 67 9) + (1 : Int32)), .ref 67]) (by decide +kernel) rfl rfl ?_
        refine ab_fin.q_pF (ix := 88) (ci := 11) (k := 9) (h1 := conc ((σ.wi 72 ((σ.i 67 9).toNatClampNeg) (σ.i 72 l5.toNatClampNeg)).wi 67 9 ((σ.i 67 9) + (1 : Int32)))) (pc' := 92) (by decide +kernel) rfl (c_pI (v := ((σ.i 67 9) + (1 : Int32))) (F.s t0_67) rfl) rfl rfl rfl ?_
        refine ab_fin.s2 (i := .iload 4) (k := 2) (pc' := 94) (lv' := [(6, .int (σ.i 72 l5.toNatClampNeg)), (0, .ref 67), (2, .ref 10), (3, .int l3), (4, .int l4), (5, .int l5)]) (st' := [.int l4]) (by decide +kernel) rfl rfl ?_
        refine ab_fin.s2 (i := .aload_n 2) (k := 1) (pc' := 95) (lv' := [(6, .int (σ.i 72 l5.toNatClampNeg)), (0, .ref 67), (2, .ref 10), (3, .int l3), (4, .int l4), (5, .int l5)]) (st' := [.ref 10, .int l4]) (by decide +kernel) rfl rfl ?_
        refine ab_fin.s2 (i := .iload 6) (k := 2) (pc' := 97) (lv' := [(6, .int (σ.i 72 l5.toNatClampNeg)), (0, .ref 67), (2, .ref 10), (3, .int l3), (4, .int l4), (5, .int l5)]) (st' := [.int (σ.i 72 l5.toNatClampNeg), .ref 10, .int l4]) (by decide +kernel) rfl rfl ?_
        refine ab_fin.q_yI (i := .invokevirtual 99) (k := 3) (y := 1284) (As := [.ref 10, .int (σ.i 72 l5.toNatClampNeg)]) (rest := [.int l4]) (M' := (mX5_asked, [])) (lv2 := [(0, .ref 10), (1, .int (σ.i 72 l5.toNatClampNeg))]) (pc' := 100) (X := K) (by decide +kernel) (ab_cv rfl rfl (conc_get (σ := ((σ.wi 72 ((σ.i 67 9).toNatClampNeg) (σ.i 72 l5.toNatClampNeg)).wi 67 9 ((σ.i 67 9) + (1 : Int32)))) (F.s t0_10)) ⟨(Nat.le_of_ble_eq_true rfl), (Nat.le_of_ble_eq_true rfl)⟩ rfl) rfl (Nat.le_of_ble_eq_true rfl) rfl rfl (hY_no fun E => rfl) w (fun v7 τ5 F6 w => ?_)
        refine ab_fin.s1 (i := .iadd) (k := 1) (pc' := 101) (st' := [.int (l4 + v7)]) (by decide +kernel) rfl rfl ?_
        refine ab_fin.s2 (i := .istore 4) (k := 2) (pc' := 103) (lv' := [(4, .int (l4 + v7)), (6, .int (σ.i 72 l5.toNatClampNeg)), (0, .ref 67), (2, .ref 10), (3, .int l3), (5, .int l5)]) (st' := []) (by decide +kernel) rfl rfl ?_
        refine ab_fin.q_inc (n := 5) (c := 1) (pc' := 106) (lv' := [(5, .int (l5 + 1)), (4, .int (l4 + v7)), (6, .int (σ.i 72 l5.toNatClampNeg)), (0, .ref 67), (2, .ref 10), (3, .int l3)]) (by decide +kernel) (by decide) rfl rfl rfl rfl ?_
        refine ab_fin.s3 (i := .goto (-70)) (k := 3) (t := 36) (st' := []) (by decide +kernel) (ab_gto (by decide +kernel)) ?_
        exact ab_fin.lv ⟨(List.forall_mem_cons.mpr ⟨(List.Mem.tail _ (List.Mem.tail _ (List.Mem.tail _ (List.Mem.head _)))), (List.forall_mem_cons.mpr ⟨(List.Mem.tail _ (List.Mem.tail _ (List.Mem.tail _ (List.Mem.tail _ (List.Mem.head _))))), (List.forall_mem_cons.mpr ⟨(List.Mem.tail _ (List.Mem.tail _ (List.Mem.tail _ (List.Mem.tail _ (List.Mem.tail _ (List.Mem.head _)))))), (List.forall_mem_cons.mpr ⟨(List.Mem.tail _ (List.Mem.head _)), (List.forall_mem_cons.mpr ⟨(List.Mem.head _), (fun _ h => absurd h List.not_mem_nil)⟩)⟩)⟩)⟩)⟩), (show ([5, 4, 6, 0, 2, 3] : List Nat).Nodup from by decide)⟩ w
theorem T_X10_judgeRow_0 {Z : zT} {d : Nat} {σ : Sg} {l1 : Int32} {K : kS} (F : FX ΦC σ.sh σ.r) (w : C_X9_empty_0 Z d σ 75 (yN K fun τ1 => C_X10_judgeRow_9 Z (d + 1) τ1 l1 0 K)) : C_X10_judgeRow_0 Z (d + 1) σ l1 K := by
  unfold C_X10_judgeRow_0
  refine ab_fin.s2 (i := .aload_n 0) (k := 1) (pc' := 1) (lv' := [(0, .ref 67), (1, .int l1)]) (st' := [.ref 67]) (by decide +kernel) rfl rfl ?_
  refine ab_fin.q_rA (b := 75) (ix := 46) (ci := 11) (k := 2) (pc' := 4) (by decide +kernel) rfl (c_rA (F.s t0_67) rfl (rC_11_2 F t0_67)) rfl ?_
  refine ab_fin.q_yN (i := .invokevirtual 102) (k := 3) (y := 2305) (As := [.ref 75]) (rest := []) (M' := (mX9_empty, [])) (lv2 := [(0, .ref 75)]) (pc' := 7) (X := K) (by decide +kernel) (ab_cv rfl rfl (conc_get (σ := σ) (F.s t0_75)) ⟨(Nat.le_of_ble_eq_true rfl), (Nat.le_of_ble_eq_true rfl)⟩ rfl) rfl (Nat.le_of_ble_eq_true rfl) rfl rfl (hY_no fun E => rfl) w (fun τ1 F2 w => ?_)
  refine ab_fin.s1i (i := .iconst 0) (k := 1) (pc' := 8) (n := 0) (by decide +kernel) rfl (by decide +kernel) rfl ?_
  refine ab_fin.s2 (i := .istore_n 2) (k := 1) (pc' := 9) (lv' := [(2, .int 0), (0, .ref 67), (1, .int l1)]) (st' := []) (by decide +kernel) rfl rfl ?_
  exact ab_fin.lv ⟨(List.forall_mem_cons.mpr ⟨(List.Mem.tail _ (List.Mem.head _)), (List.forall_mem_cons.mpr ⟨(List.Mem.tail _ (List.Mem.tail _ (List.Mem.head _))), (List.forall_mem_cons.mpr ⟨(List.Mem.head _), (fun _ h => absurd h List.not_mem_nil)⟩)⟩)⟩), (show ([2, 0, 1] : List Nat).Nodup from by decide)⟩ w
theorem T_X10_judgeRow_9 {Z : zT} {d : Nat} {σ : Sg} {l1 : Int32} {l2 : Int32} {K : kS} (F : FX ΦC σ.sh σ.r) (w : ((σ.i 67 9) ≤ l2 → C_X9_begin_0 Z d σ 75 (yN K fun τ1 => C_X10_judgeRow_57 Z (d + 1) τ1 l1 0 0 K)) ∧ (¬ (σ.i 67 9) ≤ l2 → ib l2 120 ∧ (C_X9_cutBy_0 Z d σ 75 (σ.i 72 l2.toNatClampNeg) 71 (yI K fun v6 τ4 => ib l2 120 ∧ (C_X10_judgeRow_9 Z (d + 1) (τ4.wi 73 l2.toNatClampNeg v6) l1 (l2 + 1) K))))) : C_X10_judgeRow_9 Z (d + 1) σ l1 l2 K := by
  unfold C_X10_judgeRow_9
  refine ab_fin.s2 (i := .iload_n 2) (k := 1) (pc' := 10) (lv' := [(0, .ref 67), (1, .int l1), (2, .int l2)]) (st' := [.int l2]) (by decide +kernel) rfl rfl ?_
  refine ab_fin.s2 (i := .aload_n 0) (k := 1) (pc' := 11) (lv' := [(0, .ref 67), (1, .int l1), (2, .int l2)]) (st' := [.ref 67, .int l2]) (by decide +kernel) rfl rfl ?_
  refine ab_fin.q_rI (x := (σ.i 67 9)) (ix := 88) (ci := 11) (k := 9) (pc' := 14) (by decide +kernel) rfl (c_rI (F.s t0_67) rfl) rfl ?_
  refine ab_fin.br (c := (σ.i 67 9) ≤ l2) (i := .if_icmp .ge 32) (off := 32) (t := 46) (pc' := 17) (r := []) (by decide +kernel) rfl (by decide +kernel) rfl (fun q => ?_) (fun q => ?_)
  · replace w := w.1 q
    refine ab_fin.s1i (i := .iconst 0) (k := 1) (pc' := 47) (n := 0) (by decide +kernel) rfl (by decide +kernel) rfl ?_
    refine ab_fin.s2 (i := .istore_n 2) (k := 1) (pc' := 48) (lv' := [(2, .int 0), (0, .ref 67), (1, .int l1)]) (st' := []) (by decide +kernel) rfl rfl ?_
    refine ab_fin.s2 (i := .aload_n 0) (k := 1) (pc' := 49) (lv' := [(2, .int 0), (0, .ref 67), (1, .int l1)]) (st' := [.ref 67]) (by decide +kernel) rfl rfl ?_
    refine ab_fin.q_rA (b := 75) (ix := 46) (ci := 11) (k := 2) (pc' := 52) (by decide +kernel) rfl (c_rA (F.s t0_67) rfl (rC_11_2 F t0_67)) rfl ?_
    refine ab_fin.q_yN (i := .invokevirtual 109) (k := 3) (y := 2308) (As := [.ref 75]) (rest := []) (M' := (mX9_begin, [])) (lv2 := [(0, .ref 75)]) (pc' := 55) (X := K) (by decide +kernel) (ab_cv rfl rfl (conc_get (σ := σ) (F.s t0_75)) ⟨(Nat.le_of_ble_eq_true rfl), (Nat.le_of_ble_eq_true rfl)⟩ rfl) rfl (Nat.le_of_ble_eq_true rfl) rfl rfl (hY_no fun E => rfl) w (fun τ1 F2 w => ?_)
    refine ab_fin.s1i (i := .iconst 0) (k := 1) (pc' := 56) (n := 0) (by decide +kernel) rfl (by decide +kernel) rfl ?_
    refine ab_fin.s2 (i := .istore_n 3) (k := 1) (pc' := 57) (lv' := [(3, .int 0), (2, .int 0), (0, .ref 67), (1, .int l1)]) (st' := []) (by decide +kernel) rfl rfl ?_
    exact ab_fin.lv ⟨(List.forall_mem_cons.mpr ⟨(List.Mem.tail _ (List.Mem.tail _ (List.Mem.head _))), (List.forall_mem_cons.mpr ⟨(List.Mem.tail _ (List.Mem.tail _ (List.Mem.tail _ (List.Mem.head _)))), (List.forall_mem_cons.mpr ⟨(List.Mem.tail _ (List.Mem.head _)), (List.forall_mem_cons.mpr ⟨(List.Mem.head _), (fun _ h => absurd h List.not_mem_nil)⟩)⟩)⟩)⟩), (show ([3, 2, 0, 1] : List Nat).Nodup from by decide)⟩ w
  · replace w := w.2 q
    refine ab_fin.s2 (i := .aload_n 0) (k := 1) (pc' := 18) (lv' := [(0, .ref 67), (1, .int l1), (2, .int l2)]) (st' := [.ref 67]) (by decide +kernel) rfl rfl ?_
    refine ab_fin.q_rA (b := 73) (ix := 27) (ci := 11) (k := 8) (pc' := 21) (by decide +kernel) rfl (c_rA (F.s t0_67) rfl (rC_11_8 F t0_67)) rfl ?_
    refine ab_fin.s2 (i := .iload_n 2) (k := 1) (pc' := 22) (lv' := [(0, .ref 67), (1, .int l1), (2, .int l2)]) (st' := [.int l2, .ref 73]) (by decide +kernel) rfl rfl ?_
    refine ab_fin.s2 (i := .aload_n 0) (k := 1) (pc' := 23) (lv' := [(0, .ref 67), (1, .int l1), (2, .int l2)]) (st' := [.ref 67, .int l2, .ref 73]) (by decide +kernel) rfl rfl ?_
    refine ab_fin.q_rA (b := 75) (ix := 46) (ci := 11) (k := 2) (pc' := 26) (by decide +kernel) rfl (c_rA (F.s t0_67) rfl (rC_11_2 F t0_67)) rfl ?_
    refine ab_fin.s2 (i := .aload_n 0) (k := 1) (pc' := 27) (lv' := [(0, .ref 67), (1, .int l1), (2, .int l2)]) (st' := [.ref 67, .ref 75, .int l2, .ref 73]) (by decide +kernel) rfl rfl ?_
    refine ab_fin.q_rA (b := 72) (ix := 24) (ci := 11) (k := 7) (pc' := 30) (by decide +kernel) rfl (c_rA (F.s t0_67) rfl (rC_11_7 F t0_67)) rfl ?_
    refine ab_fin.s2 (i := .iload_n 2) (k := 1) (pc' := 31) (lv' := [(0, .ref 67), (1, .int l1), (2, .int l2)]) (st' := [.int l2, .ref 72, .ref 75, .int l2, .ref 73]) (by decide +kernel) rfl rfl ?_
    obtain ⟨e3, w⟩ := w
    refine ab_fin.q_eI (x := (σ.i 72 l2.toNatClampNeg)) (pc' := 32) (by decide +kernel) (c_eI' (F.s t0_72) e3 rfl) rfl ?_
    refine ab_fin.s2 (i := .aload_n 0) (k := 1) (pc' := 33) (lv' := [(0, .ref 67), (1, .int l1), (2, .int l2)]) (st' := [.ref 67, .int (σ.i 72 l2.toNatClampNeg), .ref 75, .int l2, .ref 73]) (by decide +kernel) rfl rfl ?_
    refine ab_fin.q_rA (b := 71) (ix := 21) (ci := 11) (k := 6) (pc' := 36) (by decide +kernel) rfl (c_rA (F.s t0_67) rfl (rC_11_6 F t0_67)) rfl ?_
    refine ab_fin.q_yI (i := .invokevirtual 105) (k := 3) (y := 2306) (As := [.ref 75, .int (σ.i 72 l2.toNatClampNeg), .ref 71]) (rest := [.int l2, .ref 73]) (M' := (mX9_cutBy, [])) (lv2 := [(0, .ref 75), (1, .int (σ.i 72 l2.toNatClampNeg)), (2, .ref 71)]) (pc' := 39) (X := K) (by decide +kernel) (ab_cv rfl rfl (conc_get (σ := σ) (F.s t0_75)) ⟨(Nat.le_of_ble_eq_true rfl), (Nat.le_of_ble_eq_true rfl)⟩ rfl) rfl (Nat.le_of_ble_eq_true rfl) rfl rfl (hY_no fun E => rfl) w (fun v6 τ4 F5 w => ?_)
    obtain ⟨e7, w⟩ := w
    refine ab_fin.q_sI (h1 := conc (τ4.wi 73 l2.toNatClampNeg v6)) (pc' := 40) (by decide +kernel) (c_sI' (F5.s t0_73) e7 rfl) rfl ?_
    refine ab_fin.q_inc (n := 2) (c := 1) (pc' := 43) (lv' := [(2, .int (l2 + 1)), (0, .ref 67), (1, .int l1)]) (by decide +kernel) (by decide) rfl rfl rfl rfl ?_
    refine ab_fin.s3 (i := .goto (-34)) (k := 3) (t := 9) (st' := []) (by decide +kernel) (ab_gto (by decide +kernel)) ?_
    exact ab_fin.lv ⟨(List.forall_mem_cons.mpr ⟨(List.Mem.tail _ (List.Mem.head _)), (List.forall_mem_cons.mpr ⟨(List.Mem.tail _ (List.Mem.tail _ (List.Mem.head _))), (List.forall_mem_cons.mpr ⟨(List.Mem.head _), (fun _ h => absurd h List.not_mem_nil)⟩)⟩)⟩), (show ([2, 0, 1] : List Nat).Nodup from by decide)⟩ w
theorem T_X10_judgeRow_57 {Z : zT} {d : Nat} {σ : Sg} {l1 : Int32} {l2 : Int32} {l3 : Int32} {K : kS} (F : FX ΦC σ.sh σ.r) (w : (1000000 ≤ l3 → K (.inl (some (.int l2))) σ) ∧ (¬ 1000000 ≤ l3 → C_X9_toNextCell_0 Z d σ 75 (yI K fun v3 τ1 => (v3 = 0 → K (.inl (some (.int l2))) τ1) ∧ (¬ v3 = 0 → C_X10_judgeRow_81 Z (d + 1) (τ1.wi 67 11 (0 : Int32)) l1 l2 l3 0 K)))) : C_X10_judgeRow_57 Z (d + 1) σ l1 l2 l3 K := by
  unfold C_X10_judgeRow_57
  refine ab_fin.s2 (i := .iload_n 3) (k := 1) (pc' := 58) (lv' := [(0, .ref 67), (1, .int l1), (2, .int l2), (3, .int l3)]) (st' := [.int l3]) (by decide +kernel) rfl rfl ?_
  refine ab_fin.s7 (i := .ldc 112) (k := 2) (pc' := 60) (st' := [.int 1000000, .int l3]) (by decide +kernel) rfl rfl ?_
  refine ab_fin.br (c := 1000000 ≤ l3) (i := .if_icmp .ge 126) (off := 126) (t := 186) (pc' := 63) (r := []) (by decide +kernel) rfl (by decide +kernel) rfl (fun q => ?_) (fun q => ?_)
  · replace w := w.1 q
    refine ab_fin.s2 (i := .iload_n 2) (k := 1) (pc' := 187) (lv' := [(0, .ref 67), (1, .int l1), (2, .int l2), (3, .int l3)]) (st' := [.int l2]) (by decide +kernel) rfl rfl ?_
    exact ab_fin.q_ret (i := .ireturn) (k := 1) (v := some (.int l2)) (by decide +kernel) rfl F w
  · replace w := w.2 q
    refine ab_fin.s2 (i := .aload_n 0) (k := 1) (pc' := 64) (lv' := [(0, .ref 67), (1, .int l1), (2, .int l2), (3, .int l3)]) (st' := [.ref 67]) (by decide +kernel) rfl rfl ?_
    refine ab_fin.q_rA (b := 75) (ix := 46) (ci := 11) (k := 2) (pc' := 67) (by decide +kernel) rfl (c_rA (F.s t0_67) rfl (rC_11_2 F t0_67)) rfl ?_
    refine ab_fin.q_yI (i := .invokevirtual 113) (k := 3) (y := 2309) (As := [.ref 75]) (rest := []) (M' := (mX9_toNextCell, [])) (lv2 := [(0, .ref 75)]) (pc' := 70) (X := K) (by decide +kernel) (ab_cv rfl rfl (conc_get (σ := σ) (F.s t0_75)) ⟨(Nat.le_of_ble_eq_true rfl), (Nat.le_of_ble_eq_true rfl)⟩ rfl) rfl (Nat.le_of_ble_eq_true rfl) rfl rfl (hY_no fun E => rfl) w (fun v3 τ1 F2 w => ?_)
    refine ab_fin.br (c := v3 = 0) (i := .ifCond .eq 116) (off := 116) (t := 186) (pc' := 73) (r := []) (by decide +kernel) rfl (by decide +kernel) rfl (fun q => ?_) (fun q => ?_)
    · replace w := w.1 q
      refine ab_fin.s2 (i := .iload_n 2) (k := 1) (pc' := 187) (lv' := [(0, .ref 67), (1, .int l1), (2, .int l2), (3, .int l3)]) (st' := [.int l2]) (by decide +kernel) rfl rfl ?_
      exact ab_fin.q_ret (i := .ireturn) (k := 1) (v := some (.int l2)) (by decide +kernel) rfl F2 w
    · replace w := w.2 q
      refine ab_fin.s2 (i := .aload_n 0) (k := 1) (pc' := 74) (lv' := [(0, .ref 67), (1, .int l1), (2, .int l2), (3, .int l3)]) (st' := [.ref 67]) (by decide +kernel) rfl rfl ?_
      refine ab_fin.s1i (i := .iconst 0) (k := 1) (pc' := 75) (n := 0) (by decide +kernel) rfl (by decide +kernel) rfl ?_
      refine ab_fin.q_pF (ix := 117) (ci := 11) (k := 11) (h1 := conc (τ1.wi 67 11 (0 : Int32))) (pc' := 78) (by decide +kernel) rfl (c_pI (v := 0) (F2.s t0_67) rfl) rfl rfl rfl ?_
      refine ab_fin.s1i (i := .iconst 0) (k := 1) (pc' := 79) (n := 0) (by decide +kernel) rfl (by decide +kernel) rfl ?_
      refine ab_fin.s2 (i := .istore 4) (k := 2) (pc' := 81) (lv' := [(4, .int 0), (0, .ref 67), (1, .int l1), (2, .int l2), (3, .int l3)]) (st' := []) (by decide +kernel) rfl rfl ?_
      exact ab_fin.lv ⟨(List.forall_mem_cons.mpr ⟨(List.Mem.tail _ (List.Mem.head _)), (List.forall_mem_cons.mpr ⟨(List.Mem.tail _ (List.Mem.tail _ (List.Mem.head _))), (List.forall_mem_cons.mpr ⟨(List.Mem.tail _ (List.Mem.tail _ (List.Mem.tail _ (List.Mem.head _)))), (List.forall_mem_cons.mpr ⟨(List.Mem.tail _ (List.Mem.tail _ (List.Mem.tail _ (List.Mem.tail _ (List.Mem.head _))))), (List.forall_mem_cons.mpr ⟨(List.Mem.head _), (fun _ h => absurd h List.not_mem_nil)⟩)⟩)⟩)⟩)⟩), (show ([4, 0, 1, 2, 3] : List Nat).Nodup from by decide)⟩ w
theorem T_X10_judgeRow_81 {Z : zT} {d : Nat} {σ : Sg} {l1 : Int32} {l2 : Int32} {l3 : Int32} {l4 : Int32} {K : kS} (F : FX ΦC σ.sh σ.r) (w : ((σ.i 67 9) ≤ l4 → (¬ (σ.i 67 11) = 0 → (¬ l2 = 0 → C_X10_judgeRow_57 Z (d + 1) σ l1 l2 (l3 + 1) K) ∧ (l2 = 0 → ib l1 24 ∧ ((¬ (σ.i 32 l1.toNatClampNeg) = 0 → C_X10_judgeRow_57 Z (d + 1) σ l1 l2 (l3 + 1) K) ∧ ((σ.i 32 l1.toNatClampNeg) = 0 → C_X10_hasNearest_0 Z d σ  (yI K fun v4 τ2 => (¬ v4 = 0 → C_X10_judgeRow_57 Z (d + 1) τ2 l1 l2 (l3 + 1) K) ∧ (v4 = 0 → C_X10_judgeRow_57 Z (d + 1) τ2 l1 2 (l3 + 1) K)))))) ∧ ((σ.i 67 11) = 0 → K (.inl (some (.int 1))) σ)) ∧ (¬ (σ.i 67 9) ≤ l4 → ib l4 120 ∧ (ib l4 120 ∧ (C_X9_isTakenBy_0 Z d σ 75 (σ.i 72 l4.toNatClampNeg) (σ.i 73 l4.toNatClampNeg) (yI K fun v9 τ7 => (v9 = 0 → C_X10_judgeRow_81 Z (d + 1) τ7 l1 l2 l3 (l4 + 1) K) ∧ (¬ v9 = 0 → ib l4 120 ∧ (ib (τ7.i 67 11) 120 ∧ (C_X10_judgeRow_81 Z (d + 1) ((τ7.wi 74 ((τ7.i 67 11).toNatClampNeg) (τ7.i 72 l4.toNatClampNeg)).wi 67 11 ((τ7.i 67 11) + (1 : Int32))) l1 l2 l3 (l4 + 1) K)))))))) : C_X10_judgeRow_81 Z (d + 1) σ l1 l2 l3 l4 K := by
  unfold C_X10_judgeRow_81
  refine ab_fin.s2 (i := .iload 4) (k := 2) (pc' := 83) (lv' := [(0, .ref 67), (1, .int l1), (2, .int l2), (3, .int l3), (4, .int l4)]) (st' := [.int l4]) (by decide +kernel) rfl rfl ?_
  refine ab_fin.s2 (i := .aload_n 0) (k := 1) (pc' := 84) (lv' := [(0, .ref 67), (1, .int l1), (2, .int l2), (3, .int l3), (4, .int l4)]) (st' := [.ref 67, .int l4]) (by decide +kernel) rfl rfl ?_
  refine ab_fin.q_rI (x := (σ.i 67 9)) (ix := 88) (ci := 11) (k := 9) (pc' := 87) (by decide +kernel) rfl (c_rI (F.s t0_67) rfl) rfl ?_
  refine ab_fin.br (c := (σ.i 67 9) ≤ l4) (i := .if_icmp .ge 59) (off := 59) (t := 146) (pc' := 90) (r := []) (by decide +kernel) rfl (by decide +kernel) rfl (fun q => ?_) (fun q => ?_)
  · replace w := w.1 q
    refine ab_fin.s2 (i := .aload_n 0) (k := 1) (pc' := 147) (lv' := [(0, .ref 67), (1, .int l1), (2, .int l2), (3, .int l3), (4, .int l4)]) (st' := [.ref 67]) (by decide +kernel) rfl rfl ?_
    refine ab_fin.q_rI (x := (σ.i 67 11)) (ix := 117) (ci := 11) (k := 11) (pc' := 150) (by decide +kernel) rfl (c_rI (F.s t0_67) rfl) rfl ?_
    refine ab_fin.br (c := ¬ (σ.i 67 11) = 0) (i := .ifCond .ne 5) (off := 5) (t := 155) (pc' := 153) (r := []) (by decide +kernel) rfl (by decide +kernel) rfl (fun q => ?_) (fun q => ?_)
    · replace w := w.1 q
      refine ab_fin.s2 (i := .iload_n 2) (k := 1) (pc' := 156) (lv' := [(0, .ref 67), (1, .int l1), (2, .int l2), (3, .int l3), (4, .int l4)]) (st' := [.int l2]) (by decide +kernel) rfl rfl ?_
      refine ab_fin.br (c := ¬ l2 = 0) (i := .ifCond .ne 24) (off := 24) (t := 180) (pc' := 159) (r := []) (by decide +kernel) rfl (by decide +kernel) rfl (fun q => ?_) (fun q => ?_)
      · replace w := w.1 q
        refine ab_fin.q_inc (n := 3) (c := 1) (pc' := 183) (lv' := [(3, .int (l3 + 1)), (0, .ref 67), (1, .int l1), (2, .int l2), (4, .int l4)]) (by decide +kernel) (by decide) rfl rfl rfl rfl ?_
        refine ab_fin.s3 (i := .goto (-126)) (k := 3) (t := 57) (st' := []) (by decide +kernel) (ab_gto (by decide +kernel)) ?_
        exact ab_fin.lv ⟨(List.forall_mem_cons.mpr ⟨(List.Mem.tail _ (List.Mem.head _)), (List.forall_mem_cons.mpr ⟨(List.Mem.tail _ (List.Mem.tail _ (List.Mem.head _))), (List.forall_mem_cons.mpr ⟨(List.Mem.tail _ (List.Mem.tail _ (List.Mem.tail _ (List.Mem.head _)))), (List.forall_mem_cons.mpr ⟨(List.Mem.head _), (fun _ h => absurd h List.not_mem_nil)⟩)⟩)⟩)⟩), (show ([3, 0, 1, 2, 4] : List Nat).Nodup from by decide)⟩ w
      · replace w := w.2 (Decidable.of_not_not q)
        refine ab_fin.s2 (i := .aload_n 0) (k := 1) (pc' := 160) (lv' := [(0, .ref 67), (1, .int l1), (2, .int l2), (3, .int l3), (4, .int l4)]) (st' := [.ref 67]) (by decide +kernel) rfl rfl ?_
        refine ab_fin.q_rA (b := 1) (ix := 33) (ci := 11) (k := 0) (pc' := 163) (by decide +kernel) rfl (c_rA (F.s t0_67) rfl (rC_11_0 F t0_67)) rfl ?_
        refine ab_fin.q_rA (b := 32) (ix := 124) (ci := 12) (k := 7) (pc' := 166) (by decide +kernel) rfl (c_rA (F.s t0_1) rfl (rC_12_7 F t0_1)) rfl ?_
        refine ab_fin.s2 (i := .iload_n 1) (k := 1) (pc' := 167) (lv' := [(0, .ref 67), (1, .int l1), (2, .int l2), (3, .int l3), (4, .int l4)]) (st' := [.int l1, .ref 32]) (by decide +kernel) rfl rfl ?_
        obtain ⟨e1, w⟩ := w
        refine ab_fin.q_eI (x := (σ.i 32 l1.toNatClampNeg)) (pc' := 168) (by decide +kernel) (c_eI' (F.s t0_32) e1 rfl) rfl ?_
        refine ab_fin.br (c := ¬ (σ.i 32 l1.toNatClampNeg) = 0) (i := .ifCond .ne 12) (off := 12) (t := 180) (pc' := 171) (r := []) (by decide +kernel) rfl (by decide +kernel) rfl (fun q => ?_) (fun q => ?_)
        · replace w := w.1 q
          refine ab_fin.q_inc (n := 3) (c := 1) (pc' := 183) (lv' := [(3, .int (l3 + 1)), (0, .ref 67), (1, .int l1), (2, .int l2), (4, .int l4)]) (by decide +kernel) (by decide) rfl rfl rfl rfl ?_
          refine ab_fin.s3 (i := .goto (-126)) (k := 3) (t := 57) (st' := []) (by decide +kernel) (ab_gto (by decide +kernel)) ?_
          exact ab_fin.lv ⟨(List.forall_mem_cons.mpr ⟨(List.Mem.tail _ (List.Mem.head _)), (List.forall_mem_cons.mpr ⟨(List.Mem.tail _ (List.Mem.tail _ (List.Mem.head _))), (List.forall_mem_cons.mpr ⟨(List.Mem.tail _ (List.Mem.tail _ (List.Mem.tail _ (List.Mem.head _)))), (List.forall_mem_cons.mpr ⟨(List.Mem.head _), (fun _ h => absurd h List.not_mem_nil)⟩)⟩)⟩)⟩), (show ([3, 0, 1, 2, 4] : List Nat).Nodup from by decide)⟩ w
        · replace w := w.2 (Decidable.of_not_not q)
          refine ab_fin.s2 (i := .aload_n 0) (k := 1) (pc' := 172) (lv' := [(0, .ref 67), (1, .int l1), (2, .int l2), (3, .int l3), (4, .int l4)]) (st' := [.ref 67]) (by decide +kernel) rfl rfl ?_
          refine ab_fin.q_yI (i := .invokevirtual 127) (k := 3) (y := 2566) (As := [.ref 67]) (rest := []) (M' := (mX10_hasNearest, [])) (lv2 := [(0, .ref 67)]) (pc' := 175) (X := K) (by decide +kernel) (ab_cv rfl rfl (conc_get (σ := σ) (F.s t0_67)) ⟨(Nat.le_of_ble_eq_true rfl), (Nat.le_of_ble_eq_true rfl)⟩ rfl) rfl (Nat.le_of_ble_eq_true rfl) rfl rfl (hY_no fun E => rfl) w (fun v4 τ2 F3 w => ?_)
          refine ab_fin.br (c := ¬ v4 = 0) (i := .ifCond .ne 5) (off := 5) (t := 180) (pc' := 178) (r := []) (by decide +kernel) rfl (by decide +kernel) rfl (fun q => ?_) (fun q => ?_)
          · replace w := w.1 q
            refine ab_fin.q_inc (n := 3) (c := 1) (pc' := 183) (lv' := [(3, .int (l3 + 1)), (0, .ref 67), (1, .int l1), (2, .int l2), (4, .int l4)]) (by decide +kernel) (by decide) rfl rfl rfl rfl ?_
            refine ab_fin.s3 (i := .goto (-126)) (k := 3) (t := 57) (st' := []) (by decide +kernel) (ab_gto (by decide +kernel)) ?_
            exact ab_fin.lv ⟨(List.forall_mem_cons.mpr ⟨(List.Mem.tail _ (List.Mem.head _)), (List.forall_mem_cons.mpr ⟨(List.Mem.tail _ (List.Mem.tail _ (List.Mem.head _))), (List.forall_mem_cons.mpr ⟨(List.Mem.tail _ (List.Mem.tail _ (List.Mem.tail _ (List.Mem.head _)))), (List.forall_mem_cons.mpr ⟨(List.Mem.head _), (fun _ h => absurd h List.not_mem_nil)⟩)⟩)⟩)⟩), (show ([3, 0, 1, 2, 4] : List Nat).Nodup from by decide)⟩ w
          · replace w := w.2 (Decidable.of_not_not q)
            refine ab_fin.s1i (i := .iconst 2) (k := 1) (pc' := 179) (n := 2) (by decide +kernel) rfl (by decide +kernel) rfl ?_
            refine ab_fin.s2 (i := .istore_n 2) (k := 1) (pc' := 180) (lv' := [(2, .int 2), (0, .ref 67), (1, .int l1), (3, .int l3), (4, .int l4)]) (st' := []) (by decide +kernel) rfl rfl ?_
            refine ab_fin.q_inc (n := 3) (c := 1) (pc' := 183) (lv' := [(3, .int (l3 + 1)), (2, .int 2), (0, .ref 67), (1, .int l1), (4, .int l4)]) (by decide +kernel) (by decide) rfl rfl rfl rfl ?_
            refine ab_fin.s3 (i := .goto (-126)) (k := 3) (t := 57) (st' := []) (by decide +kernel) (ab_gto (by decide +kernel)) ?_
            exact ab_fin.lv ⟨(List.forall_mem_cons.mpr ⟨(List.Mem.tail _ (List.Mem.tail _ (List.Mem.head _))), (List.forall_mem_cons.mpr ⟨(List.Mem.tail _ (List.Mem.tail _ (List.Mem.tail _ (List.Mem.head _)))), (List.forall_mem_cons.mpr ⟨(List.Mem.tail _ (List.Mem.head _)), (List.forall_mem_cons.mpr ⟨(List.Mem.head _), (fun _ h => absurd h List.not_mem_nil)⟩)⟩)⟩)⟩), (show ([3, 2, 0, 1, 4] : List Nat).Nodup from by decide)⟩ w
    · replace w := w.2 (Decidable.of_not_not q)
      refine ab_fin.s1i (i := .iconst 1) (k := 1) (pc' := 154) (n := 1) (by decide +kernel) rfl (by decide +kernel) rfl ?_
      exact ab_fin.q_ret (i := .ireturn) (k := 1) (v := some (.int 1)) (by decide +kernel) rfl F w
  · replace w := w.2 q
    refine ab_fin.s2 (i := .aload_n 0) (k := 1) (pc' := 91) (lv' := [(0, .ref 67), (1, .int l1), (2, .int l2), (3, .int l3), (4, .int l4)]) (st' := [.ref 67]) (by decide +kernel) rfl rfl ?_
    refine ab_fin.q_rA (b := 75) (ix := 46) (ci := 11) (k := 2) (pc' := 94) (by decide +kernel) rfl (c_rA (F.s t0_67) rfl (rC_11_2 F t0_67)) rfl ?_
    refine ab_fin.s2 (i := .aload_n 0) (k := 1) (pc' := 95) (lv' := [(0, .ref 67), (1, .int l1), (2, .int l2), (3, .int l3), (4, .int l4)]) (st' := [.ref 67, .ref 75]) (by decide +kernel) rfl rfl ?_
    refine ab_fin.q_rA (b := 72) (ix := 24) (ci := 11) (k := 7) (pc' := 98) (by decide +kernel) rfl (c_rA (F.s t0_67) rfl (rC_11_7 F t0_67)) rfl ?_
    refine ab_fin.s2 (i := .iload 4) (k := 2) (pc' := 100) (lv' := [(0, .ref 67), (1, .int l1), (2, .int l2), (3, .int l3), (4, .int l4)]) (st' := [.int l4, .ref 72, .ref 75]) (by decide +kernel) rfl rfl ?_
    obtain ⟨e5, w⟩ := w
    refine ab_fin.q_eI (x := (σ.i 72 l4.toNatClampNeg)) (pc' := 101) (by decide +kernel) (c_eI' (F.s t0_72) e5 rfl) rfl ?_
    refine ab_fin.s2 (i := .aload_n 0) (k := 1) (pc' := 102) (lv' := [(0, .ref 67), (1, .int l1), (2, .int l2), (3, .int l3), (4, .int l4)]) (st' := [.ref 67, .int (σ.i 72 l4.toNatClampNeg), .ref 75]) (by decide +kernel) rfl rfl ?_
    refine ab_fin.q_rA (b := 73) (ix := 27) (ci := 11) (k := 8) (pc' := 105) (by decide +kernel) rfl (c_rA (F.s t0_67) rfl (rC_11_8 F t0_67)) rfl ?_
    refine ab_fin.s2 (i := .iload 4) (k := 2) (pc' := 107) (lv' := [(0, .ref 67), (1, .int l1), (2, .int l2), (3, .int l3), (4, .int l4)]) (st' := [.int l4, .ref 73, .int (σ.i 72 l4.toNatClampNeg), .ref 75]) (by decide +kernel) rfl rfl ?_
    obtain ⟨e6, w⟩ := w
    refine ab_fin.q_eI (x := (σ.i 73 l4.toNatClampNeg)) (pc' := 108) (by decide +kernel) (c_eI' (F.s t0_73) e6 rfl) rfl ?_
    refine ab_fin.q_yI (i := .invokevirtual 120) (k := 3) (y := 2311) (As := [.ref 75, .int (σ.i 72 l4.toNatClampNeg), .int (σ.i 73 l4.toNatClampNeg)]) (rest := []) (M' := (mX9_isTakenBy, [])) (lv2 := [(0, .ref 75), (1, .int (σ.i 72 l4.toNatClampNeg)), (2, .int (σ.i 73 l4.toNatClampNeg))]) (pc' := 111) (X := K) (by decide +kernel) (ab_cv rfl rfl (conc_get (σ := σ) (F.s t0_75)) ⟨(Nat.le_of_ble_eq_true rfl), (Nat.le_of_ble_eq_true rfl)⟩ rfl) rfl (Nat.le_of_ble_eq_true rfl) rfl rfl (hY_no fun E => rfl) w (fun v9 τ7 F8 w => ?_)
    refine ab_fin.br (c := v9 = 0) (i := .ifCond .eq 29) (off := 29) (t := 140) (pc' := 114) (r := []) (by decide +kernel) rfl (by decide +kernel) rfl (fun q => ?_) (fun q => ?_)
    · replace w := w.1 q
      refine ab_fin.q_inc (n := 4) (c := 1) (pc' := 143) (lv' := [(4, .int (l4 + 1)), (0, .ref 67), (1, .int l1), (2, .int l2), (3, .int l3)]) (by decide +kernel) (by decide) rfl rfl rfl rfl ?_
      refine ab_fin.s3 (i := .goto (-62)) (k := 3) (t := 81) (st' := []) (by decide +kernel) (ab_gto (by decide +kernel)) ?_
      exact ab_fin.lv ⟨(List.forall_mem_cons.mpr ⟨(List.Mem.tail _ (List.Mem.head _)), (List.forall_mem_cons.mpr ⟨(List.Mem.tail _ (List.Mem.tail _ (List.Mem.head _))), (List.forall_mem_cons.mpr ⟨(List.Mem.tail _ (List.Mem.tail _ (List.Mem.tail _ (List.Mem.head _)))), (List.forall_mem_cons.mpr ⟨(List.Mem.tail _ (List.Mem.tail _ (List.Mem.tail _ (List.Mem.tail _ (List.Mem.head _))))), (List.forall_mem_cons.mpr ⟨(List.Mem.head _), (fun _ h => absurd h List.not_mem_nil)⟩)⟩)⟩)⟩)⟩), (show ([4, 0, 1, 2, 3] : List Nat).Nodup from by decide)⟩ w
    · replace w := w.2 q
      refine ab_fin.s2 (i := .aload_n 0) (k := 1) (pc' := 115) (lv' := [(0, .ref 67), (1, .int l1), (2, .int l2), (3, .int l3), (4, .int l4)]) (st' := [.ref 67]) (by decide +kernel) rfl rfl ?_
      refine ab_fin.q_rA (b := 74) (ix := 30) (ci := 11) (k := 10) (pc' := 118) (by decide +kernel) rfl (c_rA (F8.s t0_67) rfl (rC_11_10 F8 t0_67)) rfl ?_
      refine ab_fin.s2 (i := .aload_n 0) (k := 1) (pc' := 119) (lv' := [(0, .ref 67), (1, .int l1), (2, .int l2), (3, .int l3), (4, .int l4)]) (st' := [.ref 67, .ref 74]) (by decide +kernel) rfl rfl ?_
      refine ab_fin.q_rI (x := (τ7.i 67 11)) (ix := 117) (ci := 11) (k := 11) (pc' := 122) (by decide +kernel) rfl (c_rI (F8.s t0_67) rfl) rfl ?_
      refine ab_fin.s2 (i := .aload_n 0) (k := 1) (pc' := 123) (lv' := [(0, .ref 67), (1, .int l1), (2, .int l2), (3, .int l3), (4, .int l4)]) (st' := [.ref 67, .int (τ7.i 67 11), .ref 74]) (by decide +kernel) rfl rfl ?_
      refine ab_fin.q_rA (b := 72) (ix := 24) (ci := 11) (k := 7) (pc' := 126) (by decide +kernel) rfl (c_rA (F8.s t0_67) rfl (rC_11_7 F8 t0_67)) rfl ?_
      refine ab_fin.s2 (i := .iload 4) (k := 2) (pc' := 128) (lv' := [(0, .ref 67), (1, .int l1), (2, .int l2), (3, .int l3), (4, .int l4)]) (st' := [.int l4, .ref 72, .int (τ7.i 67 11), .ref 74]) (by decide +kernel) rfl rfl ?_
      obtain ⟨e10, w⟩ := w
      refine ab_fin.q_eI (x := (τ7.i 72 l4.toNatClampNeg)) (pc' := 129) (by decide +kernel) (c_eI' (F8.s t0_72) e10 rfl) rfl ?_
      obtain ⟨e11, w⟩ := w
      refine ab_fin.q_sI (h1 := conc (τ7.wi 74 ((τ7.i 67 11).toNatClampNeg) (τ7.i 72 l4.toNatClampNeg))) (pc' := 130) (by decide +kernel) (c_sI' (F8.s t0_74) e11 rfl) rfl ?_
      refine ab_fin.s2 (i := .aload_n 0) (k := 1) (pc' := 131) (lv' := [(0, .ref 67), (1, .int l1), (2, .int l2), (3, .int l3), (4, .int l4)]) (st' := [.ref 67]) (by decide +kernel) rfl rfl ?_
      refine ab_fin.s1 (i := .dup) (k := 1) (pc' := 132) (st' := [.ref 67, .ref 67]) (by decide +kernel) rfl rfl ?_
      refine ab_fin.q_rI (x := (τ7.i 67 11)) (ix := 117) (ci := 11) (k := 11) (pc' := 135) (by decide +kernel) rfl (c_rI (F8.s t0_67) rfl) rfl ?_
      refine ab_fin.s1i (i := .iconst 1) (k := 1) (pc' := 136) (n := 1) (by decide +kernel) rfl (by decide +kernel) rfl ?_
      refine ab_fin.s1 (i := .iadd) (k := 1) (pc' := 137) (st' := [.int ((τ7.i 67 11) + (1 : Int32)), .ref 67]) (by decide +kernel) rfl rfl ?_
      refine ab_fin.q_pF (ix := 117) (ci := 11) (k := 11) (h1 := conc ((τ7.wi 74 ((τ7.i 67 11).toNatClampNeg) (τ7.i 72 l4.toNatClampNeg)).wi 67 11 ((τ7.i 67 11) + (1 : Int32)))) (pc' := 140) (by decide +kernel) rfl (c_pI (v := ((τ7.i 67 11) + (1 : Int32))) (F8.s t0_67) rfl) rfl rfl rfl ?_
      refine ab_fin.q_inc (n := 4) (c := 1) (pc' := 143) (lv' := [(4, .int (l4 + 1)), (0, .ref 67), (1, .int l1), (2, .int l2), (3, .int l3)]) (by decide +kernel) (by decide) rfl rfl rfl rfl ?_
      refine ab_fin.s3 (i := .goto (-62)) (k := 3) (t := 81) (st' := []) (by decide +kernel) (ab_gto (by decide +kernel)) ?_
      exact ab_fin.lv ⟨(List.forall_mem_cons.mpr ⟨(List.Mem.tail _ (List.Mem.head _)), (List.forall_mem_cons.mpr ⟨(List.Mem.tail _ (List.Mem.tail _ (List.Mem.head _))), (List.forall_mem_cons.mpr ⟨(List.Mem.tail _ (List.Mem.tail _ (List.Mem.tail _ (List.Mem.head _)))), (List.forall_mem_cons.mpr ⟨(List.Mem.tail _ (List.Mem.tail _ (List.Mem.tail _ (List.Mem.tail _ (List.Mem.head _))))), (List.forall_mem_cons.mpr ⟨(List.Mem.head _), (fun _ h => absurd h List.not_mem_nil)⟩)⟩)⟩)⟩)⟩), (show ([4, 0, 1, 2, 3] : List Nat).Nodup from by decide)⟩ w
theorem T_X10_hasNearest_0 {Z : zT} {d : Nat} {σ : Sg}  {K : kS} (F : FX ΦC σ.sh σ.r) (w : C_X10_hasNearest_9 Z (d + 1) σ (σ.i 74 0) 1 K) : C_X10_hasNearest_0 Z (d + 1) σ  K := by
  unfold C_X10_hasNearest_0
  refine ab_fin.s2 (i := .aload_n 0) (k := 1) (pc' := 1) (lv' := [(0, .ref 67)]) (st' := [.ref 67]) (by decide +kernel) rfl rfl ?_
  refine ab_fin.q_rA (b := 74) (ix := 30) (ci := 11) (k := 10) (pc' := 4) (by decide +kernel) rfl (c_rA (F.s t0_67) rfl (rC_11_10 F t0_67)) rfl ?_
  refine ab_fin.s1i (i := .iconst 0) (k := 1) (pc' := 5) (n := 0) (by decide +kernel) rfl (by decide +kernel) rfl ?_
  refine ab_fin.q_eI (x := (σ.i 74 0)) (pc' := 6) (by decide +kernel) (c_eI' (F.s t0_74) (show ib (0 : Int32) 120 by decide +kernel) (by decide +kernel)) rfl ?_
  refine ab_fin.s2 (i := .istore_n 1) (k := 1) (pc' := 7) (lv' := [(1, .int (σ.i 74 0)), (0, .ref 67)]) (st' := []) (by decide +kernel) rfl rfl ?_
  refine ab_fin.s1i (i := .iconst 1) (k := 1) (pc' := 8) (n := 1) (by decide +kernel) rfl (by decide +kernel) rfl ?_
  refine ab_fin.s2 (i := .istore_n 2) (k := 1) (pc' := 9) (lv' := [(2, .int 1), (1, .int (σ.i 74 0)), (0, .ref 67)]) (st' := []) (by decide +kernel) rfl rfl ?_
  exact ab_fin.lv ⟨(List.forall_mem_cons.mpr ⟨(List.Mem.tail _ (List.Mem.tail _ (List.Mem.head _))), (List.forall_mem_cons.mpr ⟨(List.Mem.tail _ (List.Mem.head _)), (List.forall_mem_cons.mpr ⟨(List.Mem.head _), (fun _ h => absurd h List.not_mem_nil)⟩)⟩)⟩), (show ([2, 1, 0] : List Nat).Nodup from by decide)⟩ w
theorem T_X10_hasNearest_9 {Z : zT} {d : Nat} {σ : Sg} {l1 : Int32} {l2 : Int32} {K : kS} (F : FX ΦC σ.sh σ.r) (w : ((σ.i 67 11) ≤ l2 → C_X10_hasNearest_53 Z (d + 1) σ l1 0 K) ∧ (¬ (σ.i 67 11) ≤ l2 → ib l2 120 ∧ (C_X6_compare_0 Z d σ (σ.i 74 l2.toNatClampNeg) l1 71 (yI K fun v4 τ2 => (0 ≤ v4 → C_X10_hasNearest_9 Z (d + 1) τ2 l1 (l2 + 1) K) ∧ (¬ 0 ≤ v4 → ib l2 120 ∧ (C_X10_hasNearest_9 Z (d + 1) τ2 (τ2.i 74 l2.toNatClampNeg) (l2 + 1) K)))))) : C_X10_hasNearest_9 Z (d + 1) σ l1 l2 K := by
  unfold C_X10_hasNearest_9
  refine ab_fin.s2 (i := .iload_n 2) (k := 1) (pc' := 10) (lv' := [(0, .ref 67), (1, .int l1), (2, .int l2)]) (st' := [.int l2]) (by decide +kernel) rfl rfl ?_
  refine ab_fin.s2 (i := .aload_n 0) (k := 1) (pc' := 11) (lv' := [(0, .ref 67), (1, .int l1), (2, .int l2)]) (st' := [.ref 67, .int l2]) (by decide +kernel) rfl rfl ?_
  refine ab_fin.q_rI (x := (σ.i 67 11)) (ix := 117) (ci := 11) (k := 11) (pc' := 14) (by decide +kernel) rfl (c_rI (F.s t0_67) rfl) rfl ?_
  refine ab_fin.br (c := (σ.i 67 11) ≤ l2) (i := .if_icmp .ge 37) (off := 37) (t := 51) (pc' := 17) (r := []) (by decide +kernel) rfl (by decide +kernel) rfl (fun q => ?_) (fun q => ?_)
  · replace w := w.1 q
    refine ab_fin.s1i (i := .iconst 0) (k := 1) (pc' := 52) (n := 0) (by decide +kernel) rfl (by decide +kernel) rfl ?_
    refine ab_fin.s2 (i := .istore_n 2) (k := 1) (pc' := 53) (lv' := [(2, .int 0), (0, .ref 67), (1, .int l1)]) (st' := []) (by decide +kernel) rfl rfl ?_
    exact ab_fin.lv ⟨(List.forall_mem_cons.mpr ⟨(List.Mem.tail _ (List.Mem.head _)), (List.forall_mem_cons.mpr ⟨(List.Mem.tail _ (List.Mem.tail _ (List.Mem.head _))), (List.forall_mem_cons.mpr ⟨(List.Mem.head _), (fun _ h => absurd h List.not_mem_nil)⟩)⟩)⟩), (show ([2, 0, 1] : List Nat).Nodup from by decide)⟩ w
  · replace w := w.2 q
    refine ab_fin.s2 (i := .aload_n 0) (k := 1) (pc' := 18) (lv' := [(0, .ref 67), (1, .int l1), (2, .int l2)]) (st' := [.ref 67]) (by decide +kernel) rfl rfl ?_
    refine ab_fin.q_rA (b := 46) (ix := 37) (ci := 11) (k := 1) (pc' := 21) (by decide +kernel) rfl (c_rA (F.s t0_67) rfl (rC_11_1 F t0_67)) rfl ?_
    refine ab_fin.s2 (i := .aload_n 0) (k := 1) (pc' := 22) (lv' := [(0, .ref 67), (1, .int l1), (2, .int l2)]) (st' := [.ref 67, .ref 46]) (by decide +kernel) rfl rfl ?_
    refine ab_fin.q_rA (b := 74) (ix := 30) (ci := 11) (k := 10) (pc' := 25) (by decide +kernel) rfl (c_rA (F.s t0_67) rfl (rC_11_10 F t0_67)) rfl ?_
    refine ab_fin.s2 (i := .iload_n 2) (k := 1) (pc' := 26) (lv' := [(0, .ref 67), (1, .int l1), (2, .int l2)]) (st' := [.int l2, .ref 74, .ref 46]) (by decide +kernel) rfl rfl ?_
    obtain ⟨e1, w⟩ := w
    refine ab_fin.q_eI (x := (σ.i 74 l2.toNatClampNeg)) (pc' := 27) (by decide +kernel) (c_eI' (F.s t0_74) e1 rfl) rfl ?_
    refine ab_fin.s2 (i := .iload_n 1) (k := 1) (pc' := 28) (lv' := [(0, .ref 67), (1, .int l1), (2, .int l2)]) (st' := [.int l1, .int (σ.i 74 l2.toNatClampNeg), .ref 46]) (by decide +kernel) rfl rfl ?_
    refine ab_fin.s2 (i := .aload_n 0) (k := 1) (pc' := 29) (lv' := [(0, .ref 67), (1, .int l1), (2, .int l2)]) (st' := [.ref 67, .int l1, .int (σ.i 74 l2.toNatClampNeg), .ref 46]) (by decide +kernel) rfl rfl ?_
    refine ab_fin.q_rA (b := 71) (ix := 21) (ci := 11) (k := 6) (pc' := 32) (by decide +kernel) rfl (c_rA (F.s t0_67) rfl (rC_11_6 F t0_67)) rfl ?_
    refine ab_fin.q_yI (i := .invokevirtual 130) (k := 3) (y := 1538) (As := [.ref 46, .int (σ.i 74 l2.toNatClampNeg), .int l1, .ref 71]) (rest := []) (M' := (mX6_compare, [])) (lv2 := [(0, .ref 46), (1, .int (σ.i 74 l2.toNatClampNeg)), (2, .int l1), (3, .ref 71)]) (pc' := 35) (X := K) (by decide +kernel) (ab_cv rfl rfl (conc_get (σ := σ) (F.s t0_46)) ⟨(Nat.le_of_ble_eq_true rfl), (Nat.le_of_ble_eq_true rfl)⟩ rfl) rfl (Nat.le_of_ble_eq_true rfl) rfl rfl (hY_no fun E => rfl) w (fun v4 τ2 F3 w => ?_)
    refine ab_fin.br (c := 0 ≤ v4) (i := .ifCond .ge 10) (off := 10) (t := 45) (pc' := 38) (r := []) (by decide +kernel) rfl (by decide +kernel) rfl (fun q => ?_) (fun q => ?_)
    · replace w := w.1 q
      refine ab_fin.q_inc (n := 2) (c := 1) (pc' := 48) (lv' := [(2, .int (l2 + 1)), (0, .ref 67), (1, .int l1)]) (by decide +kernel) (by decide) rfl rfl rfl rfl ?_
      refine ab_fin.s3 (i := .goto (-39)) (k := 3) (t := 9) (st' := []) (by decide +kernel) (ab_gto (by decide +kernel)) ?_
      exact ab_fin.lv ⟨(List.forall_mem_cons.mpr ⟨(List.Mem.tail _ (List.Mem.head _)), (List.forall_mem_cons.mpr ⟨(List.Mem.tail _ (List.Mem.tail _ (List.Mem.head _))), (List.forall_mem_cons.mpr ⟨(List.Mem.head _), (fun _ h => absurd h List.not_mem_nil)⟩)⟩)⟩), (show ([2, 0, 1] : List Nat).Nodup from by decide)⟩ w
    · replace w := w.2 q
      refine ab_fin.s2 (i := .aload_n 0) (k := 1) (pc' := 39) (lv' := [(0, .ref 67), (1, .int l1), (2, .int l2)]) (st' := [.ref 67]) (by decide +kernel) rfl rfl ?_
      refine ab_fin.q_rA (b := 74) (ix := 30) (ci := 11) (k := 10) (pc' := 42) (by decide +kernel) rfl (c_rA (F3.s t0_67) rfl (rC_11_10 F3 t0_67)) rfl ?_
      refine ab_fin.s2 (i := .iload_n 2) (k := 1) (pc' := 43) (lv' := [(0, .ref 67), (1, .int l1), (2, .int l2)]) (st' := [.int l2, .ref 74]) (by decide +kernel) rfl rfl ?_
      obtain ⟨e5, w⟩ := w
      refine ab_fin.q_eI (x := (τ2.i 74 l2.toNatClampNeg)) (pc' := 44) (by decide +kernel) (c_eI' (F3.s t0_74) e5 rfl) rfl ?_
      refine ab_fin.s2 (i := .istore_n 1) (k := 1) (pc' := 45) (lv' := [(1, .int (τ2.i 74 l2.toNatClampNeg)), (0, .ref 67), (2, .int l2)]) (st' := []) (by decide +kernel) rfl rfl ?_
      refine ab_fin.q_inc (n := 2) (c := 1) (pc' := 48) (lv' := [(2, .int (l2 + 1)), (1, .int (τ2.i 74 l2.toNatClampNeg)), (0, .ref 67)]) (by decide +kernel) (by decide) rfl rfl rfl rfl ?_
      refine ab_fin.s3 (i := .goto (-39)) (k := 3) (t := 9) (st' := []) (by decide +kernel) (ab_gto (by decide +kernel)) ?_
      exact ab_fin.lv ⟨(List.forall_mem_cons.mpr ⟨(List.Mem.tail _ (List.Mem.tail _ (List.Mem.head _))), (List.forall_mem_cons.mpr ⟨(List.Mem.tail _ (List.Mem.head _)), (List.forall_mem_cons.mpr ⟨(List.Mem.head _), (fun _ h => absurd h List.not_mem_nil)⟩)⟩)⟩), (show ([2, 1, 0] : List Nat).Nodup from by decide)⟩ w
theorem T_X10_hasNearest_53 {Z : zT} {d : Nat} {σ : Sg} {l1 : Int32} {l2 : Int32} {K : kS} (F : FX ΦC σ.sh σ.r) (w : ((σ.i 67 11) ≤ l2 → K (.inl (some (.int 1))) σ) ∧ (¬ (σ.i 67 11) ≤ l2 → ib l2 120 ∧ (((σ.i 74 l2.toNatClampNeg) = l1 → C_X10_hasNearest_53 Z (d + 1) σ l1 (l2 + 1) K) ∧ (¬ (σ.i 74 l2.toNatClampNeg) = l1 → ib l2 120 ∧ (C_X6_compare_0 Z d σ l1 (σ.i 74 l2.toNatClampNeg) 71 (yI K fun v5 τ3 => (v5 < 0 → C_X10_hasNearest_53 Z (d + 1) τ3 l1 (l2 + 1) K) ∧ (¬ v5 < 0 → K (.inl (some (.int 0))) τ3))))))) : C_X10_hasNearest_53 Z (d + 1) σ l1 l2 K := by
  unfold C_X10_hasNearest_53
  refine ab_fin.s2 (i := .iload_n 2) (k := 1) (pc' := 54) (lv' := [(0, .ref 67), (1, .int l1), (2, .int l2)]) (st' := [.int l2]) (by decide +kernel) rfl rfl ?_
  refine ab_fin.s2 (i := .aload_n 0) (k := 1) (pc' := 55) (lv' := [(0, .ref 67), (1, .int l1), (2, .int l2)]) (st' := [.ref 67, .int l2]) (by decide +kernel) rfl rfl ?_
  refine ab_fin.q_rI (x := (σ.i 67 11)) (ix := 117) (ci := 11) (k := 11) (pc' := 58) (by decide +kernel) rfl (c_rI (F.s t0_67) rfl) rfl ?_
  refine ab_fin.br (c := (σ.i 67 11) ≤ l2) (i := .if_icmp .ge 42) (off := 42) (t := 100) (pc' := 61) (r := []) (by decide +kernel) rfl (by decide +kernel) rfl (fun q => ?_) (fun q => ?_)
  · replace w := w.1 q
    refine ab_fin.s1i (i := .iconst 1) (k := 1) (pc' := 101) (n := 1) (by decide +kernel) rfl (by decide +kernel) rfl ?_
    exact ab_fin.q_ret (i := .ireturn) (k := 1) (v := some (.int 1)) (by decide +kernel) rfl F w
  · replace w := w.2 q
    refine ab_fin.s2 (i := .aload_n 0) (k := 1) (pc' := 62) (lv' := [(0, .ref 67), (1, .int l1), (2, .int l2)]) (st' := [.ref 67]) (by decide +kernel) rfl rfl ?_
    refine ab_fin.q_rA (b := 74) (ix := 30) (ci := 11) (k := 10) (pc' := 65) (by decide +kernel) rfl (c_rA (F.s t0_67) rfl (rC_11_10 F t0_67)) rfl ?_
    refine ab_fin.s2 (i := .iload_n 2) (k := 1) (pc' := 66) (lv' := [(0, .ref 67), (1, .int l1), (2, .int l2)]) (st' := [.int l2, .ref 74]) (by decide +kernel) rfl rfl ?_
    obtain ⟨e1, w⟩ := w
    refine ab_fin.q_eI (x := (σ.i 74 l2.toNatClampNeg)) (pc' := 67) (by decide +kernel) (c_eI' (F.s t0_74) e1 rfl) rfl ?_
    refine ab_fin.s2 (i := .iload_n 1) (k := 1) (pc' := 68) (lv' := [(0, .ref 67), (1, .int l1), (2, .int l2)]) (st' := [.int l1, .int (σ.i 74 l2.toNatClampNeg)]) (by decide +kernel) rfl rfl ?_
    refine ab_fin.br (c := (σ.i 74 l2.toNatClampNeg) = l1) (i := .if_icmp .eq 26) (off := 26) (t := 94) (pc' := 71) (r := []) (by decide +kernel) rfl (by decide +kernel) rfl (fun q => ?_) (fun q => ?_)
    · replace w := w.1 q
      refine ab_fin.q_inc (n := 2) (c := 1) (pc' := 97) (lv' := [(2, .int (l2 + 1)), (0, .ref 67), (1, .int l1)]) (by decide +kernel) (by decide) rfl rfl rfl rfl ?_
      refine ab_fin.s3 (i := .goto (-44)) (k := 3) (t := 53) (st' := []) (by decide +kernel) (ab_gto (by decide +kernel)) ?_
      exact ab_fin.lv ⟨(List.forall_mem_cons.mpr ⟨(List.Mem.tail _ (List.Mem.head _)), (List.forall_mem_cons.mpr ⟨(List.Mem.tail _ (List.Mem.tail _ (List.Mem.head _))), (List.forall_mem_cons.mpr ⟨(List.Mem.head _), (fun _ h => absurd h List.not_mem_nil)⟩)⟩)⟩), (show ([2, 0, 1] : List Nat).Nodup from by decide)⟩ w
    · replace w := w.2 q
      refine ab_fin.s2 (i := .aload_n 0) (k := 1) (pc' := 72) (lv' := [(0, .ref 67), (1, .int l1), (2, .int l2)]) (st' := [.ref 67]) (by decide +kernel) rfl rfl ?_
      refine ab_fin.q_rA (b := 46) (ix := 37) (ci := 11) (k := 1) (pc' := 75) (by decide +kernel) rfl (c_rA (F.s t0_67) rfl (rC_11_1 F t0_67)) rfl ?_
      refine ab_fin.s2 (i := .iload_n 1) (k := 1) (pc' := 76) (lv' := [(0, .ref 67), (1, .int l1), (2, .int l2)]) (st' := [.int l1, .ref 46]) (by decide +kernel) rfl rfl ?_
      refine ab_fin.s2 (i := .aload_n 0) (k := 1) (pc' := 77) (lv' := [(0, .ref 67), (1, .int l1), (2, .int l2)]) (st' := [.ref 67, .int l1, .ref 46]) (by decide +kernel) rfl rfl ?_
      refine ab_fin.q_rA (b := 74) (ix := 30) (ci := 11) (k := 10) (pc' := 80) (by decide +kernel) rfl (c_rA (F.s t0_67) rfl (rC_11_10 F t0_67)) rfl ?_
      refine ab_fin.s2 (i := .iload_n 2) (k := 1) (pc' := 81) (lv' := [(0, .ref 67), (1, .int l1), (2, .int l2)]) (st' := [.int l2, .ref 74, .int l1, .ref 46]) (by decide +kernel) rfl rfl ?_
      obtain ⟨e2, w⟩ := w
      refine ab_fin.q_eI (x := (σ.i 74 l2.toNatClampNeg)) (pc' := 82) (by decide +kernel) (c_eI' (F.s t0_74) e2 rfl) rfl ?_
      refine ab_fin.s2 (i := .aload_n 0) (k := 1) (pc' := 83) (lv' := [(0, .ref 67), (1, .int l1), (2, .int l2)]) (st' := [.ref 67, .int (σ.i 74 l2.toNatClampNeg), .int l1, .ref 46]) (by decide +kernel) rfl rfl ?_
      refine ab_fin.q_rA (b := 71) (ix := 21) (ci := 11) (k := 6) (pc' := 86) (by decide +kernel) rfl (c_rA (F.s t0_67) rfl (rC_11_6 F t0_67)) rfl ?_
      refine ab_fin.q_yI (i := .invokevirtual 130) (k := 3) (y := 1538) (As := [.ref 46, .int l1, .int (σ.i 74 l2.toNatClampNeg), .ref 71]) (rest := []) (M' := (mX6_compare, [])) (lv2 := [(0, .ref 46), (1, .int l1), (2, .int (σ.i 74 l2.toNatClampNeg)), (3, .ref 71)]) (pc' := 89) (X := K) (by decide +kernel) (ab_cv rfl rfl (conc_get (σ := σ) (F.s t0_46)) ⟨(Nat.le_of_ble_eq_true rfl), (Nat.le_of_ble_eq_true rfl)⟩ rfl) rfl (Nat.le_of_ble_eq_true rfl) rfl rfl (hY_no fun E => rfl) w (fun v5 τ3 F4 w => ?_)
      refine ab_fin.br (c := v5 < 0) (i := .ifCond .lt 5) (off := 5) (t := 94) (pc' := 92) (r := []) (by decide +kernel) rfl (by decide +kernel) rfl (fun q => ?_) (fun q => ?_)
      · replace w := w.1 q
        refine ab_fin.q_inc (n := 2) (c := 1) (pc' := 97) (lv' := [(2, .int (l2 + 1)), (0, .ref 67), (1, .int l1)]) (by decide +kernel) (by decide) rfl rfl rfl rfl ?_
        refine ab_fin.s3 (i := .goto (-44)) (k := 3) (t := 53) (st' := []) (by decide +kernel) (ab_gto (by decide +kernel)) ?_
        exact ab_fin.lv ⟨(List.forall_mem_cons.mpr ⟨(List.Mem.tail _ (List.Mem.head _)), (List.forall_mem_cons.mpr ⟨(List.Mem.tail _ (List.Mem.tail _ (List.Mem.head _))), (List.forall_mem_cons.mpr ⟨(List.Mem.head _), (fun _ h => absurd h List.not_mem_nil)⟩)⟩)⟩), (show ([2, 0, 1] : List Nat).Nodup from by decide)⟩ w
      · replace w := w.2 q
        refine ab_fin.s1i (i := .iconst 0) (k := 1) (pc' := 93) (n := 0) (by decide +kernel) rfl (by decide +kernel) rfl ?_
        exact ab_fin.q_ret (i := .ireturn) (k := 1) (v := some (.int 0)) (by decide +kernel) rfl F4 w
theorem T_X11_isKind_0 {Z : zT} {d : Nat} {σ : Sg} {l1 : Int32} {K : kS} (F : FX ΦC σ.sh σ.r) (w : (l1 < 0 → K (.inl (some (.int 0))) σ) ∧ (¬ l1 < 0 → ((σ.i 28 0) ≤ l1 → K (.inl (some (.int 0))) σ) ∧ (¬ (σ.i 28 0) ≤ l1 → K (.inl (some (.int 1))) σ))) : C_X11_isKind_0 Z (d + 1) σ l1 K := by
  unfold C_X11_isKind_0
  refine ab_fin.s2 (i := .iload_n 1) (k := 1) (pc' := 1) (lv' := [(0, .ref 1), (1, .int l1)]) (st' := [.int l1]) (by decide +kernel) rfl rfl ?_
  refine ab_fin.br (c := l1 < 0) (i := .ifCond .lt 17) (off := 17) (t := 18) (pc' := 4) (r := []) (by decide +kernel) rfl (by decide +kernel) rfl (fun q => ?_) (fun q => ?_)
  · replace w := w.1 q
    refine ab_fin.s1i (i := .iconst 0) (k := 1) (pc' := 19) (n := 0) (by decide +kernel) rfl (by decide +kernel) rfl ?_
    exact ab_fin.q_ret (i := .ireturn) (k := 1) (v := some (.int 0)) (by decide +kernel) rfl F w
  · replace w := w.2 q
    refine ab_fin.s2 (i := .iload_n 1) (k := 1) (pc' := 5) (lv' := [(0, .ref 1), (1, .int l1)]) (st' := [.int l1]) (by decide +kernel) rfl rfl ?_
    refine ab_fin.s2 (i := .aload_n 0) (k := 1) (pc' := 6) (lv' := [(0, .ref 1), (1, .int l1)]) (st' := [.ref 1, .int l1]) (by decide +kernel) rfl rfl ?_
    refine ab_fin.q_rA (b := 28) (ix := 32) (ci := 12) (k := 3) (pc' := 9) (by decide +kernel) rfl (c_rA (F.s t0_1) rfl (rC_12_3 F t0_1)) rfl ?_
    refine ab_fin.s1i (i := .iconst 0) (k := 1) (pc' := 10) (n := 0) (by decide +kernel) rfl (by decide +kernel) rfl ?_
    refine ab_fin.q_eI (x := (σ.i 28 0)) (pc' := 11) (by decide +kernel) (c_eI' (F.s t0_28) (show ib (0 : Int32) 4 by decide +kernel) (by decide +kernel)) rfl ?_
    refine ab_fin.br (c := (σ.i 28 0) ≤ l1) (i := .if_icmp .ge 7) (off := 7) (t := 18) (pc' := 14) (r := []) (by decide +kernel) rfl (by decide +kernel) rfl (fun q => ?_) (fun q => ?_)
    · replace w := w.1 q
      refine ab_fin.s1i (i := .iconst 0) (k := 1) (pc' := 19) (n := 0) (by decide +kernel) rfl (by decide +kernel) rfl ?_
      exact ab_fin.q_ret (i := .ireturn) (k := 1) (v := some (.int 0)) (by decide +kernel) rfl F w
    · replace w := w.2 q
      refine ab_fin.s1i (i := .iconst 1) (k := 1) (pc' := 15) (n := 1) (by decide +kernel) rfl (by decide +kernel) rfl ?_
      refine ab_fin.s3 (i := .goto 4) (k := 3) (t := 19) (st' := [.int 1]) (by decide +kernel) (ab_gto (by decide +kernel)) ?_
      exact ab_fin.q_ret (i := .ireturn) (k := 1) (v := some (.int 1)) (by decide +kernel) rfl F w
theorem T_X11_find_0 {Z : zT} {d : Nat} {σ : Sg} {l1 : Int32} {l2 : Int64} {l4 : Int64} {K : kS} (F : FX ΦC σ.sh σ.r) (w : ib l1 4 ∧ (C_X11_find_10 Z (d + 1) σ l1 l2 l4 ((σ.i 28 l1.toNatClampNeg) - (1 : Int32)) K)) : C_X11_find_0 Z (d + 1) σ l1 l2 l4 K := by
  unfold C_X11_find_0
  refine ab_fin.s2 (i := .aload_n 0) (k := 1) (pc' := 1) (lv' := [(0, .ref 1), (1, .int l1), (2, .long l2), (4, .long l4)]) (st' := [.ref 1]) (by decide +kernel) rfl rfl ?_
  refine ab_fin.q_rA (b := 28) (ix := 32) (ci := 12) (k := 3) (pc' := 4) (by decide +kernel) rfl (c_rA (F.s t0_1) rfl (rC_12_3 F t0_1)) rfl ?_
  refine ab_fin.s2 (i := .iload_n 1) (k := 1) (pc' := 5) (lv' := [(0, .ref 1), (1, .int l1), (2, .long l2), (4, .long l4)]) (st' := [.int l1, .ref 28]) (by decide +kernel) rfl rfl ?_
  obtain ⟨e1, w⟩ := w
  refine ab_fin.q_eI (x := (σ.i 28 l1.toNatClampNeg)) (pc' := 6) (by decide +kernel) (c_eI' (F.s t0_28) e1 rfl) rfl ?_
  refine ab_fin.s1i (i := .iconst 1) (k := 1) (pc' := 7) (n := 1) (by decide +kernel) rfl (by decide +kernel) rfl ?_
  refine ab_fin.s1 (i := .isub) (k := 1) (pc' := 8) (st' := [.int ((σ.i 28 l1.toNatClampNeg) - (1 : Int32))]) (by decide +kernel) rfl rfl ?_
  refine ab_fin.s2 (i := .istore 6) (k := 2) (pc' := 10) (lv' := [(6, .int ((σ.i 28 l1.toNatClampNeg) - (1 : Int32))), (0, .ref 1), (1, .int l1), (2, .long l2), (4, .long l4)]) (st' := []) (by decide +kernel) rfl rfl ?_
  exact ab_fin.lv ⟨(List.forall_mem_cons.mpr ⟨(List.Mem.tail _ (List.Mem.head _)), (List.forall_mem_cons.mpr ⟨(List.Mem.tail _ (List.Mem.tail _ (List.Mem.head _))), (List.forall_mem_cons.mpr ⟨(List.Mem.tail _ (List.Mem.tail _ (List.Mem.tail _ (List.Mem.head _)))), (List.forall_mem_cons.mpr ⟨(List.Mem.tail _ (List.Mem.tail _ (List.Mem.tail _ (List.Mem.tail _ (List.Mem.head _))))), (List.forall_mem_cons.mpr ⟨(List.Mem.head _), (fun _ h => absurd h List.not_mem_nil)⟩)⟩)⟩)⟩)⟩), (show ([6, 0, 1, 2, 4] : List Nat).Nodup from by decide)⟩ w
theorem T_X11_find_10 {Z : zT} {d : Nat} {σ : Sg} {l1 : Int32} {l2 : Int64} {l4 : Int64} {l6 : Int32} {K : kS} (F : FX ΦC σ.sh σ.r) (w : (l6 < 0 → K (.inl (some (.int (-1)))) σ) ∧ (¬ l6 < 0 → ∃ v1, xJ0 0 l1 v1 ∧ (ib (v1 + l6) 72 ∧ ((¬ (lg_cmp (σ.l 29 ((v1 + l6).toNatClampNeg)) l2) = 0 → C_X11_find_10 Z (d + 1) σ l1 l2 l4 (l6 + (-1)) K) ∧ ((lg_cmp (σ.l 29 ((v1 + l6).toNatClampNeg)) l2) = 0 → ib (v1 + l6) 72 ∧ ((¬ (lg_cmp (σ.l 30 ((v1 + l6).toNatClampNeg)) l4) = 0 → C_X11_find_10 Z (d + 1) σ l1 l2 l4 (l6 + (-1)) K) ∧ ((lg_cmp (σ.l 30 ((v1 + l6).toNatClampNeg)) l4) = 0 → K (.inl (some (.int l6))) σ))))))) : C_X11_find_10 Z (d + 1) σ l1 l2 l4 l6 K := by
  unfold C_X11_find_10
  refine ab_fin.s2 (i := .iload 6) (k := 2) (pc' := 12) (lv' := [(0, .ref 1), (1, .int l1), (2, .long l2), (4, .long l4), (6, .int l6)]) (st' := [.int l6]) (by decide +kernel) rfl rfl ?_
  refine ab_fin.br (c := l6 < 0) (i := .ifCond .lt 47) (off := 47) (t := 59) (pc' := 15) (r := []) (by decide +kernel) rfl (by decide +kernel) rfl (fun q => ?_) (fun q => ?_)
  · replace w := w.1 q
    refine ab_fin.s1i (i := .iconst (-1)) (k := 1) (pc' := 60) (n := (-1)) (by decide +kernel) rfl (by decide +kernel) rfl ?_
    exact ab_fin.q_ret (i := .ireturn) (k := 1) (v := some (.int (-1))) (by decide +kernel) rfl F w
  · replace w := w.2 q
    refine ab_fin.s8 (i := .getstatic 101) (k := 3) (pc' := 18) (st' := [.retAddr 0]) (by decide +kernel) rfl rfl rfl rfl ?_
    refine ab_fin.s2 (i := .iload_n 1) (k := 1) (pc' := 19) (lv' := [(0, .ref 1), (1, .int l1), (2, .long l2), (4, .long l4), (6, .int l6)]) (st' := [.int l1, .retAddr 0]) (by decide +kernel) rfl rfl ?_
    obtain ⟨v1, e2, w⟩ := w
    refine ab_fin.q_x0 (pc' := 20) (by decide +kernel) e2 rfl ?_
    refine ab_fin.s2 (i := .iload 6) (k := 2) (pc' := 22) (lv' := [(0, .ref 1), (1, .int l1), (2, .long l2), (4, .long l4), (6, .int l6)]) (st' := [.int l6, .int v1]) (by decide +kernel) rfl rfl ?_
    refine ab_fin.s1 (i := .iadd) (k := 1) (pc' := 23) (st' := [.int (v1 + l6)]) (by decide +kernel) rfl rfl ?_
    refine ab_fin.s2 (i := .istore 7) (k := 2) (pc' := 25) (lv' := [(7, .int (v1 + l6)), (0, .ref 1), (1, .int l1), (2, .long l2), (4, .long l4), (6, .int l6)]) (st' := []) (by decide +kernel) rfl rfl ?_
    refine ab_fin.s2 (i := .aload_n 0) (k := 1) (pc' := 26) (lv' := [(7, .int (v1 + l6)), (0, .ref 1), (1, .int l1), (2, .long l2), (4, .long l4), (6, .int l6)]) (st' := [.ref 1]) (by decide +kernel) rfl rfl ?_
    refine ab_fin.q_rA (b := 29) (ix := 36) (ci := 12) (k := 4) (pc' := 29) (by decide +kernel) rfl (c_rA (F.s t0_1) rfl (rC_12_4 F t0_1)) rfl ?_
    refine ab_fin.s2 (i := .iload 7) (k := 2) (pc' := 31) (lv' := [(7, .int (v1 + l6)), (0, .ref 1), (1, .int l1), (2, .long l2), (4, .long l4), (6, .int l6)]) (st' := [.int (v1 + l6), .ref 29]) (by decide +kernel) rfl rfl ?_
    obtain ⟨e3, w⟩ := w
    refine ab_fin.q_eL (x := (σ.l 29 ((v1 + l6).toNatClampNeg))) (pc' := 32) (by decide +kernel) (c_eL' (F.s t0_29) e3 rfl) rfl ?_
    refine ab_fin.s2 (i := .lload_n 2) (k := 1) (pc' := 33) (lv' := [(7, .int (v1 + l6)), (0, .ref 1), (1, .int l1), (2, .long l2), (4, .long l4), (6, .int l6)]) (st' := [.long l2, .long (σ.l 29 ((v1 + l6).toNatClampNeg))]) (by decide +kernel) rfl rfl ?_
    refine ab_fin.s1 (i := .lcmp) (k := 1) (pc' := 34) (st' := [.int (lg_cmp (σ.l 29 ((v1 + l6).toNatClampNeg)) l2)]) (by decide +kernel) rfl rfl ?_
    refine ab_fin.br (c := ¬ (lg_cmp (σ.l 29 ((v1 + l6).toNatClampNeg)) l2) = 0) (i := .ifCond .ne 19) (off := 19) (t := 53) (pc' := 37) (r := []) (by decide +kernel) rfl (by decide +kernel) rfl (fun q => ?_) (fun q => ?_)
    · replace w := w.1 q
      refine ab_fin.q_inc (n := 6) (c := (-1)) (pc' := 56) (lv' := [(6, .int (l6 + (-1))), (7, .int (v1 + l6)), (0, .ref 1), (1, .int l1), (2, .long l2), (4, .long l4)]) (by decide +kernel) (by decide) rfl rfl rfl rfl ?_
      refine ab_fin.s3 (i := .goto (-46)) (k := 3) (t := 10) (st' := []) (by decide +kernel) (ab_gto (by decide +kernel)) ?_
      exact ab_fin.lv ⟨(List.forall_mem_cons.mpr ⟨(List.Mem.tail _ (List.Mem.tail _ (List.Mem.head _))), (List.forall_mem_cons.mpr ⟨(List.Mem.tail _ (List.Mem.tail _ (List.Mem.tail _ (List.Mem.head _)))), (List.forall_mem_cons.mpr ⟨(List.Mem.tail _ (List.Mem.tail _ (List.Mem.tail _ (List.Mem.tail _ (List.Mem.head _))))), (List.forall_mem_cons.mpr ⟨(List.Mem.tail _ (List.Mem.tail _ (List.Mem.tail _ (List.Mem.tail _ (List.Mem.tail _ (List.Mem.head _)))))), (List.forall_mem_cons.mpr ⟨(List.Mem.head _), (fun _ h => absurd h List.not_mem_nil)⟩)⟩)⟩)⟩)⟩), (show ([6, 7, 0, 1, 2, 4] : List Nat).Nodup from by decide)⟩ w
    · replace w := w.2 (Decidable.of_not_not q)
      refine ab_fin.s2 (i := .aload_n 0) (k := 1) (pc' := 38) (lv' := [(7, .int (v1 + l6)), (0, .ref 1), (1, .int l1), (2, .long l2), (4, .long l4), (6, .int l6)]) (st' := [.ref 1]) (by decide +kernel) rfl rfl ?_
      refine ab_fin.q_rA (b := 30) (ix := 40) (ci := 12) (k := 5) (pc' := 41) (by decide +kernel) rfl (c_rA (F.s t0_1) rfl (rC_12_5 F t0_1)) rfl ?_
      refine ab_fin.s2 (i := .iload 7) (k := 2) (pc' := 43) (lv' := [(7, .int (v1 + l6)), (0, .ref 1), (1, .int l1), (2, .long l2), (4, .long l4), (6, .int l6)]) (st' := [.int (v1 + l6), .ref 30]) (by decide +kernel) rfl rfl ?_
      obtain ⟨e4, w⟩ := w
      refine ab_fin.q_eL (x := (σ.l 30 ((v1 + l6).toNatClampNeg))) (pc' := 44) (by decide +kernel) (c_eL' (F.s t0_30) e4 rfl) rfl ?_
      refine ab_fin.s2 (i := .lload 4) (k := 2) (pc' := 46) (lv' := [(7, .int (v1 + l6)), (0, .ref 1), (1, .int l1), (2, .long l2), (4, .long l4), (6, .int l6)]) (st' := [.long l4, .long (σ.l 30 ((v1 + l6).toNatClampNeg))]) (by decide +kernel) rfl rfl ?_
      refine ab_fin.s1 (i := .lcmp) (k := 1) (pc' := 47) (st' := [.int (lg_cmp (σ.l 30 ((v1 + l6).toNatClampNeg)) l4)]) (by decide +kernel) rfl rfl ?_
      refine ab_fin.br (c := ¬ (lg_cmp (σ.l 30 ((v1 + l6).toNatClampNeg)) l4) = 0) (i := .ifCond .ne 6) (off := 6) (t := 53) (pc' := 50) (r := []) (by decide +kernel) rfl (by decide +kernel) rfl (fun q => ?_) (fun q => ?_)
      · replace w := w.1 q
        refine ab_fin.q_inc (n := 6) (c := (-1)) (pc' := 56) (lv' := [(6, .int (l6 + (-1))), (7, .int (v1 + l6)), (0, .ref 1), (1, .int l1), (2, .long l2), (4, .long l4)]) (by decide +kernel) (by decide) rfl rfl rfl rfl ?_
        refine ab_fin.s3 (i := .goto (-46)) (k := 3) (t := 10) (st' := []) (by decide +kernel) (ab_gto (by decide +kernel)) ?_
        exact ab_fin.lv ⟨(List.forall_mem_cons.mpr ⟨(List.Mem.tail _ (List.Mem.tail _ (List.Mem.head _))), (List.forall_mem_cons.mpr ⟨(List.Mem.tail _ (List.Mem.tail _ (List.Mem.tail _ (List.Mem.head _)))), (List.forall_mem_cons.mpr ⟨(List.Mem.tail _ (List.Mem.tail _ (List.Mem.tail _ (List.Mem.tail _ (List.Mem.head _))))), (List.forall_mem_cons.mpr ⟨(List.Mem.tail _ (List.Mem.tail _ (List.Mem.tail _ (List.Mem.tail _ (List.Mem.tail _ (List.Mem.head _)))))), (List.forall_mem_cons.mpr ⟨(List.Mem.head _), (fun _ h => absurd h List.not_mem_nil)⟩)⟩)⟩)⟩)⟩), (show ([6, 7, 0, 1, 2, 4] : List Nat).Nodup from by decide)⟩ w
      · replace w := w.2 (Decidable.of_not_not q)
        refine ab_fin.s2 (i := .iload 6) (k := 2) (pc' := 52) (lv' := [(7, .int (v1 + l6)), (0, .ref 1), (1, .int l1), (2, .long l2), (4, .long l4), (6, .int l6)]) (st' := [.int l6]) (by decide +kernel) rfl rfl ?_
        exact ab_fin.q_ret (i := .ireturn) (k := 1) (v := some (.int l6)) (by decide +kernel) rfl F w
theorem T_X11_isTold_0 {Z : zT} {d : Nat} {σ : Sg} {l1 : Int64} {l3 : Int64} {K : kS} (F : FX ΦC σ.sh σ.r) (w : C_X11_find_0 Z d σ 0 l1 l3 (yI K fun v3 τ1 => (0 ≤ v3 → K (.inl (some (.int 1))) τ1) ∧ (¬ 0 ≤ v3 → C_X11_find_0 Z d τ1 1 l1 l3 (yI K fun v6 τ4 => (0 ≤ v6 → K (.inl (some (.int 1))) τ4) ∧ (¬ 0 ≤ v6 → C_X11_find_0 Z d τ4 2 l1 l3 (yI K fun v9 τ7 => (v9 < 0 → K (.inl (some (.int 0))) τ7) ∧ (¬ v9 < 0 → K (.inl (some (.int 1))) τ7))))))) : C_X11_isTold_0 Z (d + 1) σ l1 l3 K := by
  unfold C_X11_isTold_0
  refine ab_fin.s2 (i := .aload_n 0) (k := 1) (pc' := 1) (lv' := [(0, .ref 1), (1, .long l1), (3, .long l3)]) (st' := [.ref 1]) (by decide +kernel) rfl rfl ?_
  refine ab_fin.s1i (i := .iconst 0) (k := 1) (pc' := 2) (n := 0) (by decide +kernel) rfl (by decide +kernel) rfl ?_
  refine ab_fin.s2 (i := .lload_n 1) (k := 1) (pc' := 3) (lv' := [(0, .ref 1), (1, .long l1), (3, .long l3)]) (st' := [.long l1, .int 0, .ref 1]) (by decide +kernel) rfl rfl ?_
  refine ab_fin.s2 (i := .lload_n 3) (k := 1) (pc' := 4) (lv' := [(0, .ref 1), (1, .long l1), (3, .long l3)]) (st' := [.long l3, .long l1, .int 0, .ref 1]) (by decide +kernel) rfl rfl ?_
  refine ab_fin.q_yI (i := .invokevirtual 104) (k := 3) (y := 2818) (As := [.ref 1, .int 0, .long l1, .long l3]) (rest := []) (M' := (mX11_find, [])) (lv2 := [(0, .ref 1), (1, .int 0), (2, .long l1), (4, .long l3)]) (pc' := 7) (X := K) (by decide +kernel) (ab_cv rfl rfl (conc_get (σ := σ) (F.s t0_1)) ⟨(Nat.le_of_ble_eq_true rfl), (Nat.le_of_ble_eq_true rfl)⟩ rfl) rfl (Nat.le_of_ble_eq_true rfl) rfl rfl (hY_no fun E => rfl) w (fun v3 τ1 F2 w => ?_)
  refine ab_fin.br (c := 0 ≤ v3) (i := .ifCond .ge 23) (off := 23) (t := 30) (pc' := 10) (r := []) (by decide +kernel) rfl (by decide +kernel) rfl (fun q => ?_) (fun q => ?_)
  · replace w := w.1 q
    refine ab_fin.s1i (i := .iconst 1) (k := 1) (pc' := 31) (n := 1) (by decide +kernel) rfl (by decide +kernel) rfl ?_
    refine ab_fin.s3 (i := .goto 4) (k := 3) (t := 35) (st' := [.int 1]) (by decide +kernel) (ab_gto (by decide +kernel)) ?_
    exact ab_fin.q_ret (i := .ireturn) (k := 1) (v := some (.int 1)) (by decide +kernel) rfl F2 w
  · replace w := w.2 q
    refine ab_fin.s2 (i := .aload_n 0) (k := 1) (pc' := 11) (lv' := [(0, .ref 1), (1, .long l1), (3, .long l3)]) (st' := [.ref 1]) (by decide +kernel) rfl rfl ?_
    refine ab_fin.s1i (i := .iconst 1) (k := 1) (pc' := 12) (n := 1) (by decide +kernel) rfl (by decide +kernel) rfl ?_
    refine ab_fin.s2 (i := .lload_n 1) (k := 1) (pc' := 13) (lv' := [(0, .ref 1), (1, .long l1), (3, .long l3)]) (st' := [.long l1, .int 1, .ref 1]) (by decide +kernel) rfl rfl ?_
    refine ab_fin.s2 (i := .lload_n 3) (k := 1) (pc' := 14) (lv' := [(0, .ref 1), (1, .long l1), (3, .long l3)]) (st' := [.long l3, .long l1, .int 1, .ref 1]) (by decide +kernel) rfl rfl ?_
    refine ab_fin.q_yI (i := .invokevirtual 104) (k := 3) (y := 2818) (As := [.ref 1, .int 1, .long l1, .long l3]) (rest := []) (M' := (mX11_find, [])) (lv2 := [(0, .ref 1), (1, .int 1), (2, .long l1), (4, .long l3)]) (pc' := 17) (X := K) (by decide +kernel) (ab_cv rfl rfl (conc_get (σ := τ1) (F2.s t0_1)) ⟨(Nat.le_of_ble_eq_true rfl), (Nat.le_of_ble_eq_true rfl)⟩ rfl) rfl (Nat.le_of_ble_eq_true rfl) rfl rfl (hY_no fun E => rfl) w (fun v6 τ4 F5 w => ?_)
    refine ab_fin.br (c := 0 ≤ v6) (i := .ifCond .ge 13) (off := 13) (t := 30) (pc' := 20) (r := []) (by decide +kernel) rfl (by decide +kernel) rfl (fun q => ?_) (fun q => ?_)
    · replace w := w.1 q
      refine ab_fin.s1i (i := .iconst 1) (k := 1) (pc' := 31) (n := 1) (by decide +kernel) rfl (by decide +kernel) rfl ?_
      refine ab_fin.s3 (i := .goto 4) (k := 3) (t := 35) (st' := [.int 1]) (by decide +kernel) (ab_gto (by decide +kernel)) ?_
      exact ab_fin.q_ret (i := .ireturn) (k := 1) (v := some (.int 1)) (by decide +kernel) rfl F5 w
    · replace w := w.2 q
      refine ab_fin.s2 (i := .aload_n 0) (k := 1) (pc' := 21) (lv' := [(0, .ref 1), (1, .long l1), (3, .long l3)]) (st' := [.ref 1]) (by decide +kernel) rfl rfl ?_
      refine ab_fin.s1i (i := .iconst 2) (k := 1) (pc' := 22) (n := 2) (by decide +kernel) rfl (by decide +kernel) rfl ?_
      refine ab_fin.s2 (i := .lload_n 1) (k := 1) (pc' := 23) (lv' := [(0, .ref 1), (1, .long l1), (3, .long l3)]) (st' := [.long l1, .int 2, .ref 1]) (by decide +kernel) rfl rfl ?_
      refine ab_fin.s2 (i := .lload_n 3) (k := 1) (pc' := 24) (lv' := [(0, .ref 1), (1, .long l1), (3, .long l3)]) (st' := [.long l3, .long l1, .int 2, .ref 1]) (by decide +kernel) rfl rfl ?_
      refine ab_fin.q_yI (i := .invokevirtual 104) (k := 3) (y := 2818) (As := [.ref 1, .int 2, .long l1, .long l3]) (rest := []) (M' := (mX11_find, [])) (lv2 := [(0, .ref 1), (1, .int 2), (2, .long l1), (4, .long l3)]) (pc' := 27) (X := K) (by decide +kernel) (ab_cv rfl rfl (conc_get (σ := τ4) (F5.s t0_1)) ⟨(Nat.le_of_ble_eq_true rfl), (Nat.le_of_ble_eq_true rfl)⟩ rfl) rfl (Nat.le_of_ble_eq_true rfl) rfl rfl (hY_no fun E => rfl) w (fun v9 τ7 F8 w => ?_)
      refine ab_fin.br (c := v9 < 0) (i := .ifCond .lt 7) (off := 7) (t := 34) (pc' := 30) (r := []) (by decide +kernel) rfl (by decide +kernel) rfl (fun q => ?_) (fun q => ?_)
      · replace w := w.1 q
        refine ab_fin.s1i (i := .iconst 0) (k := 1) (pc' := 35) (n := 0) (by decide +kernel) rfl (by decide +kernel) rfl ?_
        exact ab_fin.q_ret (i := .ireturn) (k := 1) (v := some (.int 0)) (by decide +kernel) rfl F8 w
      · replace w := w.2 q
        refine ab_fin.s1i (i := .iconst 1) (k := 1) (pc' := 31) (n := 1) (by decide +kernel) rfl (by decide +kernel) rfl ?_
        refine ab_fin.s3 (i := .goto 4) (k := 3) (t := 35) (st' := [.int 1]) (by decide +kernel) (ab_gto (by decide +kernel)) ?_
        exact ab_fin.q_ret (i := .ireturn) (k := 1) (v := some (.int 1)) (by decide +kernel) rfl F8 w
theorem T_X11_isFull_0 {Z : zT} {d : Nat} {σ : Sg} {l1 : Int32} {K : kS} (F : FX ΦC σ.sh σ.r) (w : ib l1 4 ∧ (∃ v2, xJ0 1 l1 v2 ∧ (((σ.i 28 l1.toNatClampNeg) < v2 → K (.inl (some (.int 0))) σ) ∧ (¬ (σ.i 28 l1.toNatClampNeg) < v2 → K (.inl (some (.int 1))) σ)))) : C_X11_isFull_0 Z (d + 1) σ l1 K := by
  unfold C_X11_isFull_0
  refine ab_fin.s2 (i := .aload_n 0) (k := 1) (pc' := 1) (lv' := [(0, .ref 1), (1, .int l1)]) (st' := [.ref 1]) (by decide +kernel) rfl rfl ?_
  refine ab_fin.q_rA (b := 28) (ix := 32) (ci := 12) (k := 3) (pc' := 4) (by decide +kernel) rfl (c_rA (F.s t0_1) rfl (rC_12_3 F t0_1)) rfl ?_
  refine ab_fin.s2 (i := .iload_n 1) (k := 1) (pc' := 5) (lv' := [(0, .ref 1), (1, .int l1)]) (st' := [.int l1, .ref 28]) (by decide +kernel) rfl rfl ?_
  obtain ⟨e1, w⟩ := w
  refine ab_fin.q_eI (x := (σ.i 28 l1.toNatClampNeg)) (pc' := 6) (by decide +kernel) (c_eI' (F.s t0_28) e1 rfl) rfl ?_
  refine ab_fin.s8 (i := .getstatic 108) (k := 3) (pc' := 9) (st' := [.retAddr 1, .int (σ.i 28 l1.toNatClampNeg)]) (by decide +kernel) rfl rfl rfl rfl ?_
  refine ab_fin.s2 (i := .iload_n 1) (k := 1) (pc' := 10) (lv' := [(0, .ref 1), (1, .int l1)]) (st' := [.int l1, .retAddr 1, .int (σ.i 28 l1.toNatClampNeg)]) (by decide +kernel) rfl rfl ?_
  obtain ⟨v2, e3, w⟩ := w
  refine ab_fin.q_x0 (pc' := 11) (by decide +kernel) e3 rfl ?_
  refine ab_fin.br (c := (σ.i 28 l1.toNatClampNeg) < v2) (i := .if_icmp .lt 7) (off := 7) (t := 18) (pc' := 14) (r := []) (by decide +kernel) rfl (by decide +kernel) rfl (fun q => ?_) (fun q => ?_)
  · replace w := w.1 q
    refine ab_fin.s1i (i := .iconst 0) (k := 1) (pc' := 19) (n := 0) (by decide +kernel) rfl (by decide +kernel) rfl ?_
    exact ab_fin.q_ret (i := .ireturn) (k := 1) (v := some (.int 0)) (by decide +kernel) rfl F w
  · replace w := w.2 q
    refine ab_fin.s1i (i := .iconst 1) (k := 1) (pc' := 15) (n := 1) (by decide +kernel) rfl (by decide +kernel) rfl ?_
    refine ab_fin.s3 (i := .goto 4) (k := 3) (t := 19) (st' := [.int 1]) (by decide +kernel) (ab_gto (by decide +kernel)) ?_
    exact ab_fin.q_ret (i := .ireturn) (k := 1) (v := some (.int 1)) (by decide +kernel) rfl F w
theorem T_X11_addName_0 {Z : zT} {d : Nat} {σ : Sg} {l1 : Int32} {l2 : Int64} {l4 : Int64} {K : kS} (F : FX ΦC σ.sh σ.r) (w : C_X11_isFull_0 Z d σ l1 (yI K fun v3 τ1 => (¬ v3 = 0 → K (.inl none) τ1) ∧ (v3 = 0 → ∃ v4, xJ0 0 l1 v4 ∧ (ib l1 4 ∧ (ib (v4 + (τ1.i 28 l1.toNatClampNeg)) 72 ∧ (ib (v4 + (τ1.i 28 l1.toNatClampNeg)) 72 ∧ (ib l1 4 ∧ (ib l1 4 ∧ (K (.inl none) (((τ1.wl 29 ((v4 + (τ1.i 28 l1.toNatClampNeg)).toNatClampNeg) l2).wl 30 ((v4 + (τ1.i 28 l1.toNatClampNeg)).toNatClampNeg) l4).wi 28 l1.toNatClampNeg ((τ1.i 28 l1.toNatClampNeg) + (1 : Int32)))))))))))) : C_X11_addName_0 Z (d + 1) σ l1 l2 l4 K := by
  unfold C_X11_addName_0
  refine ab_fin.s2 (i := .aload_n 0) (k := 1) (pc' := 1) (lv' := [(0, .ref 1), (1, .int l1), (2, .long l2), (4, .long l4)]) (st' := [.ref 1]) (by decide +kernel) rfl rfl ?_
  refine ab_fin.s2 (i := .iload_n 1) (k := 1) (pc' := 2) (lv' := [(0, .ref 1), (1, .int l1), (2, .long l2), (4, .long l4)]) (st' := [.int l1, .ref 1]) (by decide +kernel) rfl rfl ?_
  refine ab_fin.q_yI (i := .invokevirtual 111) (k := 3) (y := 2820) (As := [.ref 1, .int l1]) (rest := []) (M' := (mX11_isFull, [])) (lv2 := [(0, .ref 1), (1, .int l1)]) (pc' := 5) (X := K) (by decide +kernel) (ab_cv rfl rfl (conc_get (σ := σ) (F.s t0_1)) ⟨(Nat.le_of_ble_eq_true rfl), (Nat.le_of_ble_eq_true rfl)⟩ rfl) rfl (Nat.le_of_ble_eq_true rfl) rfl rfl (hY_no fun E => rfl) w (fun v3 τ1 F2 w => ?_)
  refine ab_fin.br (c := ¬ v3 = 0) (i := .ifCond .ne 44) (off := 44) (t := 49) (pc' := 8) (r := []) (by decide +kernel) rfl (by decide +kernel) rfl (fun q => ?_) (fun q => ?_)
  · replace w := w.1 q
    exact ab_fin.q_ret (i := .return_) (k := 1) (v := none) (by decide +kernel) rfl F2 w
  · replace w := w.2 (Decidable.of_not_not q)
    refine ab_fin.s8 (i := .getstatic 101) (k := 3) (pc' := 11) (st' := [.retAddr 0]) (by decide +kernel) rfl rfl rfl rfl ?_
    refine ab_fin.s2 (i := .iload_n 1) (k := 1) (pc' := 12) (lv' := [(0, .ref 1), (1, .int l1), (2, .long l2), (4, .long l4)]) (st' := [.int l1, .retAddr 0]) (by decide +kernel) rfl rfl ?_
    obtain ⟨v4, e5, w⟩ := w
    refine ab_fin.q_x0 (pc' := 13) (by decide +kernel) e5 rfl ?_
    refine ab_fin.s2 (i := .aload_n 0) (k := 1) (pc' := 14) (lv' := [(0, .ref 1), (1, .int l1), (2, .long l2), (4, .long l4)]) (st' := [.ref 1, .int v4]) (by decide +kernel) rfl rfl ?_
    refine ab_fin.q_rA (b := 28) (ix := 32) (ci := 12) (k := 3) (pc' := 17) (by decide +kernel) rfl (c_rA (F2.s t0_1) rfl (rC_12_3 F2 t0_1)) rfl ?_
    refine ab_fin.s2 (i := .iload_n 1) (k := 1) (pc' := 18) (lv' := [(0, .ref 1), (1, .int l1), (2, .long l2), (4, .long l4)]) (st' := [.int l1, .ref 28, .int v4]) (by decide +kernel) rfl rfl ?_
    obtain ⟨e6, w⟩ := w
    refine ab_fin.q_eI (x := (τ1.i 28 l1.toNatClampNeg)) (pc' := 19) (by decide +kernel) (c_eI' (F2.s t0_28) e6 rfl) rfl ?_
    refine ab_fin.s1 (i := .iadd) (k := 1) (pc' := 20) (st' := [.int (v4 + (τ1.i 28 l1.toNatClampNeg))]) (by decide +kernel) rfl rfl ?_
    refine ab_fin.s2 (i := .istore 6) (k := 2) (pc' := 22) (lv' := [(6, .int (v4 + (τ1.i 28 l1.toNatClampNeg))), (0, .ref 1), (1, .int l1), (2, .long l2), (4, .long l4)]) (st' := []) (by decide +kernel) rfl rfl ?_
    refine ab_fin.s2 (i := .aload_n 0) (k := 1) (pc' := 23) (lv' := [(6, .int (v4 + (τ1.i 28 l1.toNatClampNeg))), (0, .ref 1), (1, .int l1), (2, .long l2), (4, .long l4)]) (st' := [.ref 1]) (by decide +kernel) rfl rfl ?_
    refine ab_fin.q_rA (b := 29) (ix := 36) (ci := 12) (k := 4) (pc' := 26) (by decide +kernel) rfl (c_rA (F2.s t0_1) rfl (rC_12_4 F2 t0_1)) rfl ?_
    refine ab_fin.s2 (i := .iload 6) (k := 2) (pc' := 28) (lv' := [(6, .int (v4 + (τ1.i 28 l1.toNatClampNeg))), (0, .ref 1), (1, .int l1), (2, .long l2), (4, .long l4)]) (st' := [.int (v4 + (τ1.i 28 l1.toNatClampNeg)), .ref 29]) (by decide +kernel) rfl rfl ?_
    refine ab_fin.s2 (i := .lload_n 2) (k := 1) (pc' := 29) (lv' := [(6, .int (v4 + (τ1.i 28 l1.toNatClampNeg))), (0, .ref 1), (1, .int l1), (2, .long l2), (4, .long l4)]) (st' := [.long l2, .int (v4 + (τ1.i 28 l1.toNatClampNeg)), .ref 29]) (by decide +kernel) rfl rfl ?_
    obtain ⟨e7, w⟩ := w
    refine ab_fin.q_sL (h1 := conc (τ1.wl 29 ((v4 + (τ1.i 28 l1.toNatClampNeg)).toNatClampNeg) l2)) (pc' := 30) (by decide +kernel) (c_sL' (F2.s t0_29) e7 rfl) rfl ?_
    refine ab_fin.s2 (i := .aload_n 0) (k := 1) (pc' := 31) (lv' := [(6, .int (v4 + (τ1.i 28 l1.toNatClampNeg))), (0, .ref 1), (1, .int l1), (2, .long l2), (4, .long l4)]) (st' := [.ref 1]) (by decide +kernel) rfl rfl ?_
    refine ab_fin.q_rA (b := 30) (ix := 40) (ci := 12) (k := 5) (pc' := 34) (by decide +kernel) rfl (c_rA (F2.s t0_1) rfl (rC_12_5 F2 t0_1)) rfl ?_
    refine ab_fin.s2 (i := .iload 6) (k := 2) (pc' := 36) (lv' := [(6, .int (v4 + (τ1.i 28 l1.toNatClampNeg))), (0, .ref 1), (1, .int l1), (2, .long l2), (4, .long l4)]) (st' := [.int (v4 + (τ1.i 28 l1.toNatClampNeg)), .ref 30]) (by decide +kernel) rfl rfl ?_
    refine ab_fin.s2 (i := .lload 4) (k := 2) (pc' := 38) (lv' := [(6, .int (v4 + (τ1.i 28 l1.toNatClampNeg))), (0, .ref 1), (1, .int l1), (2, .long l2), (4, .long l4)]) (st' := [.long l4, .int (v4 + (τ1.i 28 l1.toNatClampNeg)), .ref 30]) (by decide +kernel) rfl rfl ?_
    obtain ⟨e8, w⟩ := w
    refine ab_fin.q_sL (h1 := conc ((τ1.wl 29 ((v4 + (τ1.i 28 l1.toNatClampNeg)).toNatClampNeg) l2).wl 30 ((v4 + (τ1.i 28 l1.toNatClampNeg)).toNatClampNeg) l4)) (pc' := 39) (by decide +kernel) (c_sL' (F2.s t0_30) e8 rfl) rfl ?_
    refine ab_fin.s2 (i := .aload_n 0) (k := 1) (pc' := 40) (lv' := [(6, .int (v4 + (τ1.i 28 l1.toNatClampNeg))), (0, .ref 1), (1, .int l1), (2, .long l2), (4, .long l4)]) (st' := [.ref 1]) (by decide +kernel) rfl rfl ?_
    refine ab_fin.q_rA (b := 28) (ix := 32) (ci := 12) (k := 3) (pc' := 43) (by decide +kernel) rfl (c_rA (F2.s t0_1) rfl (rC_12_3 F2 t0_1)) rfl ?_
    refine ab_fin.s2 (i := .iload_n 1) (k := 1) (pc' := 44) (lv' := [(6, .int (v4 + (τ1.i 28 l1.toNatClampNeg))), (0, .ref 1), (1, .int l1), (2, .long l2), (4, .long l4)]) (st' := [.int l1, .ref 28]) (by decide +kernel) rfl rfl ?_
    refine ab_fin.s1 (i := .dup2) (k := 1) (pc' := 45) (st' := [.int l1, .ref 28, .int l1, .ref 28]) (by decide +kernel) rfl rfl ?_
    obtain ⟨e9, w⟩ := w
    refine ab_fin.q_eI (x := (τ1.i 28 l1.toNatClampNeg)) (pc' := 46) (by decide +kernel) (c_eI' (F2.s t0_28) e9 rfl) rfl ?_
    refine ab_fin.s1i (i := .iconst 1) (k := 1) (pc' := 47) (n := 1) (by decide +kernel) rfl (by decide +kernel) rfl ?_
    refine ab_fin.s1 (i := .iadd) (k := 1) (pc' := 48) (st' := [.int ((τ1.i 28 l1.toNatClampNeg) + (1 : Int32)), .int l1, .ref 28]) (by decide +kernel) rfl rfl ?_
    obtain ⟨e10, w⟩ := w
    refine ab_fin.q_sI (h1 := conc (((τ1.wl 29 ((v4 + (τ1.i 28 l1.toNatClampNeg)).toNatClampNeg) l2).wl 30 ((v4 + (τ1.i 28 l1.toNatClampNeg)).toNatClampNeg) l4).wi 28 l1.toNatClampNeg ((τ1.i 28 l1.toNatClampNeg) + (1 : Int32)))) (pc' := 49) (by decide +kernel) (c_sI' (F2.s t0_28) e10 rfl) rfl ?_
    exact ab_fin.q_ret (i := .return_) (k := 1) (v := none) (by decide +kernel) rfl F2 w
theorem T_X11_beginAnew_0 {Z : zT} {d : Nat} {σ : Sg}  {K : kS} (F : FX ΦC σ.sh σ.r) (w : C_X11_takeStock_0 Z d (((((σ.wi 28 0 (3 : Int32)).wi 28 1 (0 : Int32)).wi 28 2 (0 : Int32)).wi 10 0 (0 : Int32)).wi 24 3 (902 : Int32))  (yN K fun τ1 => K (.inl none) τ1)) : C_X11_beginAnew_0 Z (d + 1) σ  K := by
  unfold C_X11_beginAnew_0
  refine ab_fin.s2 (i := .aload_n 0) (k := 1) (pc' := 1) (lv' := [(0, .ref 1)]) (st' := [.ref 1]) (by decide +kernel) rfl rfl ?_
  refine ab_fin.q_rA (b := 28) (ix := 32) (ci := 12) (k := 3) (pc' := 4) (by decide +kernel) rfl (c_rA (F.s t0_1) rfl (rC_12_3 F t0_1)) rfl ?_
  refine ab_fin.s1i (i := .iconst 0) (k := 1) (pc' := 5) (n := 0) (by decide +kernel) rfl (by decide +kernel) rfl ?_
  refine ab_fin.s1i (i := .iconst 3) (k := 1) (pc' := 6) (n := 3) (by decide +kernel) rfl (by decide +kernel) rfl ?_
  refine ab_fin.q_sI (h1 := conc (σ.wi 28 0 (3 : Int32))) (pc' := 7) (by decide +kernel) (c_sI' (F.s t0_28) (show ib (0 : Int32) 4 by decide +kernel) (by decide +kernel)) rfl ?_
  refine ab_fin.s2 (i := .aload_n 0) (k := 1) (pc' := 8) (lv' := [(0, .ref 1)]) (st' := [.ref 1]) (by decide +kernel) rfl rfl ?_
  refine ab_fin.q_rA (b := 28) (ix := 32) (ci := 12) (k := 3) (pc' := 11) (by decide +kernel) rfl (c_rA (F.s t0_1) rfl (rC_12_3 F t0_1)) rfl ?_
  refine ab_fin.s1i (i := .iconst 1) (k := 1) (pc' := 12) (n := 1) (by decide +kernel) rfl (by decide +kernel) rfl ?_
  refine ab_fin.s1i (i := .iconst 0) (k := 1) (pc' := 13) (n := 0) (by decide +kernel) rfl (by decide +kernel) rfl ?_
  refine ab_fin.q_sI (h1 := conc ((σ.wi 28 0 (3 : Int32)).wi 28 1 (0 : Int32))) (pc' := 14) (by decide +kernel) (c_sI' (F.s t0_28) (show ib (1 : Int32) 4 by decide +kernel) (by decide +kernel)) rfl ?_
  refine ab_fin.s2 (i := .aload_n 0) (k := 1) (pc' := 15) (lv' := [(0, .ref 1)]) (st' := [.ref 1]) (by decide +kernel) rfl rfl ?_
  refine ab_fin.q_rA (b := 28) (ix := 32) (ci := 12) (k := 3) (pc' := 18) (by decide +kernel) rfl (c_rA (F.s t0_1) rfl (rC_12_3 F t0_1)) rfl ?_
  refine ab_fin.s1i (i := .iconst 2) (k := 1) (pc' := 19) (n := 2) (by decide +kernel) rfl (by decide +kernel) rfl ?_
  refine ab_fin.s1i (i := .iconst 0) (k := 1) (pc' := 20) (n := 0) (by decide +kernel) rfl (by decide +kernel) rfl ?_
  refine ab_fin.q_sI (h1 := conc (((σ.wi 28 0 (3 : Int32)).wi 28 1 (0 : Int32)).wi 28 2 (0 : Int32))) (pc' := 21) (by decide +kernel) (c_sI' (F.s t0_28) (show ib (2 : Int32) 4 by decide +kernel) (by decide +kernel)) rfl ?_
  refine ab_fin.s2 (i := .aload_n 0) (k := 1) (pc' := 22) (lv' := [(0, .ref 1)]) (st' := [.ref 1]) (by decide +kernel) rfl rfl ?_
  refine ab_fin.q_rA (b := 10) (ix := 21) (ci := 12) (k := 1) (pc' := 25) (by decide +kernel) rfl (c_rA (F.s t0_1) rfl (rC_12_1 F t0_1)) rfl ?_
  refine ab_fin.s1i (i := .iconst 0) (k := 1) (pc' := 26) (n := 0) (by decide +kernel) rfl (by decide +kernel) rfl ?_
  refine ab_fin.q_pF (ix := 115) (ci := 6) (k := 0) (h1 := conc ((((σ.wi 28 0 (3 : Int32)).wi 28 1 (0 : Int32)).wi 28 2 (0 : Int32)).wi 10 0 (0 : Int32))) (pc' := 29) (by decide +kernel) rfl (c_pI (v := 0) (F.s t0_10) rfl) rfl rfl rfl ?_
  refine ab_fin.s2 (i := .aload_n 0) (k := 1) (pc' := 30) (lv' := [(0, .ref 1)]) (st' := [.ref 1]) (by decide +kernel) rfl rfl ?_
  refine ab_fin.q_rA (b := 24) (ix := 28) (ci := 12) (k := 2) (pc' := 33) (by decide +kernel) rfl (c_rA (F.s t0_1) rfl (rC_12_2 F t0_1)) rfl ?_
  refine ab_fin.s1i (i := .sipush 902) (k := 3) (pc' := 36) (n := 902) (by decide +kernel) rfl (by decide +kernel) rfl ?_
  refine ab_fin.q_pF (ix := 118) (ci := 2) (k := 3) (h1 := conc (((((σ.wi 28 0 (3 : Int32)).wi 28 1 (0 : Int32)).wi 28 2 (0 : Int32)).wi 10 0 (0 : Int32)).wi 24 3 (902 : Int32))) (pc' := 39) (by decide +kernel) rfl (c_pI (v := 902) (F.s t0_24) rfl) rfl rfl rfl ?_
  refine ab_fin.s2 (i := .aload_n 0) (k := 1) (pc' := 40) (lv' := [(0, .ref 1)]) (st' := [.ref 1]) (by decide +kernel) rfl rfl ?_
  refine ab_fin.q_yN (i := .invokevirtual 98) (k := 3) (y := 2825) (As := [.ref 1]) (rest := []) (M' := (mX11_takeStock, [])) (lv2 := [(0, .ref 1)]) (pc' := 43) (X := K) (by decide +kernel) (ab_cv rfl rfl (conc_get (σ := (((((σ.wi 28 0 (3 : Int32)).wi 28 1 (0 : Int32)).wi 28 2 (0 : Int32)).wi 10 0 (0 : Int32)).wi 24 3 (902 : Int32))) (F.s t0_1)) ⟨(Nat.le_of_ble_eq_true rfl), (Nat.le_of_ble_eq_true rfl)⟩ rfl) rfl (Nat.le_of_ble_eq_true rfl) rfl rfl (hY_no fun E => rfl) w (fun τ1 F2 w => ?_)
  exact ab_fin.q_ret (i := .return_) (k := 1) (v := none) (by decide +kernel) rfl F2 w
theorem T_X11_keep_0 {Z : zT} {d : Nat} {σ : Sg}  {K : kS} (F : FX ΦC σ.sh σ.r) (w : K (.inl none) (((σ.cpI 28 ((0 : Int32).toNatClampNeg) 39 ((0 : Int32).toNatClampNeg) ((3 : Int32).toNatClampNeg)).wi 39 3 (σ.i 10 0)).wi 39 4 (σ.i 24 3))) : C_X11_keep_0 Z (d + 1) σ  K := by
  unfold C_X11_keep_0
  refine ab_fin.s2 (i := .aload_n 0) (k := 1) (pc' := 1) (lv' := [(0, .ref 1)]) (st' := [.ref 1]) (by decide +kernel) rfl rfl ?_
  refine ab_fin.q_rA (b := 28) (ix := 32) (ci := 12) (k := 3) (pc' := 4) (by decide +kernel) rfl (c_rA (F.s t0_1) rfl (rC_12_3 F t0_1)) rfl ?_
  refine ab_fin.s1i (i := .iconst 0) (k := 1) (pc' := 5) (n := 0) (by decide +kernel) rfl (by decide +kernel) rfl ?_
  refine ab_fin.s2 (i := .aload_n 0) (k := 1) (pc' := 6) (lv' := [(0, .ref 1)]) (st' := [.ref 1, .int 0, .ref 28]) (by decide +kernel) rfl rfl ?_
  refine ab_fin.q_rA (b := 39) (ix := 71) (ci := 12) (k := 17) (pc' := 9) (by decide +kernel) rfl (c_rA (F.s t0_1) rfl (rC_12_17 F t0_1)) rfl ?_
  refine ab_fin.s1i (i := .iconst 0) (k := 1) (pc' := 10) (n := 0) (by decide +kernel) rfl (by decide +kernel) rfl ?_
  refine ab_fin.s1i (i := .iconst 3) (k := 1) (pc' := 11) (n := 3) (by decide +kernel) rfl (by decide +kernel) rfl ?_
  refine ab_fin.cpy (i := .invokestatic 121) (k := 3) (pc' := 14) (h1 := conc (σ.cpI 28 ((0 : Int32).toNatClampNeg) 39 ((0 : Int32).toNatClampNeg) ((3 : Int32).toNatClampNeg))) (st' := []) (by decide +kernel) (ab_cpT rfl (c_cpI (F.s t0_28) (F.s t0_39) (show cpb (0 : Int32) (0 : Int32) (3 : Int32) 4 5 by decide +kernel) (by decide))) rfl ?_
  refine ab_fin.s2 (i := .aload_n 0) (k := 1) (pc' := 15) (lv' := [(0, .ref 1)]) (st' := [.ref 1]) (by decide +kernel) rfl rfl ?_
  refine ab_fin.q_rA (b := 39) (ix := 71) (ci := 12) (k := 17) (pc' := 18) (by decide +kernel) rfl (c_rA (F.s t0_1) rfl (rC_12_17 F t0_1)) rfl ?_
  refine ab_fin.s1i (i := .iconst 3) (k := 1) (pc' := 19) (n := 3) (by decide +kernel) rfl (by decide +kernel) rfl ?_
  refine ab_fin.s2 (i := .aload_n 0) (k := 1) (pc' := 20) (lv' := [(0, .ref 1)]) (st' := [.ref 1, .int 3, .ref 39]) (by decide +kernel) rfl rfl ?_
  refine ab_fin.q_rA (b := 10) (ix := 21) (ci := 12) (k := 1) (pc' := 23) (by decide +kernel) rfl (c_rA (F.s t0_1) rfl (rC_12_1 F t0_1)) rfl ?_
  refine ab_fin.q_rI (x := (σ.i 10 0)) (ix := 115) (ci := 6) (k := 0) (pc' := 26) (by decide +kernel) rfl (c_rI (F.s t0_10) rfl) rfl ?_
  refine ab_fin.q_sI (h1 := conc ((σ.cpI 28 ((0 : Int32).toNatClampNeg) 39 ((0 : Int32).toNatClampNeg) ((3 : Int32).toNatClampNeg)).wi 39 3 (σ.i 10 0))) (pc' := 27) (by decide +kernel) (c_sI' (F.s t0_39) (show ib (3 : Int32) 5 by decide +kernel) (by decide +kernel)) rfl ?_
  refine ab_fin.s2 (i := .aload_n 0) (k := 1) (pc' := 28) (lv' := [(0, .ref 1)]) (st' := [.ref 1]) (by decide +kernel) rfl rfl ?_
  refine ab_fin.q_rA (b := 39) (ix := 71) (ci := 12) (k := 17) (pc' := 31) (by decide +kernel) rfl (c_rA (F.s t0_1) rfl (rC_12_17 F t0_1)) rfl ?_
  refine ab_fin.s1i (i := .iconst 4) (k := 1) (pc' := 32) (n := 4) (by decide +kernel) rfl (by decide +kernel) rfl ?_
  refine ab_fin.s2 (i := .aload_n 0) (k := 1) (pc' := 33) (lv' := [(0, .ref 1)]) (st' := [.ref 1, .int 4, .ref 39]) (by decide +kernel) rfl rfl ?_
  refine ab_fin.q_rA (b := 24) (ix := 28) (ci := 12) (k := 2) (pc' := 36) (by decide +kernel) rfl (c_rA (F.s t0_1) rfl (rC_12_2 F t0_1)) rfl ?_
  refine ab_fin.q_rI (x := (σ.i 24 3)) (ix := 118) (ci := 2) (k := 3) (pc' := 39) (by decide +kernel) rfl (c_rI (F.s t0_24) rfl) rfl ?_
  refine ab_fin.q_sI (h1 := conc (((σ.cpI 28 ((0 : Int32).toNatClampNeg) 39 ((0 : Int32).toNatClampNeg) ((3 : Int32).toNatClampNeg)).wi 39 3 (σ.i 10 0)).wi 39 4 (σ.i 24 3))) (pc' := 40) (by decide +kernel) (c_sI' (F.s t0_39) (show ib (4 : Int32) 5 by decide +kernel) (by decide +kernel)) rfl ?_
  exact ab_fin.q_ret (i := .return_) (k := 1) (v := none) (by decide +kernel) rfl F w
theorem T_X11_goBack_0 {Z : zT} {d : Nat} {σ : Sg}  {K : kS} (F : FX ΦC σ.sh σ.r) (w : K (.inl none) (((σ.cpI 39 ((0 : Int32).toNatClampNeg) 28 ((0 : Int32).toNatClampNeg) ((3 : Int32).toNatClampNeg)).wi 10 0 (σ.i 39 3)).wi 24 3 (σ.i 39 4))) : C_X11_goBack_0 Z (d + 1) σ  K := by
  unfold C_X11_goBack_0
  refine ab_fin.s2 (i := .aload_n 0) (k := 1) (pc' := 1) (lv' := [(0, .ref 1)]) (st' := [.ref 1]) (by decide +kernel) rfl rfl ?_
  refine ab_fin.q_rA (b := 39) (ix := 71) (ci := 12) (k := 17) (pc' := 4) (by decide +kernel) rfl (c_rA (F.s t0_1) rfl (rC_12_17 F t0_1)) rfl ?_
  refine ab_fin.s1i (i := .iconst 0) (k := 1) (pc' := 5) (n := 0) (by decide +kernel) rfl (by decide +kernel) rfl ?_
  refine ab_fin.s2 (i := .aload_n 0) (k := 1) (pc' := 6) (lv' := [(0, .ref 1)]) (st' := [.ref 1, .int 0, .ref 39]) (by decide +kernel) rfl rfl ?_
  refine ab_fin.q_rA (b := 28) (ix := 32) (ci := 12) (k := 3) (pc' := 9) (by decide +kernel) rfl (c_rA (F.s t0_1) rfl (rC_12_3 F t0_1)) rfl ?_
  refine ab_fin.s1i (i := .iconst 0) (k := 1) (pc' := 10) (n := 0) (by decide +kernel) rfl (by decide +kernel) rfl ?_
  refine ab_fin.s1i (i := .iconst 3) (k := 1) (pc' := 11) (n := 3) (by decide +kernel) rfl (by decide +kernel) rfl ?_
  refine ab_fin.cpy (i := .invokestatic 121) (k := 3) (pc' := 14) (h1 := conc (σ.cpI 39 ((0 : Int32).toNatClampNeg) 28 ((0 : Int32).toNatClampNeg) ((3 : Int32).toNatClampNeg))) (st' := []) (by decide +kernel) (ab_cpT rfl (c_cpI (F.s t0_39) (F.s t0_28) (show cpb (0 : Int32) (0 : Int32) (3 : Int32) 5 4 by decide +kernel) (by decide))) rfl ?_
  refine ab_fin.s2 (i := .aload_n 0) (k := 1) (pc' := 15) (lv' := [(0, .ref 1)]) (st' := [.ref 1]) (by decide +kernel) rfl rfl ?_
  refine ab_fin.q_rA (b := 10) (ix := 21) (ci := 12) (k := 1) (pc' := 18) (by decide +kernel) rfl (c_rA (F.s t0_1) rfl (rC_12_1 F t0_1)) rfl ?_
  refine ab_fin.s2 (i := .aload_n 0) (k := 1) (pc' := 19) (lv' := [(0, .ref 1)]) (st' := [.ref 1, .ref 10]) (by decide +kernel) rfl rfl ?_
  refine ab_fin.q_rA (b := 39) (ix := 71) (ci := 12) (k := 17) (pc' := 22) (by decide +kernel) rfl (c_rA (F.s t0_1) rfl (rC_12_17 F t0_1)) rfl ?_
  refine ab_fin.s1i (i := .iconst 3) (k := 1) (pc' := 23) (n := 3) (by decide +kernel) rfl (by decide +kernel) rfl ?_
  refine ab_fin.q_eI (x := (σ.i 39 3)) (pc' := 24) (by decide +kernel) (c_eI' (F.s t0_39) (show ib (3 : Int32) 5 by decide +kernel) (by decide +kernel)) rfl ?_
  refine ab_fin.q_pF (ix := 115) (ci := 6) (k := 0) (h1 := conc ((σ.cpI 39 ((0 : Int32).toNatClampNeg) 28 ((0 : Int32).toNatClampNeg) ((3 : Int32).toNatClampNeg)).wi 10 0 (σ.i 39 3))) (pc' := 27) (by decide +kernel) rfl (c_pI (v := (σ.i 39 3)) (F.s t0_10) rfl) rfl rfl rfl ?_
  refine ab_fin.s2 (i := .aload_n 0) (k := 1) (pc' := 28) (lv' := [(0, .ref 1)]) (st' := [.ref 1]) (by decide +kernel) rfl rfl ?_
  refine ab_fin.q_rA (b := 24) (ix := 28) (ci := 12) (k := 2) (pc' := 31) (by decide +kernel) rfl (c_rA (F.s t0_1) rfl (rC_12_2 F t0_1)) rfl ?_
  refine ab_fin.s2 (i := .aload_n 0) (k := 1) (pc' := 32) (lv' := [(0, .ref 1)]) (st' := [.ref 1, .ref 24]) (by decide +kernel) rfl rfl ?_
  refine ab_fin.q_rA (b := 39) (ix := 71) (ci := 12) (k := 17) (pc' := 35) (by decide +kernel) rfl (c_rA (F.s t0_1) rfl (rC_12_17 F t0_1)) rfl ?_
  refine ab_fin.s1i (i := .iconst 4) (k := 1) (pc' := 36) (n := 4) (by decide +kernel) rfl (by decide +kernel) rfl ?_
  refine ab_fin.q_eI (x := (σ.i 39 4)) (pc' := 37) (by decide +kernel) (c_eI' (F.s t0_39) (show ib (4 : Int32) 5 by decide +kernel) (by decide +kernel)) rfl ?_
  refine ab_fin.q_pF (ix := 118) (ci := 2) (k := 3) (h1 := conc (((σ.cpI 39 ((0 : Int32).toNatClampNeg) 28 ((0 : Int32).toNatClampNeg) ((3 : Int32).toNatClampNeg)).wi 10 0 (σ.i 39 3)).wi 24 3 (σ.i 39 4))) (pc' := 40) (by decide +kernel) rfl (c_pI (v := (σ.i 39 4)) (F.s t0_24) rfl) rfl rfl rfl ?_
  exact ab_fin.q_ret (i := .return_) (k := 1) (v := none) (by decide +kernel) rfl F w
theorem T_X11_takeStock_0 {Z : zT} {d : Nat} {σ : Sg}  {K : kS} (F : FX ΦC σ.sh σ.r) (w : C_X11_takeStock_17 Z (d + 1) ((σ.wi 1 16 ((σ.i 1 16) + (1 : Int32))).wi 1 14 (0 : Int32)) 0 K) : C_X11_takeStock_0 Z (d + 1) σ  K := by
  unfold C_X11_takeStock_0
  refine ab_fin.s2 (i := .aload_n 0) (k := 1) (pc' := 1) (lv' := [(0, .ref 1)]) (st' := [.ref 1]) (by decide +kernel) rfl rfl ?_
  refine ab_fin.s1 (i := .dup) (k := 1) (pc' := 2) (st' := [.ref 1, .ref 1]) (by decide +kernel) rfl rfl ?_
  refine ab_fin.q_rI (x := (σ.i 1 16)) (ix := 67) (ci := 12) (k := 16) (pc' := 5) (by decide +kernel) rfl (c_rI (F.s t0_1) rfl) rfl ?_
  refine ab_fin.s1i (i := .iconst 1) (k := 1) (pc' := 6) (n := 1) (by decide +kernel) rfl (by decide +kernel) rfl ?_
  refine ab_fin.s1 (i := .iadd) (k := 1) (pc' := 7) (st' := [.int ((σ.i 1 16) + (1 : Int32)), .ref 1]) (by decide +kernel) rfl rfl ?_
  refine ab_fin.q_pF (ix := 67) (ci := 12) (k := 16) (h1 := conc (σ.wi 1 16 ((σ.i 1 16) + (1 : Int32)))) (pc' := 10) (by decide +kernel) rfl (c_pI (v := ((σ.i 1 16) + (1 : Int32))) (F.s t0_1) rfl) rfl rfl rfl ?_
  refine ab_fin.s2 (i := .aload_n 0) (k := 1) (pc' := 11) (lv' := [(0, .ref 1)]) (st' := [.ref 1]) (by decide +kernel) rfl rfl ?_
  refine ab_fin.s1i (i := .iconst 0) (k := 1) (pc' := 12) (n := 0) (by decide +kernel) rfl (by decide +kernel) rfl ?_
  refine ab_fin.q_pF (ix := 127) (ci := 12) (k := 14) (h1 := conc ((σ.wi 1 16 ((σ.i 1 16) + (1 : Int32))).wi 1 14 (0 : Int32))) (pc' := 15) (by decide +kernel) rfl (c_pI (v := 0) (F.s t0_1) rfl) rfl rfl rfl ?_
  refine ab_fin.s1i (i := .iconst 0) (k := 1) (pc' := 16) (n := 0) (by decide +kernel) rfl (by decide +kernel) rfl ?_
  refine ab_fin.s2 (i := .istore_n 1) (k := 1) (pc' := 17) (lv' := [(1, .int 0), (0, .ref 1)]) (st' := []) (by decide +kernel) rfl rfl ?_
  exact ab_fin.lv ⟨(List.forall_mem_cons.mpr ⟨(List.Mem.tail _ (List.Mem.head _)), (List.forall_mem_cons.mpr ⟨(List.Mem.head _), (fun _ h => absurd h List.not_mem_nil)⟩)⟩), (show ([1, 0] : List Nat).Nodup from by decide)⟩ w
theorem T_X11_takeStock_17 {Z : zT} {d : Nat} {σ : Sg} {l1 : Int32} {K : kS} (F : FX ΦC σ.sh σ.r) (w : ((σ.i 28 0) ≤ l1 → C_J7_fill_d0a16_0 Z d σ 34 0 (yN K fun τ1 => C_J7_fill_d0a16_0 Z d τ1 35 0 (yN K fun τ3 => C_J7_fill_d0a16_0 Z d τ3 36 0 (yN K fun τ5 => C_J7_fill_d0a16_0 Z d τ5 37 0 (yN K fun τ7 => C_X11_takeStock_99 Z (d + 1) τ7 1 K))))) ∧ (¬ (σ.i 28 0) ≤ l1 → ib l1 24 ∧ ((¬ (σ.i 3 l1.toNatClampNeg) = 0 → C_X11_takeStock_17 Z (d + 1) σ (l1 + 1) K) ∧ ((σ.i 3 l1.toNatClampNeg) = 0 → ib (σ.i 1 14) 24 ∧ (C_X11_takeStock_17 Z (d + 1) ((σ.wi 38 ((σ.i 1 14).toNatClampNeg) l1).wi 1 14 ((σ.i 1 14) + (1 : Int32))) (l1 + 1) K))))) : C_X11_takeStock_17 Z (d + 1) σ l1 K := by
  unfold C_X11_takeStock_17
  refine ab_fin.s2 (i := .iload_n 1) (k := 1) (pc' := 18) (lv' := [(0, .ref 1), (1, .int l1)]) (st' := [.int l1]) (by decide +kernel) rfl rfl ?_
  refine ab_fin.s2 (i := .aload_n 0) (k := 1) (pc' := 19) (lv' := [(0, .ref 1), (1, .int l1)]) (st' := [.ref 1, .int l1]) (by decide +kernel) rfl rfl ?_
  refine ab_fin.q_rA (b := 28) (ix := 32) (ci := 12) (k := 3) (pc' := 22) (by decide +kernel) rfl (c_rA (F.s t0_1) rfl (rC_12_3 F t0_1)) rfl ?_
  refine ab_fin.s1i (i := .iconst 0) (k := 1) (pc' := 23) (n := 0) (by decide +kernel) rfl (by decide +kernel) rfl ?_
  refine ab_fin.q_eI (x := (σ.i 28 0)) (pc' := 24) (by decide +kernel) (c_eI' (F.s t0_28) (show ib (0 : Int32) 4 by decide +kernel) (by decide +kernel)) rfl ?_
  refine ab_fin.br (c := (σ.i 28 0) ≤ l1) (i := .if_icmp .ge 41) (off := 41) (t := 65) (pc' := 27) (r := []) (by decide +kernel) rfl (by decide +kernel) rfl (fun q => ?_) (fun q => ?_)
  · replace w := w.1 q
    refine ab_fin.s2 (i := .aload_n 0) (k := 1) (pc' := 66) (lv' := [(0, .ref 1), (1, .int l1)]) (st' := [.ref 1]) (by decide +kernel) rfl rfl ?_
    refine ab_fin.q_rA (b := 34) (ix := 52) (ci := 12) (k := 9) (pc' := 69) (by decide +kernel) rfl (c_rA (F.s t0_1) rfl (rC_12_9 F t0_1)) rfl ?_
    refine ab_fin.s1l (i := .lconst 0) (k := 1) (pc' := 70) (n := 0) (by decide +kernel) rfl (by decide +kernel) rfl ?_
    refine ab_fin.q_yN (i := .invokestatic 134) (k := 3) (y := 11264) (As := [.ref 34, .long 0]) (rest := []) (M' := (mJ7_fill_d0a16, [])) (lv2 := [(0, .ref 34), (1, .long 0)]) (pc' := 73) (X := K) (by decide +kernel) (ab_cs rfl rfl ⟨(Nat.le_of_ble_eq_true rfl), (Nat.le_of_ble_eq_true rfl)⟩ rfl) rfl (Nat.le_of_ble_eq_true rfl) rfl rfl (hY_no fun E => rfl) w (fun τ1 F2 w => ?_)
    refine ab_fin.s2 (i := .aload_n 0) (k := 1) (pc' := 74) (lv' := [(0, .ref 1), (1, .int l1)]) (st' := [.ref 1]) (by decide +kernel) rfl rfl ?_
    refine ab_fin.q_rA (b := 35) (ix := 55) (ci := 12) (k := 10) (pc' := 77) (by decide +kernel) rfl (c_rA (F2.s t0_1) rfl (rC_12_10 F2 t0_1)) rfl ?_
    refine ab_fin.s1l (i := .lconst 0) (k := 1) (pc' := 78) (n := 0) (by decide +kernel) rfl (by decide +kernel) rfl ?_
    refine ab_fin.q_yN (i := .invokestatic 134) (k := 3) (y := 11264) (As := [.ref 35, .long 0]) (rest := []) (M' := (mJ7_fill_d0a16, [])) (lv2 := [(0, .ref 35), (1, .long 0)]) (pc' := 81) (X := K) (by decide +kernel) (ab_cs rfl rfl ⟨(Nat.le_of_ble_eq_true rfl), (Nat.le_of_ble_eq_true rfl)⟩ rfl) rfl (Nat.le_of_ble_eq_true rfl) rfl rfl (hY_no fun E => rfl) w (fun τ3 F4 w => ?_)
    refine ab_fin.s2 (i := .aload_n 0) (k := 1) (pc' := 82) (lv' := [(0, .ref 1), (1, .int l1)]) (st' := [.ref 1]) (by decide +kernel) rfl rfl ?_
    refine ab_fin.q_rA (b := 36) (ix := 58) (ci := 12) (k := 11) (pc' := 85) (by decide +kernel) rfl (c_rA (F4.s t0_1) rfl (rC_12_11 F4 t0_1)) rfl ?_
    refine ab_fin.s1l (i := .lconst 0) (k := 1) (pc' := 86) (n := 0) (by decide +kernel) rfl (by decide +kernel) rfl ?_
    refine ab_fin.q_yN (i := .invokestatic 134) (k := 3) (y := 11264) (As := [.ref 36, .long 0]) (rest := []) (M' := (mJ7_fill_d0a16, [])) (lv2 := [(0, .ref 36), (1, .long 0)]) (pc' := 89) (X := K) (by decide +kernel) (ab_cs rfl rfl ⟨(Nat.le_of_ble_eq_true rfl), (Nat.le_of_ble_eq_true rfl)⟩ rfl) rfl (Nat.le_of_ble_eq_true rfl) rfl rfl (hY_no fun E => rfl) w (fun τ5 F6 w => ?_)
    refine ab_fin.s2 (i := .aload_n 0) (k := 1) (pc' := 90) (lv' := [(0, .ref 1), (1, .int l1)]) (st' := [.ref 1]) (by decide +kernel) rfl rfl ?_
    refine ab_fin.q_rA (b := 37) (ix := 61) (ci := 12) (k := 12) (pc' := 93) (by decide +kernel) rfl (c_rA (F6.s t0_1) rfl (rC_12_12 F6 t0_1)) rfl ?_
    refine ab_fin.s1l (i := .lconst 0) (k := 1) (pc' := 94) (n := 0) (by decide +kernel) rfl (by decide +kernel) rfl ?_
    refine ab_fin.q_yN (i := .invokestatic 134) (k := 3) (y := 11264) (As := [.ref 37, .long 0]) (rest := []) (M' := (mJ7_fill_d0a16, [])) (lv2 := [(0, .ref 37), (1, .long 0)]) (pc' := 97) (X := K) (by decide +kernel) (ab_cs rfl rfl ⟨(Nat.le_of_ble_eq_true rfl), (Nat.le_of_ble_eq_true rfl)⟩ rfl) rfl (Nat.le_of_ble_eq_true rfl) rfl rfl (hY_no fun E => rfl) w (fun τ7 F8 w => ?_)
    refine ab_fin.s1i (i := .iconst 1) (k := 1) (pc' := 98) (n := 1) (by decide +kernel) rfl (by decide +kernel) rfl ?_
    refine ab_fin.s2 (i := .istore_n 1) (k := 1) (pc' := 99) (lv' := [(1, .int 1), (0, .ref 1)]) (st' := []) (by decide +kernel) rfl rfl ?_
    exact ab_fin.lv ⟨(List.forall_mem_cons.mpr ⟨(List.Mem.tail _ (List.Mem.head _)), (List.forall_mem_cons.mpr ⟨(List.Mem.head _), (fun _ h => absurd h List.not_mem_nil)⟩)⟩), (show ([1, 0] : List Nat).Nodup from by decide)⟩ w
  · replace w := w.2 q
    refine ab_fin.s2 (i := .aload_n 0) (k := 1) (pc' := 28) (lv' := [(0, .ref 1), (1, .int l1)]) (st' := [.ref 1]) (by decide +kernel) rfl rfl ?_
    refine ab_fin.q_rA (b := 2) (ix := 12) (ci := 12) (k := 0) (pc' := 31) (by decide +kernel) rfl (c_rA (F.s t0_1) rfl (rC_12_0 F t0_1)) rfl ?_
    refine ab_fin.q_rA (b := 3) (ix := 130) (ci := 3) (k := 0) (pc' := 34) (by decide +kernel) rfl (c_rA (F.s t0_2) rfl (rC_3_0 F t0_2)) rfl ?_
    refine ab_fin.s2 (i := .iload_n 1) (k := 1) (pc' := 35) (lv' := [(0, .ref 1), (1, .int l1)]) (st' := [.int l1, .ref 3]) (by decide +kernel) rfl rfl ?_
    obtain ⟨e9, w⟩ := w
    refine ab_fin.q_eB (x := (σ.i 3 l1.toNatClampNeg)) (pc' := 36) (by decide +kernel) (c_eB3' (F.s t0_3) e9 rfl) rfl ?_
    refine ab_fin.br (c := ¬ (σ.i 3 l1.toNatClampNeg) = 0) (i := .ifCond .ne 23) (off := 23) (t := 59) (pc' := 39) (r := []) (by decide +kernel) rfl (by decide +kernel) rfl (fun q => ?_) (fun q => ?_)
    · replace w := w.1 q
      refine ab_fin.q_inc (n := 1) (c := 1) (pc' := 62) (lv' := [(1, .int (l1 + 1)), (0, .ref 1)]) (by decide +kernel) (by decide) rfl rfl rfl rfl ?_
      refine ab_fin.s3 (i := .goto (-45)) (k := 3) (t := 17) (st' := []) (by decide +kernel) (ab_gto (by decide +kernel)) ?_
      exact ab_fin.lv ⟨(List.forall_mem_cons.mpr ⟨(List.Mem.tail _ (List.Mem.head _)), (List.forall_mem_cons.mpr ⟨(List.Mem.head _), (fun _ h => absurd h List.not_mem_nil)⟩)⟩), (show ([1, 0] : List Nat).Nodup from by decide)⟩ w
    · replace w := w.2 (Decidable.of_not_not q)
      refine ab_fin.s2 (i := .aload_n 0) (k := 1) (pc' := 40) (lv' := [(0, .ref 1), (1, .int l1)]) (st' := [.ref 1]) (by decide +kernel) rfl rfl ?_
      refine ab_fin.q_rA (b := 38) (ix := 64) (ci := 12) (k := 13) (pc' := 43) (by decide +kernel) rfl (c_rA (F.s t0_1) rfl (rC_12_13 F t0_1)) rfl ?_
      refine ab_fin.s2 (i := .aload_n 0) (k := 1) (pc' := 44) (lv' := [(0, .ref 1), (1, .int l1)]) (st' := [.ref 1, .ref 38]) (by decide +kernel) rfl rfl ?_
      refine ab_fin.q_rI (x := (σ.i 1 14)) (ix := 127) (ci := 12) (k := 14) (pc' := 47) (by decide +kernel) rfl (c_rI (F.s t0_1) rfl) rfl ?_
      refine ab_fin.s2 (i := .iload_n 1) (k := 1) (pc' := 48) (lv' := [(0, .ref 1), (1, .int l1)]) (st' := [.int l1, .int (σ.i 1 14), .ref 38]) (by decide +kernel) rfl rfl ?_
      obtain ⟨e10, w⟩ := w
      refine ab_fin.q_sI (h1 := conc (σ.wi 38 ((σ.i 1 14).toNatClampNeg) l1)) (pc' := 49) (by decide +kernel) (c_sI' (F.s t0_38) e10 rfl) rfl ?_
      refine ab_fin.s2 (i := .aload_n 0) (k := 1) (pc' := 50) (lv' := [(0, .ref 1), (1, .int l1)]) (st' := [.ref 1]) (by decide +kernel) rfl rfl ?_
      refine ab_fin.s1 (i := .dup) (k := 1) (pc' := 51) (st' := [.ref 1, .ref 1]) (by decide +kernel) rfl rfl ?_
      refine ab_fin.q_rI (x := (σ.i 1 14)) (ix := 127) (ci := 12) (k := 14) (pc' := 54) (by decide +kernel) rfl (c_rI (F.s t0_1) rfl) rfl ?_
      refine ab_fin.s1i (i := .iconst 1) (k := 1) (pc' := 55) (n := 1) (by decide +kernel) rfl (by decide +kernel) rfl ?_
      refine ab_fin.s1 (i := .iadd) (k := 1) (pc' := 56) (st' := [.int ((σ.i 1 14) + (1 : Int32)), .ref 1]) (by decide +kernel) rfl rfl ?_
      refine ab_fin.q_pF (ix := 127) (ci := 12) (k := 14) (h1 := conc ((σ.wi 38 ((σ.i 1 14).toNatClampNeg) l1).wi 1 14 ((σ.i 1 14) + (1 : Int32)))) (pc' := 59) (by decide +kernel) rfl (c_pI (v := ((σ.i 1 14) + (1 : Int32))) (F.s t0_1) rfl) rfl rfl rfl ?_
      refine ab_fin.q_inc (n := 1) (c := 1) (pc' := 62) (lv' := [(1, .int (l1 + 1)), (0, .ref 1)]) (by decide +kernel) (by decide) rfl rfl rfl rfl ?_
      refine ab_fin.s3 (i := .goto (-45)) (k := 3) (t := 17) (st' := []) (by decide +kernel) (ab_gto (by decide +kernel)) ?_
      exact ab_fin.lv ⟨(List.forall_mem_cons.mpr ⟨(List.Mem.tail _ (List.Mem.head _)), (List.forall_mem_cons.mpr ⟨(List.Mem.head _), (fun _ h => absurd h List.not_mem_nil)⟩)⟩), (show ([1, 0] : List Nat).Nodup from by decide)⟩ w
theorem T_X11_takeStock_99 {Z : zT} {d : Nat} {σ : Sg} {l1 : Int32} {K : kS} (F : FX ΦC σ.sh σ.r) (w : ((σ.i 10 0) < l1 → K (.inl none) σ) ∧ (¬ (σ.i 10 0) < l1 → C_X5_isThere_0 Z d σ l1 (yI K fun v3 τ1 => (v3 = 0 → C_X11_takeStock_99 Z (d + 1) τ1 (l1 + 1) K) ∧ (¬ v3 = 0 → C_X11_takeStockOf_0 Z d τ1 l1 (yN K fun τ4 => C_X11_takeStock_99 Z (d + 1) τ4 (l1 + 1) K))))) : C_X11_takeStock_99 Z (d + 1) σ l1 K := by
  unfold C_X11_takeStock_99
  refine ab_fin.s2 (i := .iload_n 1) (k := 1) (pc' := 100) (lv' := [(0, .ref 1), (1, .int l1)]) (st' := [.int l1]) (by decide +kernel) rfl rfl ?_
  refine ab_fin.s2 (i := .aload_n 0) (k := 1) (pc' := 101) (lv' := [(0, .ref 1), (1, .int l1)]) (st' := [.ref 1, .int l1]) (by decide +kernel) rfl rfl ?_
  refine ab_fin.q_rA (b := 10) (ix := 21) (ci := 12) (k := 1) (pc' := 104) (by decide +kernel) rfl (c_rA (F.s t0_1) rfl (rC_12_1 F t0_1)) rfl ?_
  refine ab_fin.q_rI (x := (σ.i 10 0)) (ix := 115) (ci := 6) (k := 0) (pc' := 107) (by decide +kernel) rfl (c_rI (F.s t0_10) rfl) rfl ?_
  refine ab_fin.br (c := (σ.i 10 0) < l1) (i := .if_icmp .gt 25) (off := 25) (t := 132) (pc' := 110) (r := []) (by decide +kernel) rfl (by decide +kernel) rfl (fun q => ?_) (fun q => ?_)
  · replace w := w.1 q
    exact ab_fin.q_ret (i := .return_) (k := 1) (v := none) (by decide +kernel) rfl F w
  · replace w := w.2 q
    refine ab_fin.s2 (i := .aload_n 0) (k := 1) (pc' := 111) (lv' := [(0, .ref 1), (1, .int l1)]) (st' := [.ref 1]) (by decide +kernel) rfl rfl ?_
    refine ab_fin.q_rA (b := 10) (ix := 21) (ci := 12) (k := 1) (pc' := 114) (by decide +kernel) rfl (c_rA (F.s t0_1) rfl (rC_12_1 F t0_1)) rfl ?_
    refine ab_fin.s2 (i := .iload_n 1) (k := 1) (pc' := 115) (lv' := [(0, .ref 1), (1, .int l1)]) (st' := [.int l1, .ref 10]) (by decide +kernel) rfl rfl ?_
    refine ab_fin.q_yI (i := .invokevirtual 140) (k := 3) (y := 1281) (As := [.ref 10, .int l1]) (rest := []) (M' := (mX5_isThere, [])) (lv2 := [(0, .ref 10), (1, .int l1)]) (pc' := 118) (X := K) (by decide +kernel) (ab_cv rfl rfl (conc_get (σ := σ) (F.s t0_10)) ⟨(Nat.le_of_ble_eq_true rfl), (Nat.le_of_ble_eq_true rfl)⟩ rfl) rfl (Nat.le_of_ble_eq_true rfl) rfl rfl (hY_no fun E => rfl) w (fun v3 τ1 F2 w => ?_)
    refine ab_fin.br (c := v3 = 0) (i := .ifCond .eq 8) (off := 8) (t := 126) (pc' := 121) (r := []) (by decide +kernel) rfl (by decide +kernel) rfl (fun q => ?_) (fun q => ?_)
    · replace w := w.1 q
      refine ab_fin.q_inc (n := 1) (c := 1) (pc' := 129) (lv' := [(1, .int (l1 + 1)), (0, .ref 1)]) (by decide +kernel) (by decide) rfl rfl rfl rfl ?_
      refine ab_fin.s3 (i := .goto (-30)) (k := 3) (t := 99) (st' := []) (by decide +kernel) (ab_gto (by decide +kernel)) ?_
      exact ab_fin.lv ⟨(List.forall_mem_cons.mpr ⟨(List.Mem.tail _ (List.Mem.head _)), (List.forall_mem_cons.mpr ⟨(List.Mem.head _), (fun _ h => absurd h List.not_mem_nil)⟩)⟩), (show ([1, 0] : List Nat).Nodup from by decide)⟩ w
    · replace w := w.2 q
      refine ab_fin.s2 (i := .aload_n 0) (k := 1) (pc' := 122) (lv' := [(0, .ref 1), (1, .int l1)]) (st' := [.ref 1]) (by decide +kernel) rfl rfl ?_
      refine ab_fin.s2 (i := .iload_n 1) (k := 1) (pc' := 123) (lv' := [(0, .ref 1), (1, .int l1)]) (st' := [.int l1, .ref 1]) (by decide +kernel) rfl rfl ?_
      refine ab_fin.q_yN (i := .invokevirtual 143) (k := 3) (y := 2826) (As := [.ref 1, .int l1]) (rest := []) (M' := (mX11_takeStockOf, [])) (lv2 := [(0, .ref 1), (1, .int l1)]) (pc' := 126) (X := K) (by decide +kernel) (ab_cv rfl rfl (conc_get (σ := τ1) (F2.s t0_1)) ⟨(Nat.le_of_ble_eq_true rfl), (Nat.le_of_ble_eq_true rfl)⟩ rfl) rfl (Nat.le_of_ble_eq_true rfl) rfl rfl (hY_no fun E => rfl) w (fun τ4 F5 w => ?_)
      refine ab_fin.q_inc (n := 1) (c := 1) (pc' := 129) (lv' := [(1, .int (l1 + 1)), (0, .ref 1)]) (by decide +kernel) (by decide) rfl rfl rfl rfl ?_
      refine ab_fin.s3 (i := .goto (-30)) (k := 3) (t := 99) (st' := []) (by decide +kernel) (ab_gto (by decide +kernel)) ?_
      exact ab_fin.lv ⟨(List.forall_mem_cons.mpr ⟨(List.Mem.tail _ (List.Mem.head _)), (List.forall_mem_cons.mpr ⟨(List.Mem.head _), (fun _ h => absurd h List.not_mem_nil)⟩)⟩), (show ([1, 0] : List Nat).Nodup from by decide)⟩ w
theorem T_X11_takeStockOf_0 {Z : zT} {d : Nat} {σ : Sg} {l1 : Int32} {K : kS} (F : FX ΦC σ.sh σ.r) (w : (64 < l1 → C_X11_takeStockOf_15 Z (d + 1) σ l1 0 K) ∧ (¬ 64 < l1 → C_X11_takeStockOf_15 Z (d + 1) σ l1 ((1 : Int64) <<< (Int32.toInt64 (l1 - (1 : Int32)) &&& 63)) K)) : C_X11_takeStockOf_0 Z (d + 1) σ l1 K := by
  unfold C_X11_takeStockOf_0
  refine ab_fin.s2 (i := .iload_n 1) (k := 1) (pc' := 1) (lv' := [(0, .ref 1), (1, .int l1)]) (st' := [.int l1]) (by decide +kernel) rfl rfl ?_
  refine ab_fin.s1i (i := .bipush 64) (k := 2) (pc' := 3) (n := 64) (by decide +kernel) rfl (by decide +kernel) rfl ?_
  refine ab_fin.br (c := 64 < l1) (i := .if_icmp .gt 11) (off := 11) (t := 14) (pc' := 6) (r := []) (by decide +kernel) rfl (by decide +kernel) rfl (fun q => ?_) (fun q => ?_)
  · replace w := w.1 q
    refine ab_fin.s1l (i := .lconst 0) (k := 1) (pc' := 15) (n := 0) (by decide +kernel) rfl (by decide +kernel) rfl ?_
    exact ab_fin.lv ⟨(List.forall_mem_cons.mpr ⟨(List.Mem.head _), (List.forall_mem_cons.mpr ⟨(List.Mem.tail _ (List.Mem.head _)), (fun _ h => absurd h List.not_mem_nil)⟩)⟩), (show ([0, 1] : List Nat).Nodup from by decide)⟩ w
  · replace w := w.2 q
    refine ab_fin.s1l (i := .lconst 1) (k := 1) (pc' := 7) (n := 1) (by decide +kernel) rfl (by decide +kernel) rfl ?_
    refine ab_fin.s2 (i := .iload_n 1) (k := 1) (pc' := 8) (lv' := [(0, .ref 1), (1, .int l1)]) (st' := [.int l1, .long 1]) (by decide +kernel) rfl rfl ?_
    refine ab_fin.s1i (i := .iconst 1) (k := 1) (pc' := 9) (n := 1) (by decide +kernel) rfl (by decide +kernel) rfl ?_
    refine ab_fin.s1 (i := .isub) (k := 1) (pc' := 10) (st' := [.int (l1 - (1 : Int32)), .long 1]) (by decide +kernel) rfl rfl ?_
    refine ab_fin.s1 (i := .lshl) (k := 1) (pc' := 11) (st' := [.long ((1 : Int64) <<< (Int32.toInt64 (l1 - (1 : Int32)) &&& 63))]) (by decide +kernel) rfl rfl ?_
    refine ab_fin.s3 (i := .goto 4) (k := 3) (t := 15) (st' := [.long ((1 : Int64) <<< (Int32.toInt64 (l1 - (1 : Int32)) &&& 63))]) (by decide +kernel) (ab_gto (by decide +kernel)) ?_
    exact ab_fin.lv ⟨(List.forall_mem_cons.mpr ⟨(List.Mem.head _), (List.forall_mem_cons.mpr ⟨(List.Mem.tail _ (List.Mem.head _)), (fun _ h => absurd h List.not_mem_nil)⟩)⟩), (show ([0, 1] : List Nat).Nodup from by decide)⟩ w
theorem T_X11_takeStockOf_15 {Z : zT} {d : Nat} {σ : Sg} {l1 : Int32} {s0 : Int64} {K : kS} (F : FX ΦC σ.sh σ.r) (w : (64 < l1 → C_X11_takeStockOf_32 Z (d + 1) σ l1 s0 ((1 : Int64) <<< (Int32.toInt64 (l1 - (65 : Int32)) &&& 63)) K) ∧ (¬ 64 < l1 → C_X11_takeStockOf_32 Z (d + 1) σ l1 s0 0 K)) : C_X11_takeStockOf_15 Z (d + 1) σ l1 s0 K := by
  unfold C_X11_takeStockOf_15
  refine ab_fin.s2 (i := .lstore_n 2) (k := 1) (pc' := 16) (lv' := [(2, .long s0), (0, .ref 1), (1, .int l1)]) (st' := []) (by decide +kernel) rfl rfl ?_
  refine ab_fin.s2 (i := .iload_n 1) (k := 1) (pc' := 17) (lv' := [(2, .long s0), (0, .ref 1), (1, .int l1)]) (st' := [.int l1]) (by decide +kernel) rfl rfl ?_
  refine ab_fin.s1i (i := .bipush 64) (k := 2) (pc' := 19) (n := 64) (by decide +kernel) rfl (by decide +kernel) rfl ?_
  refine ab_fin.br (c := 64 < l1) (i := .if_icmp .gt 7) (off := 7) (t := 26) (pc' := 22) (r := []) (by decide +kernel) rfl (by decide +kernel) rfl (fun q => ?_) (fun q => ?_)
  · replace w := w.1 q
    refine ab_fin.s1l (i := .lconst 1) (k := 1) (pc' := 27) (n := 1) (by decide +kernel) rfl (by decide +kernel) rfl ?_
    refine ab_fin.s2 (i := .iload_n 1) (k := 1) (pc' := 28) (lv' := [(2, .long s0), (0, .ref 1), (1, .int l1)]) (st' := [.int l1, .long 1]) (by decide +kernel) rfl rfl ?_
    refine ab_fin.s1i (i := .bipush 65) (k := 2) (pc' := 30) (n := 65) (by decide +kernel) rfl (by decide +kernel) rfl ?_
    refine ab_fin.s1 (i := .isub) (k := 1) (pc' := 31) (st' := [.int (l1 - (65 : Int32)), .long 1]) (by decide +kernel) rfl rfl ?_
    refine ab_fin.s1 (i := .lshl) (k := 1) (pc' := 32) (st' := [.long ((1 : Int64) <<< (Int32.toInt64 (l1 - (65 : Int32)) &&& 63))]) (by decide +kernel) rfl rfl ?_
    exact ab_fin.lv ⟨(List.forall_mem_cons.mpr ⟨(List.Mem.tail _ (List.Mem.head _)), (List.forall_mem_cons.mpr ⟨(List.Mem.tail _ (List.Mem.tail _ (List.Mem.head _))), (List.forall_mem_cons.mpr ⟨(List.Mem.head _), (fun _ h => absurd h List.not_mem_nil)⟩)⟩)⟩), (show ([2, 0, 1] : List Nat).Nodup from by decide)⟩ w
  · replace w := w.2 q
    refine ab_fin.s1l (i := .lconst 0) (k := 1) (pc' := 23) (n := 0) (by decide +kernel) rfl (by decide +kernel) rfl ?_
    refine ab_fin.s3 (i := .goto 9) (k := 3) (t := 32) (st' := [.long 0]) (by decide +kernel) (ab_gto (by decide +kernel)) ?_
    exact ab_fin.lv ⟨(List.forall_mem_cons.mpr ⟨(List.Mem.tail _ (List.Mem.head _)), (List.forall_mem_cons.mpr ⟨(List.Mem.tail _ (List.Mem.tail _ (List.Mem.head _))), (List.forall_mem_cons.mpr ⟨(List.Mem.head _), (fun _ h => absurd h List.not_mem_nil)⟩)⟩)⟩), (show ([2, 0, 1] : List Nat).Nodup from by decide)⟩ w

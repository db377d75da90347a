/-! THE REFERENCE, PIECE BY PIECE (printed by sgen.py), 1 -/
theorem S_X17_place_0 {Z : zT} {d : Nat} {σ : Sg} {l0 : Nat} {l1 : Int32} {l2 : Int32} {K : kS} (F : FX ΦR σ.sh σ.r) (p_l0 : sh0R[l0]? = some (Sh.obj 18)) (w : B_X17_place_2 Z (d + 1) σ l0 l1 l2 0 K) : B_X17_place_0 Z (d + 1) σ l0 l1 l2 K := by
  unfold B_X17_place_0
  refine ab_fin.s1i (i := .iconst 0) (k := 1) (pc' := 1) (n := 0) (by decide +kernel) rfl (by decide +kernel) rfl ?_
  refine ab_fin.s2 (i := .istore_n 3) (k := 1) (pc' := 2) (lv' := [(3, .int 0), (0, .ref l0), (1, .int l1), (2, .int l2)]) (st' := []) (by decide +kernel) rfl rfl ?_
  exact ab_fin.lv ⟨(List.forall_mem_cons.mpr ⟨(List.Mem.tail _ (List.Mem.head _)), (List.forall_mem_cons.mpr ⟨(List.Mem.tail _ (List.Mem.tail _ (List.Mem.head _))), (List.forall_mem_cons.mpr ⟨(List.Mem.tail _ (List.Mem.tail _ (List.Mem.tail _ (List.Mem.head _)))), (List.forall_mem_cons.mpr ⟨(List.Mem.head _), (fun _ h => absurd h List.not_mem_nil)⟩)⟩)⟩)⟩), (show ([3, 0, 1, 2] : List Nat).Nodup from by decide)⟩ w
theorem S_X17_place_2 {Z : zT} {d : Nat} {σ : Sg} {l0 : Nat} {l1 : Int32} {l2 : Int32} {l3 : Int32} {K : kS} (F : FX ΦR σ.sh σ.r) (p_l0 : sh0R[l0]? = some (Sh.obj 18)) (w : ib l1 3 ∧ (((σ.i (l0 + 8) l1.toNatClampNeg) ≤ l3 → K (.inl (some (.int (-1)))) σ) ∧ (¬ (σ.i (l0 + 8) l1.toNatClampNeg) ≤ l3 → ib l1 3 ∧ (ib l3 24 ∧ ((¬ (σ.i (l0 + 4 + 1 + l1.toNatClampNeg) l3.toNatClampNeg) = l2 → B_X17_place_2 Z (d + 1) σ l0 l1 l2 (l3 + 1) K) ∧ ((σ.i (l0 + 4 + 1 + l1.toNatClampNeg) l3.toNatClampNeg) = l2 → K (.inl (some (.int l3))) σ)))))) : B_X17_place_2 Z (d + 1) σ l0 l1 l2 l3 K := by
  unfold B_X17_place_2
  refine ab_fin.s2 (i := .iload_n 3) (k := 1) (pc' := 3) (lv' := [(0, .ref l0), (1, .int l1), (2, .int l2), (3, .int l3)]) (st' := [.int l3]) (by decide +kernel) rfl rfl ?_
  refine ab_fin.s2 (i := .aload_n 0) (k := 1) (pc' := 4) (lv' := [(0, .ref l0), (1, .int l1), (2, .int l2), (3, .int l3)]) (st' := [.ref l0, .int l3]) (by decide +kernel) rfl rfl ?_
  refine ab_fin.q_rA (b := (l0 + 8)) (ix := 27) (ci := 18) (k := 5) (pc' := 7) (by decide +kernel) rfl (c_rA (F.s p_l0) rfl (rO_18_5 F p_l0)) rfl ?_
  refine ab_fin.s2 (i := .iload_n 1) (k := 1) (pc' := 8) (lv' := [(0, .ref l0), (1, .int l1), (2, .int l2), (3, .int l3)]) (st' := [.int l1, .ref (l0 + 8), .int l3]) (by decide +kernel) rfl rfl ?_
  obtain ⟨e1, w⟩ := w
  refine ab_fin.q_eI (x := (σ.i (l0 + 8) l1.toNatClampNeg)) (pc' := 9) (by decide +kernel) (c_eI' (F.s (kF_18_8 p_l0)) e1 rfl) rfl ?_
  refine ab_fin.br (c := (σ.i (l0 + 8) l1.toNatClampNeg) ≤ l3) (i := .if_icmp .ge 23) (off := 23) (t := 32) (pc' := 12) (r := []) (by decide +kernel) rfl (by decide +kernel) rfl (fun q => ?_) (fun q => ?_)
  · replace w := w.1 q
    refine ab_fin.s1i (i := .iconst (-1)) (k := 1) (pc' := 33) (n := (-1)) (by decide +kernel) rfl (by decide +kernel) rfl ?_
    exact ab_fin.q_ret (i := .ireturn) (k := 1) (v := some (.int (-1))) (by decide +kernel) rfl F w
  · replace w := w.2 q
    refine ab_fin.s2 (i := .aload_n 0) (k := 1) (pc' := 13) (lv' := [(0, .ref l0), (1, .int l1), (2, .int l2), (3, .int l3)]) (st' := [.ref l0]) (by decide +kernel) rfl rfl ?_
    refine ab_fin.q_rA (b := (l0 + 4)) (ix := 24) (ci := 18) (k := 4) (pc' := 16) (by decide +kernel) rfl (c_rA (F.s p_l0) rfl (rO_18_4 F p_l0)) rfl ?_
    refine ab_fin.s2 (i := .iload_n 1) (k := 1) (pc' := 17) (lv' := [(0, .ref l0), (1, .int l1), (2, .int l2), (3, .int l3)]) (st' := [.int l1, .ref (l0 + 4)]) (by decide +kernel) rfl rfl ?_
    obtain ⟨e2, w⟩ := w
    refine ab_fin.q_eA (b := (l0 + 4 + 1 + l1.toNatClampNeg)) (pc' := 18) (by decide +kernel) (c_eA' (F.s (kF_18_4 p_l0)) (by decide) rfl e2 rfl (rE_8 F (kF_18_4 p_l0))) rfl ?_
    refine ab_fin.s2 (i := .iload_n 3) (k := 1) (pc' := 19) (lv' := [(0, .ref l0), (1, .int l1), (2, .int l2), (3, .int l3)]) (st' := [.int l3, .ref (l0 + 4 + 1 + l1.toNatClampNeg)]) (by decide +kernel) rfl rfl ?_
    obtain ⟨e3, w⟩ := w
    refine ab_fin.q_eI (x := (σ.i (l0 + 4 + 1 + l1.toNatClampNeg) l3.toNatClampNeg)) (pc' := 20) (by decide +kernel) (c_eI' (F.s (kE_18_4 p_l0 e2.2)) e3 rfl) rfl ?_
    refine ab_fin.s2 (i := .iload_n 2) (k := 1) (pc' := 21) (lv' := [(0, .ref l0), (1, .int l1), (2, .int l2), (3, .int l3)]) (st' := [.int l2, .int (σ.i (l0 + 4 + 1 + l1.toNatClampNeg) l3.toNatClampNeg)]) (by decide +kernel) rfl rfl ?_
    refine ab_fin.br (c := ¬ (σ.i (l0 + 4 + 1 + l1.toNatClampNeg) l3.toNatClampNeg) = l2) (i := .if_icmp .ne 5) (off := 5) (t := 26) (pc' := 24) (r := []) (by decide +kernel) rfl (by decide +kernel) rfl (fun q => ?_) (fun q => ?_)
    · replace w := w.1 q
      refine ab_fin.q_inc (n := 3) (c := 1) (pc' := 29) (lv' := [(3, .int (l3 + 1)), (0, .ref l0), (1, .int l1), (2, .int l2)]) (by decide +kernel) (by decide) rfl rfl rfl rfl ?_
      refine ab_fin.s3 (i := .goto (-27)) (k := 3) (t := 2) (st' := []) (by decide +kernel) (ab_gto (by decide +kernel)) ?_
      exact ab_fin.lv ⟨(List.forall_mem_cons.mpr ⟨(List.Mem.tail _ (List.Mem.head _)), (List.forall_mem_cons.mpr ⟨(List.Mem.tail _ (List.Mem.tail _ (List.Mem.head _))), (List.forall_mem_cons.mpr ⟨(List.Mem.tail _ (List.Mem.tail _ (List.Mem.tail _ (List.Mem.head _)))), (List.forall_mem_cons.mpr ⟨(List.Mem.head _), (fun _ h => absurd h List.not_mem_nil)⟩)⟩)⟩)⟩), (show ([3, 0, 1, 2] : List Nat).Nodup from by decide)⟩ w
    · replace w := w.2 (Decidable.of_not_not q)
      refine ab_fin.s2 (i := .iload_n 3) (k := 1) (pc' := 25) (lv' := [(0, .ref l0), (1, .int l1), (2, .int l2), (3, .int l3)]) (st' := [.int l3]) (by decide +kernel) rfl rfl ?_
      exact ab_fin.q_ret (i := .ireturn) (k := 1) (v := some (.int l3)) (by decide +kernel) rfl F w
theorem S_X18_asks_0 {Z : zT} {d : Nat} {σ : Sg} {l0 : Nat} {l1 : Int32} {K : kS} (F : FX ΦR σ.sh σ.r) (p_l0 : sh0R[l0]? = some (Sh.obj 19)) (w : B_X18_asks_2 Z (d + 1) σ l0 l1 0 K) : B_X18_asks_0 Z (d + 1) σ l0 l1 K := by
  unfold B_X18_asks_0
  refine ab_fin.s1i (i := .iconst 0) (k := 1) (pc' := 1) (n := 0) (by decide +kernel) rfl (by decide +kernel) rfl ?_
  refine ab_fin.s2 (i := .istore_n 2) (k := 1) (pc' := 2) (lv' := [(2, .int 0), (0, .ref l0), (1, .int l1)]) (st' := []) (by decide +kernel) rfl rfl ?_
  exact ab_fin.lv ⟨(List.forall_mem_cons.mpr ⟨(List.Mem.tail _ (List.Mem.head _)), (List.forall_mem_cons.mpr ⟨(List.Mem.tail _ (List.Mem.tail _ (List.Mem.head _))), (List.forall_mem_cons.mpr ⟨(List.Mem.head _), (fun _ h => absurd h List.not_mem_nil)⟩)⟩)⟩), (show ([2, 0, 1] : List Nat).Nodup from by decide)⟩ w
theorem S_X18_asks_2 {Z : zT} {d : Nat} {σ : Sg} {l0 : Nat} {l1 : Int32} {l2 : Int32} {K : kS} (F : FX ΦR σ.sh σ.r) (p_l0 : sh0R[l0]? = some (Sh.obj 19)) (w : (l1 ≤ l2 → ((σ.r l0 8) = Rf.nul → K (.inl (some (.int 0))) σ) ∧ (¬ (σ.r l0 8) = Rf.nul → K (.inl (some (.int 1))) σ)) ∧ (¬ l1 ≤ l2 → ib l2 3 ∧ (((σ.i (l0 + 3) l2.toNatClampNeg) = 0 → B_X18_asks_2 Z (d + 1) σ l0 l1 (l2 + 1) K) ∧ (¬ (σ.i (l0 + 3) l2.toNatClampNeg) = 0 → K (.inl (some (.int 1))) σ)))) : B_X18_asks_2 Z (d + 1) σ l0 l1 l2 K := by
  unfold B_X18_asks_2
  refine ab_fin.s2 (i := .iload_n 2) (k := 1) (pc' := 3) (lv' := [(0, .ref l0), (1, .int l1), (2, .int l2)]) (st' := [.int l2]) (by decide +kernel) rfl rfl ?_
  refine ab_fin.s2 (i := .iload_n 1) (k := 1) (pc' := 4) (lv' := [(0, .ref l0), (1, .int l1), (2, .int l2)]) (st' := [.int l1, .int l2]) (by decide +kernel) rfl rfl ?_
  refine ab_fin.br (c := l1 ≤ l2) (i := .if_icmp .ge 20) (off := 20) (t := 24) (pc' := 7) (r := []) (by decide +kernel) rfl (by decide +kernel) rfl (fun q => ?_) (fun q => ?_)
  · replace w := w.1 q
    refine ab_fin.s2 (i := .aload_n 0) (k := 1) (pc' := 25) (lv' := [(0, .ref l0), (1, .int l1), (2, .int l2)]) (st' := [.ref l0]) (by decide +kernel) rfl rfl ?_
    refine ab_fin.q_rV (v := rv (σ.r l0 8)) (ix := 20) (ci := 19) (k := 8) (pc' := 28) (by decide +kernel) rfl (c_rV (F.s p_l0) rfl) rfl ?_
    refine ab_fin.q_nul (off := 7) (t := 35) (pc' := 31) (by decide +kernel) (oR_rv _) (by decide +kernel) rfl (fun q => ?_) (fun q => ?_)
    · replace w := w.1 (rv_null.mp q)
      refine ab_fin.s1i (i := .iconst 0) (k := 1) (pc' := 36) (n := 0) (by decide +kernel) rfl (by decide +kernel) rfl ?_
      exact ab_fin.q_ret (i := .ireturn) (k := 1) (v := some (.int 0)) (by decide +kernel) rfl F w
    · replace w := w.2 (fun z => q (rv_null.mpr z))
      refine ab_fin.s1i (i := .iconst 1) (k := 1) (pc' := 32) (n := 1) (by decide +kernel) rfl (by decide +kernel) rfl ?_
      refine ab_fin.s3 (i := .goto 4) (k := 3) (t := 36) (st' := [.int 1]) (by decide +kernel) (ab_gto (by decide +kernel)) ?_
      exact ab_fin.q_ret (i := .ireturn) (k := 1) (v := some (.int 1)) (by decide +kernel) rfl F w
  · replace w := w.2 q
    refine ab_fin.s2 (i := .aload_n 0) (k := 1) (pc' := 8) (lv' := [(0, .ref l0), (1, .int l1), (2, .int l2)]) (st' := [.ref l0]) (by decide +kernel) rfl rfl ?_
    refine ab_fin.q_rA (b := (l0 + 3)) (ix := 16) (ci := 19) (k := 7) (pc' := 11) (by decide +kernel) rfl (c_rA (F.s p_l0) rfl (rO_19_7 F p_l0)) rfl ?_
    refine ab_fin.s2 (i := .iload_n 2) (k := 1) (pc' := 12) (lv' := [(0, .ref l0), (1, .int l1), (2, .int l2)]) (st' := [.int l2, .ref (l0 + 3)]) (by decide +kernel) rfl rfl ?_
    obtain ⟨e1, w⟩ := w
    refine ab_fin.q_eB (x := (σ.i (l0 + 3) l2.toNatClampNeg)) (pc' := 13) (by decide +kernel) (c_eB3' (F.s (kF_19_3 p_l0)) e1 rfl) rfl ?_
    refine ab_fin.br (c := (σ.i (l0 + 3) l2.toNatClampNeg) = 0) (i := .ifCond .eq 5) (off := 5) (t := 18) (pc' := 16) (r := []) (by decide +kernel) rfl (by decide +kernel) rfl (fun q => ?_) (fun q => ?_)
    · replace w := w.1 q
      refine ab_fin.q_inc (n := 2) (c := 1) (pc' := 21) (lv' := [(2, .int (l2 + 1)), (0, .ref l0), (1, .int l1)]) (by decide +kernel) (by decide) rfl rfl rfl rfl ?_
      refine ab_fin.s3 (i := .goto (-19)) (k := 3) (t := 2) (st' := []) (by decide +kernel) (ab_gto (by decide +kernel)) ?_
      exact ab_fin.lv ⟨(List.forall_mem_cons.mpr ⟨(List.Mem.tail _ (List.Mem.head _)), (List.forall_mem_cons.mpr ⟨(List.Mem.tail _ (List.Mem.tail _ (List.Mem.head _))), (List.forall_mem_cons.mpr ⟨(List.Mem.head _), (fun _ h => absurd h List.not_mem_nil)⟩)⟩)⟩), (show ([2, 0, 1] : List Nat).Nodup from by decide)⟩ w
    · replace w := w.2 q
      refine ab_fin.s1i (i := .iconst 1) (k := 1) (pc' := 17) (n := 1) (by decide +kernel) rfl (by decide +kernel) rfl ?_
      exact ab_fin.q_ret (i := .ireturn) (k := 1) (v := some (.int 1)) (by decide +kernel) rfl F w
theorem S_X19_be_0 {Z : zT} {d : Nat} {σ : Sg} {l0 : Nat} {l1 : Nat} {l2 : Int32} {l3 : Int32} {K : kS} (F : FX ΦR σ.sh σ.r) (p_l0 : sh0R[l0]? = some (Sh.obj 20)) (w : B_X19_be_3 Z (d + 1) σ l0 l1 l2 l3 0 K) : B_X19_be_0 Z (d + 1) σ l0 l1 l2 l3 K := by
  unfold B_X19_be_0
  refine ab_fin.s1i (i := .iconst 0) (k := 1) (pc' := 1) (n := 0) (by decide +kernel) rfl (by decide +kernel) rfl ?_
  refine ab_fin.s2 (i := .istore 4) (k := 2) (pc' := 3) (lv' := [(4, .int 0), (0, .ref l0), (1, .ref l1), (2, .int l2), (3, .int l3)]) (st' := []) (by decide +kernel) rfl rfl ?_
  exact ab_fin.lv ⟨(List.forall_mem_cons.mpr ⟨(List.Mem.tail _ (List.Mem.head _)), (List.forall_mem_cons.mpr ⟨(List.Mem.tail _ (List.Mem.tail _ (List.Mem.head _))), (List.forall_mem_cons.mpr ⟨(List.Mem.tail _ (List.Mem.tail _ (List.Mem.tail _ (List.Mem.head _)))), (List.forall_mem_cons.mpr ⟨(List.Mem.tail _ (List.Mem.tail _ (List.Mem.tail _ (List.Mem.tail _ (List.Mem.head _))))), (List.forall_mem_cons.mpr ⟨(List.Mem.head _), (fun _ h => absurd h List.not_mem_nil)⟩)⟩)⟩)⟩)⟩), (show ([4, 0, 1, 2, 3] : List Nat).Nodup from by decide)⟩ w
theorem S_X19_be_3 {Z : zT} {d : Nat} {σ : Sg} {l0 : Nat} {l1 : Nat} {l2 : Int32} {l3 : Int32} {l4 : Int32} {K : kS} (F : FX ΦR σ.sh σ.r) (p_l0 : sh0R[l0]? = some (Sh.obj 20)) (w : (l3 ≤ l4 → K (.inl none) (σ.wi l0 1 l3)) ∧ (¬ l3 ≤ l4 → ∃ n2, σ.sh[l1]? = some (Sh.arr 2 n2) ∧ (ib (l2 + l4) n2 ∧ (ib l4 16 ∧ (B_X19_be_3 Z (d + 1) (σ.wi (l0 + 1) l4.toNatClampNeg (vp_nar .byte (σ.i l1 ((l2 + l4).toNatClampNeg)))) l0 l1 l2 l3 (l4 + 1) K))))) : B_X19_be_3 Z (d + 1) σ l0 l1 l2 l3 l4 K := by
  unfold B_X19_be_3
  refine ab_fin.s2 (i := .iload 4) (k := 2) (pc' := 5) (lv' := [(0, .ref l0), (1, .ref l1), (2, .int l2), (3, .int l3), (4, .int l4)]) (st' := [.int l4]) (by decide +kernel) rfl rfl ?_
  refine ab_fin.s2 (i := .iload_n 3) (k := 1) (pc' := 6) (lv' := [(0, .ref l0), (1, .ref l1), (2, .int l2), (3, .int l3), (4, .int l4)]) (st' := [.int l3, .int l4]) (by decide +kernel) rfl rfl ?_
  refine ab_fin.br (c := l3 ≤ l4) (i := .if_icmp .ge 22) (off := 22) (t := 28) (pc' := 9) (r := []) (by decide +kernel) rfl (by decide +kernel) rfl (fun q => ?_) (fun q => ?_)
  · replace w := w.1 q
    refine ab_fin.s2 (i := .aload_n 0) (k := 1) (pc' := 29) (lv' := [(0, .ref l0), (1, .ref l1), (2, .int l2), (3, .int l3), (4, .int l4)]) (st' := [.ref l0]) (by decide +kernel) rfl rfl ?_
    refine ab_fin.s2 (i := .iload_n 3) (k := 1) (pc' := 30) (lv' := [(0, .ref l0), (1, .ref l1), (2, .int l2), (3, .int l3), (4, .int l4)]) (st' := [.int l3, .ref l0]) (by decide +kernel) rfl rfl ?_
    refine ab_fin.q_pF (ix := 13) (ci := 20) (k := 1) (h1 := conc (σ.wi l0 1 l3)) (pc' := 33) (by decide +kernel) rfl (c_pI (v := l3) (F.s p_l0) rfl) rfl rfl rfl ?_
    exact ab_fin.q_ret (i := .return_) (k := 1) (v := none) (by decide +kernel) rfl F w
  · replace w := w.2 q
    refine ab_fin.s2 (i := .aload_n 0) (k := 1) (pc' := 10) (lv' := [(0, .ref l0), (1, .ref l1), (2, .int l2), (3, .int l3), (4, .int l4)]) (st' := [.ref l0]) (by decide +kernel) rfl rfl ?_
    refine ab_fin.q_rA (b := (l0 + 1)) (ix := 7) (ci := 20) (k := 0) (pc' := 13) (by decide +kernel) rfl (c_rA (F.s p_l0) rfl (rO_20_0 F p_l0)) rfl ?_
    refine ab_fin.s2 (i := .iload 4) (k := 2) (pc' := 15) (lv' := [(0, .ref l0), (1, .ref l1), (2, .int l2), (3, .int l3), (4, .int l4)]) (st' := [.int l4, .ref (l0 + 1)]) (by decide +kernel) rfl rfl ?_
    refine ab_fin.s2 (i := .aload_n 1) (k := 1) (pc' := 16) (lv' := [(0, .ref l0), (1, .ref l1), (2, .int l2), (3, .int l3), (4, .int l4)]) (st' := [.ref l1, .int l4, .ref (l0 + 1)]) (by decide +kernel) rfl rfl ?_
    refine ab_fin.s2 (i := .iload_n 2) (k := 1) (pc' := 17) (lv' := [(0, .ref l0), (1, .ref l1), (2, .int l2), (3, .int l3), (4, .int l4)]) (st' := [.int l2, .ref l1, .int l4, .ref (l0 + 1)]) (by decide +kernel) rfl rfl ?_
    refine ab_fin.s2 (i := .iload 4) (k := 2) (pc' := 19) (lv' := [(0, .ref l0), (1, .ref l1), (2, .int l2), (3, .int l3), (4, .int l4)]) (st' := [.int l4, .int l2, .ref l1, .int l4, .ref (l0 + 1)]) (by decide +kernel) rfl rfl ?_
    refine ab_fin.s1 (i := .iadd) (k := 1) (pc' := 20) (st' := [.int (l2 + l4), .ref l1, .int l4, .ref (l0 + 1)]) (by decide +kernel) rfl rfl ?_
    obtain ⟨n2, e1, w⟩ := w
    obtain ⟨e3, w⟩ := w
    refine ab_fin.q_eB (x := (σ.i l1 ((l2 + l4).toNatClampNeg))) (pc' := 21) (by decide +kernel) (c_eB2' e1 e3 rfl) rfl ?_
    obtain ⟨e4, w⟩ := w
    refine ab_fin.q_sB (h1 := conc (σ.wi (l0 + 1) l4.toNatClampNeg (vp_nar .byte (σ.i l1 ((l2 + l4).toNatClampNeg))))) (pc' := 22) (by decide +kernel) (c_sB2' (F.s (kF_20_1 p_l0)) e4 rfl) rfl ?_
    refine ab_fin.q_inc (n := 4) (c := 1) (pc' := 25) (lv' := [(4, .int (l4 + 1)), (0, .ref l0), (1, .ref l1), (2, .int l2), (3, .int l3)]) (by decide +kernel) (by decide) rfl rfl rfl rfl ?_
    refine ab_fin.s3 (i := .goto (-22)) (k := 3) (t := 3) (st' := []) (by decide +kernel) (ab_gto (by decide +kernel)) ?_
    exact ab_fin.lv ⟨(List.forall_mem_cons.mpr ⟨(List.Mem.tail _ (List.Mem.head _)), (List.forall_mem_cons.mpr ⟨(List.Mem.tail _ (List.Mem.tail _ (List.Mem.head _))), (List.forall_mem_cons.mpr ⟨(List.Mem.tail _ (List.Mem.tail _ (List.Mem.tail _ (List.Mem.head _)))), (List.forall_mem_cons.mpr ⟨(List.Mem.tail _ (List.Mem.tail _ (List.Mem.tail _ (List.Mem.tail _ (List.Mem.head _))))), (List.forall_mem_cons.mpr ⟨(List.Mem.head _), (fun _ h => absurd h List.not_mem_nil)⟩)⟩)⟩)⟩)⟩), (show ([4, 0, 1, 2, 3] : List Nat).Nodup from by decide)⟩ w
theorem S_X19_be__0 {Z : zT} {d : Nat} {σ : Sg} {l0 : Nat} {l1 : Rf} {K : kS} (F : FX ΦR σ.sh σ.r) (p_l0 : sh0R[l0]? = some (Sh.obj 20)) (w : ∃ j1, l1 = Rf.old j1 ∧ hb_Xt j1 = true ∧ (B_J0_length_8abf5_0 Z d σ (Rf.old j1) (yI K fun v6 τ4 => B_X19_be__10 Z (d + 1) (τ4.wi l0 1 v6) l0 (Rf.old j1) 0 K))) : B_X19_be__0 Z (d + 1) σ l0 l1 K := by
  unfold B_X19_be__0
  refine ab_fin.s2 (i := .aload_n 0) (k := 1) (pc' := 1) (lv' := [(0, .ref l0), (1, rv l1)]) (st' := [.ref l0]) (by decide +kernel) rfl rfl ?_
  refine ab_fin.ald (i := .aload_n 1) (n := 1) (k := 1) (pc' := 2) (Or.inl ⟨_, rfl, rfl, rfl⟩) (by decide +kernel) rfl (oR_rv _) rfl ?_
  obtain ⟨j1, e2, e3, w⟩ := w
  rw [show rv l1 = .retAddr j1 from by rw [e2]; rfl]
  refine ab_fin.q_yI (i := .invokevirtual 17) (k := 3) (y := 9472) (As := [.retAddr j1]) (rest := [.ref l0]) (M' := (mJ0_length_8abf5, [])) (lv2 := [(0, .retAddr j1)]) (pc' := 5) (X := K) (by decide +kernel) (ab_c6x rfl rfl e3 ⟨(Nat.le_of_ble_eq_true rfl), (Nat.le_of_ble_eq_true rfl)⟩ rfl) rfl (Nat.le_of_ble_eq_true rfl) rfl rfl (hY_no fun E => rfl) w (fun v6 τ4 F5 w => ?_)
  refine ab_fin.q_pF (ix := 13) (ci := 20) (k := 1) (h1 := conc (τ4.wi l0 1 v6)) (pc' := 8) (by decide +kernel) rfl (c_pI (v := v6) (F5.s p_l0) rfl) rfl rfl rfl ?_
  refine ab_fin.s1i (i := .iconst 0) (k := 1) (pc' := 9) (n := 0) (by decide +kernel) rfl (by decide +kernel) rfl ?_
  refine ab_fin.s2 (i := .istore_n 2) (k := 1) (pc' := 10) (lv' := [(2, .int 0), (0, .ref l0), (1, .retAddr j1)]) (st' := []) (by decide +kernel) rfl rfl ?_
  exact ab_fin.lv ⟨(List.forall_mem_cons.mpr ⟨(List.Mem.tail _ (List.Mem.head _)), (List.forall_mem_cons.mpr ⟨(List.Mem.tail _ (List.Mem.tail _ (List.Mem.head _))), (List.forall_mem_cons.mpr ⟨(List.Mem.head _), (fun _ h => absurd h List.not_mem_nil)⟩)⟩)⟩), (show ([2, 0, 1] : List Nat).Nodup from by decide)⟩ w
theorem S_X19_be__10 {Z : zT} {d : Nat} {σ : Sg} {l0 : Nat} {l1 : Rf} {l2 : Int32} {K : kS} (F : FX ΦR σ.sh σ.r) (p_l0 : sh0R[l0]? = some (Sh.obj 20)) (w : ((σ.i l0 1) ≤ l2 → K (.inl none) σ) ∧ (¬ (σ.i l0 1) ≤ l2 → ∃ j1, l1 = Rf.old j1 ∧ hb_Xt j1 = true ∧ (B_J0_charAt_5068e_0 Z d σ (Rf.old j1) l2 (yI K fun v6 τ4 => ib l2 16 ∧ (B_X19_be__10 Z (d + 1) (τ4.wi (l0 + 1) l2.toNatClampNeg (vp_nar .byte ((Int32.toInt8 v6).toInt32))) l0 (Rf.old j1) (l2 + 1) K))))) : B_X19_be__10 Z (d + 1) σ l0 l1 l2 K := by
  unfold B_X19_be__10
  refine ab_fin.s2 (i := .iload_n 2) (k := 1) (pc' := 11) (lv' := [(0, .ref l0), (1, rv l1), (2, .int l2)]) (st' := [.int l2]) (by decide +kernel) rfl rfl ?_
  refine ab_fin.s2 (i := .aload_n 0) (k := 1) (pc' := 12) (lv' := [(0, .ref l0), (1, rv l1), (2, .int l2)]) (st' := [.ref l0, .int l2]) (by decide +kernel) rfl rfl ?_
  refine ab_fin.q_rI (x := (σ.i l0 1)) (ix := 13) (ci := 20) (k := 1) (pc' := 15) (by decide +kernel) rfl (c_rI (F.s p_l0) rfl) rfl ?_
  refine ab_fin.br (c := (σ.i l0 1) ≤ l2) (i := .if_icmp .ge 21) (off := 21) (t := 36) (pc' := 18) (r := []) (by decide +kernel) rfl (by decide +kernel) rfl (fun q => ?_) (fun q => ?_)
  · replace w := w.1 q
    exact ab_fin.q_ret (i := .return_) (k := 1) (v := none) (by decide +kernel) rfl F w
  · replace w := w.2 q
    refine ab_fin.s2 (i := .aload_n 0) (k := 1) (pc' := 19) (lv' := [(0, .ref l0), (1, rv l1), (2, .int l2)]) (st' := [.ref l0]) (by decide +kernel) rfl rfl ?_
    refine ab_fin.q_rA (b := (l0 + 1)) (ix := 7) (ci := 20) (k := 0) (pc' := 22) (by decide +kernel) rfl (c_rA (F.s p_l0) rfl (rO_20_0 F p_l0)) rfl ?_
    refine ab_fin.s2 (i := .iload_n 2) (k := 1) (pc' := 23) (lv' := [(0, .ref l0), (1, rv l1), (2, .int l2)]) (st' := [.int l2, .ref (l0 + 1)]) (by decide +kernel) rfl rfl ?_
    refine ab_fin.ald (i := .aload_n 1) (n := 1) (k := 1) (pc' := 24) (Or.inl ⟨_, rfl, rfl, rfl⟩) (by decide +kernel) rfl (oR_rv _) rfl ?_
    refine ab_fin.s2 (i := .iload_n 2) (k := 1) (pc' := 25) (lv' := [(0, .ref l0), (1, rv l1), (2, .int l2)]) (st' := [.int l2, rv l1, .int l2, .ref (l0 + 1)]) (by decide +kernel) rfl rfl ?_
    obtain ⟨j1, e2, e3, w⟩ := w
    rw [show rv l1 = .retAddr j1 from by rw [e2]; rfl]
    refine ab_fin.q_yI (i := .invokevirtual 23) (k := 3) (y := 9473) (As := [.retAddr j1, .int l2]) (rest := [.int l2, .ref (l0 + 1)]) (M' := (mJ0_charAt_5068e, [])) (lv2 := [(0, .retAddr j1), (1, .int l2)]) (pc' := 28) (X := K) (by decide +kernel) (ab_c6x rfl rfl e3 ⟨(Nat.le_of_ble_eq_true rfl), (Nat.le_of_ble_eq_true rfl)⟩ rfl) rfl (Nat.le_of_ble_eq_true rfl) rfl rfl (hY_no fun E => rfl) w (fun v6 τ4 F5 w => ?_)
    refine ab_fin.s1 (i := .i2b) (k := 1) (pc' := 29) (st' := [.int ((Int32.toInt8 v6).toInt32), .int l2, .ref (l0 + 1)]) (by decide +kernel) rfl rfl ?_
    obtain ⟨e7, w⟩ := w
    refine ab_fin.q_sB (h1 := conc (τ4.wi (l0 + 1) l2.toNatClampNeg (vp_nar .byte ((Int32.toInt8 v6).toInt32)))) (pc' := 30) (by decide +kernel) (c_sB2' (F5.s (kF_20_1 p_l0)) e7 rfl) rfl ?_
    refine ab_fin.q_inc (n := 2) (c := 1) (pc' := 33) (lv' := [(2, .int (l2 + 1)), (0, .ref l0), (1, .retAddr j1)]) (by decide +kernel) (by decide) rfl rfl rfl rfl ?_
    refine ab_fin.s3 (i := .goto (-23)) (k := 3) (t := 10) (st' := []) (by decide +kernel) (ab_gto (by decide +kernel)) ?_
    exact ab_fin.lv ⟨(List.forall_mem_cons.mpr ⟨(List.Mem.tail _ (List.Mem.head _)), (List.forall_mem_cons.mpr ⟨(List.Mem.tail _ (List.Mem.tail _ (List.Mem.head _))), (List.forall_mem_cons.mpr ⟨(List.Mem.head _), (fun _ h => absurd h List.not_mem_nil)⟩)⟩)⟩), (show ([2, 0, 1] : List Nat).Nodup from by decide)⟩ w
theorem S_X19_is_0 {Z : zT} {d : Nat} {σ : Sg} {l0 : Nat} {l1 : Nat} {l2 : Int32} {l3 : Int32} {K : kS} (F : FX ΦR σ.sh σ.r) (p_l0 : sh0R[l0]? = some (Sh.obj 20)) (w : (l3 = (σ.i l0 1) → B_X19_is_13 Z (d + 1) σ l0 l1 l2 l3 0 K) ∧ (¬ l3 = (σ.i l0 1) → K (.inl (some (.int 0))) σ)) : B_X19_is_0 Z (d + 1) σ l0 l1 l2 l3 K := by
  unfold B_X19_is_0
  refine ab_fin.s2 (i := .iload_n 3) (k := 1) (pc' := 1) (lv' := [(0, .ref l0), (1, .ref l1), (2, .int l2), (3, .int l3)]) (st' := [.int l3]) (by decide +kernel) rfl rfl ?_
  refine ab_fin.s2 (i := .aload_n 0) (k := 1) (pc' := 2) (lv' := [(0, .ref l0), (1, .ref l1), (2, .int l2), (3, .int l3)]) (st' := [.ref l0, .int l3]) (by decide +kernel) rfl rfl ?_
  refine ab_fin.q_rI (x := (σ.i l0 1)) (ix := 13) (ci := 20) (k := 1) (pc' := 5) (by decide +kernel) rfl (c_rI (F.s p_l0) rfl) rfl ?_
  refine ab_fin.br (c := l3 = (σ.i l0 1)) (i := .if_icmp .eq 5) (off := 5) (t := 10) (pc' := 8) (r := []) (by decide +kernel) rfl (by decide +kernel) rfl (fun q => ?_) (fun q => ?_)
  · replace w := w.1 q
    refine ab_fin.s1i (i := .iconst 0) (k := 1) (pc' := 11) (n := 0) (by decide +kernel) rfl (by decide +kernel) rfl ?_
    refine ab_fin.s2 (i := .istore 4) (k := 2) (pc' := 13) (lv' := [(4, .int 0), (0, .ref l0), (1, .ref l1), (2, .int l2), (3, .int l3)]) (st' := []) (by decide +kernel) rfl rfl ?_
    exact ab_fin.lv ⟨(List.forall_mem_cons.mpr ⟨(List.Mem.tail _ (List.Mem.head _)), (List.forall_mem_cons.mpr ⟨(List.Mem.tail _ (List.Mem.tail _ (List.Mem.head _))), (List.forall_mem_cons.mpr ⟨(List.Mem.tail _ (List.Mem.tail _ (List.Mem.tail _ (List.Mem.head _)))), (List.forall_mem_cons.mpr ⟨(List.Mem.tail _ (List.Mem.tail _ (List.Mem.tail _ (List.Mem.tail _ (List.Mem.head _))))), (List.forall_mem_cons.mpr ⟨(List.Mem.head _), (fun _ h => absurd h List.not_mem_nil)⟩)⟩)⟩)⟩)⟩), (show ([4, 0, 1, 2, 3] : List Nat).Nodup from by decide)⟩ w
  · replace w := w.2 q
    refine ab_fin.s1i (i := .iconst 0) (k := 1) (pc' := 9) (n := 0) (by decide +kernel) rfl (by decide +kernel) rfl ?_
    exact ab_fin.q_ret (i := .ireturn) (k := 1) (v := some (.int 0)) (by decide +kernel) rfl F w
theorem S_X19_is_13 {Z : zT} {d : Nat} {σ : Sg} {l0 : Nat} {l1 : Nat} {l2 : Int32} {l3 : Int32} {l4 : Int32} {K : kS} (F : FX ΦR σ.sh σ.r) (p_l0 : sh0R[l0]? = some (Sh.obj 20)) (w : (l3 ≤ l4 → K (.inl (some (.int 1))) σ) ∧ (¬ l3 ≤ l4 → ib l4 16 ∧ (∃ n3, σ.sh[l1]? = some (Sh.arr 2 n3) ∧ (ib (l2 + l4) n3 ∧ (((σ.i (l0 + 1) l4.toNatClampNeg) = (σ.i l1 ((l2 + l4).toNatClampNeg)) → B_X19_is_13 Z (d + 1) σ l0 l1 l2 l3 (l4 + 1) K) ∧ (¬ (σ.i (l0 + 1) l4.toNatClampNeg) = (σ.i l1 ((l2 + l4).toNatClampNeg)) → K (.inl (some (.int 0))) σ)))))) : B_X19_is_13 Z (d + 1) σ l0 l1 l2 l3 l4 K := by
  unfold B_X19_is_13
  refine ab_fin.s2 (i := .iload 4) (k := 2) (pc' := 15) (lv' := [(0, .ref l0), (1, .ref l1), (2, .int l2), (3, .int l3), (4, .int l4)]) (st' := [.int l4]) (by decide +kernel) rfl rfl ?_
  refine ab_fin.s2 (i := .iload_n 3) (k := 1) (pc' := 16) (lv' := [(0, .ref l0), (1, .ref l1), (2, .int l2), (3, .int l3), (4, .int l4)]) (st' := [.int l3, .int l4]) (by decide +kernel) rfl rfl ?_
  refine ab_fin.br (c := l3 ≤ l4) (i := .if_icmp .ge 27) (off := 27) (t := 43) (pc' := 19) (r := []) (by decide +kernel) rfl (by decide +kernel) rfl (fun q => ?_) (fun q => ?_)
  · replace w := w.1 q
    refine ab_fin.s1i (i := .iconst 1) (k := 1) (pc' := 44) (n := 1) (by decide +kernel) rfl (by decide +kernel) rfl ?_
    exact ab_fin.q_ret (i := .ireturn) (k := 1) (v := some (.int 1)) (by decide +kernel) rfl F w
  · replace w := w.2 q
    refine ab_fin.s2 (i := .aload_n 0) (k := 1) (pc' := 20) (lv' := [(0, .ref l0), (1, .ref l1), (2, .int l2), (3, .int l3), (4, .int l4)]) (st' := [.ref l0]) (by decide +kernel) rfl rfl ?_
    refine ab_fin.q_rA (b := (l0 + 1)) (ix := 7) (ci := 20) (k := 0) (pc' := 23) (by decide +kernel) rfl (c_rA (F.s p_l0) rfl (rO_20_0 F p_l0)) rfl ?_
    refine ab_fin.s2 (i := .iload 4) (k := 2) (pc' := 25) (lv' := [(0, .ref l0), (1, .ref l1), (2, .int l2), (3, .int l3), (4, .int l4)]) (st' := [.int l4, .ref (l0 + 1)]) (by decide +kernel) rfl rfl ?_
    obtain ⟨e1, w⟩ := w
    refine ab_fin.q_eB (x := (σ.i (l0 + 1) l4.toNatClampNeg)) (pc' := 26) (by decide +kernel) (c_eB2' (F.s (kF_20_1 p_l0)) e1 rfl) rfl ?_
    refine ab_fin.s2 (i := .aload_n 1) (k := 1) (pc' := 27) (lv' := [(0, .ref l0), (1, .ref l1), (2, .int l2), (3, .int l3), (4, .int l4)]) (st' := [.ref l1, .int (σ.i (l0 + 1) l4.toNatClampNeg)]) (by decide +kernel) rfl rfl ?_
    refine ab_fin.s2 (i := .iload_n 2) (k := 1) (pc' := 28) (lv' := [(0, .ref l0), (1, .ref l1), (2, .int l2), (3, .int l3), (4, .int l4)]) (st' := [.int l2, .ref l1, .int (σ.i (l0 + 1) l4.toNatClampNeg)]) (by decide +kernel) rfl rfl ?_
    refine ab_fin.s2 (i := .iload 4) (k := 2) (pc' := 30) (lv' := [(0, .ref l0), (1, .ref l1), (2, .int l2), (3, .int l3), (4, .int l4)]) (st' := [.int l4, .int l2, .ref l1, .int (σ.i (l0 + 1) l4.toNatClampNeg)]) (by decide +kernel) rfl rfl ?_
    refine ab_fin.s1 (i := .iadd) (k := 1) (pc' := 31) (st' := [.int (l2 + l4), .ref l1, .int (σ.i (l0 + 1) l4.toNatClampNeg)]) (by decide +kernel) rfl rfl ?_
    obtain ⟨n3, e2, w⟩ := w
    obtain ⟨e4, w⟩ := w
    refine ab_fin.q_eB (x := (σ.i l1 ((l2 + l4).toNatClampNeg))) (pc' := 32) (by decide +kernel) (c_eB2' e2 e4 rfl) rfl ?_
    refine ab_fin.br (c := (σ.i (l0 + 1) l4.toNatClampNeg) = (σ.i l1 ((l2 + l4).toNatClampNeg))) (i := .if_icmp .eq 5) (off := 5) (t := 37) (pc' := 35) (r := []) (by decide +kernel) rfl (by decide +kernel) rfl (fun q => ?_) (fun q => ?_)
    · replace w := w.1 q
      refine ab_fin.q_inc (n := 4) (c := 1) (pc' := 40) (lv' := [(4, .int (l4 + 1)), (0, .ref l0), (1, .ref l1), (2, .int l2), (3, .int l3)]) (by decide +kernel) (by decide) rfl rfl rfl rfl ?_
      refine ab_fin.s3 (i := .goto (-27)) (k := 3) (t := 13) (st' := []) (by decide +kernel) (ab_gto (by decide +kernel)) ?_
      exact ab_fin.lv ⟨(List.forall_mem_cons.mpr ⟨(List.Mem.tail _ (List.Mem.head _)), (List.forall_mem_cons.mpr ⟨(List.Mem.tail _ (List.Mem.tail _ (List.Mem.head _))), (List.forall_mem_cons.mpr ⟨(List.Mem.tail _ (List.Mem.tail _ (List.Mem.tail _ (List.Mem.head _)))), (List.forall_mem_cons.mpr ⟨(List.Mem.tail _ (List.Mem.tail _ (List.Mem.tail _ (List.Mem.tail _ (List.Mem.head _))))), (List.forall_mem_cons.mpr ⟨(List.Mem.head _), (fun _ h => absurd h List.not_mem_nil)⟩)⟩)⟩)⟩)⟩), (show ([4, 0, 1, 2, 3] : List Nat).Nodup from by decide)⟩ w
    · replace w := w.2 q
      refine ab_fin.s1i (i := .iconst 0) (k := 1) (pc' := 36) (n := 0) (by decide +kernel) rfl (by decide +kernel) rfl ?_
      exact ab_fin.q_ret (i := .ireturn) (k := 1) (v := some (.int 0)) (by decide +kernel) rfl F w
theorem S_X20_init_0 {Z : zT} {d : Nat} {σ : Sg} {l0 : Nat} {K : kS} (F : FX ΦR σ.sh σ.r) (w : K (.inl none) σ) : B_X20_init_0 Z (d + 1) σ l0 K := by
  unfold B_X20_init_0
  refine ab_fin.s2 (i := .aload_n 0) (k := 1) (pc' := 1) (lv' := [(0, .ref l0)]) (st' := [.ref l0]) (by decide +kernel) rfl rfl ?_
  refine ab_fin.obi (i := .invokespecial 1) (k := 3) (pc' := 4) (st' := []) (by decide +kernel) rfl rfl ?_
  exact ab_fin.q_ret (i := .return_) (k := 1) (v := none) (by decide +kernel) rfl F w
theorem S_X20_be_0 {Z : zT} {d : Nat} {σ : Sg} {l0 : Nat} {l1 : Int32} {K : kS} (F : FX ΦR σ.sh σ.r) (w : σ.sh[l0]? = some (Sh.obj 21) ∧ (K (.inl (some (.ref l0))) ((((((((((((σ.wi l0 0 l1).wi l0 1 (0 : Int32)).wi l0 2 (0 : Int32)).wi l0 3 (0 : Int32)).wi l0 4 (0 : Int32)).wr l0 5 Rf.nul).wr l0 6 Rf.nul).wr l0 7 Rf.nul).wr l0 8 Rf.nul).wi l0 9 (-1 : Int32)).wi l0 10 (-1 : Int32)).wl l0 11 (0 : Int64)))) : B_X20_be_0 Z (d + 1) σ l0 l1 K := by
  unfold B_X20_be_0
  refine ab_fin.s2 (i := .aload_n 0) (k := 1) (pc' := 1) (lv' := [(0, .ref l0), (1, .int l1)]) (st' := [.ref l0]) (by decide +kernel) rfl rfl ?_
  refine ab_fin.s2 (i := .iload_n 1) (k := 1) (pc' := 2) (lv' := [(0, .ref l0), (1, .int l1)]) (st' := [.int l1, .ref l0]) (by decide +kernel) rfl rfl ?_
  obtain ⟨e1, w⟩ := w
  refine ab_fin.q_pF (ix := 7) (ci := 21) (k := 0) (h1 := conc (σ.wi l0 0 l1)) (pc' := 5) (by decide +kernel) rfl (c_pI (v := l1) e1 rfl) rfl rfl rfl ?_
  refine ab_fin.s2 (i := .aload_n 0) (k := 1) (pc' := 6) (lv' := [(0, .ref l0), (1, .int l1)]) (st' := [.ref l0]) (by decide +kernel) rfl rfl ?_
  refine ab_fin.s1i (i := .iconst 0) (k := 1) (pc' := 7) (n := 0) (by decide +kernel) rfl (by decide +kernel) rfl ?_
  refine ab_fin.q_pF (ix := 13) (ci := 21) (k := 1) (h1 := conc ((σ.wi l0 0 l1).wi l0 1 (0 : Int32))) (pc' := 10) (by decide +kernel) rfl (c_pI (v := 0) e1 rfl) rfl rfl rfl ?_
  refine ab_fin.s2 (i := .aload_n 0) (k := 1) (pc' := 11) (lv' := [(0, .ref l0), (1, .int l1)]) (st' := [.ref l0]) (by decide +kernel) rfl rfl ?_
  refine ab_fin.s1i (i := .iconst 0) (k := 1) (pc' := 12) (n := 0) (by decide +kernel) rfl (by decide +kernel) rfl ?_
  refine ab_fin.q_pF (ix := 16) (ci := 21) (k := 2) (h1 := conc (((σ.wi l0 0 l1).wi l0 1 (0 : Int32)).wi l0 2 (0 : Int32))) (pc' := 15) (by decide +kernel) rfl (c_pI (v := 0) e1 rfl) rfl rfl rfl ?_
  refine ab_fin.s2 (i := .aload_n 0) (k := 1) (pc' := 16) (lv' := [(0, .ref l0), (1, .int l1)]) (st' := [.ref l0]) (by decide +kernel) rfl rfl ?_
  refine ab_fin.s1i (i := .iconst 0) (k := 1) (pc' := 17) (n := 0) (by decide +kernel) rfl (by decide +kernel) rfl ?_
  refine ab_fin.q_pF (ix := 19) (ci := 21) (k := 3) (h1 := conc ((((σ.wi l0 0 l1).wi l0 1 (0 : Int32)).wi l0 2 (0 : Int32)).wi l0 3 (0 : Int32))) (pc' := 20) (by decide +kernel) rfl (c_pI (v := 0) e1 rfl) rfl rfl rfl ?_
  refine ab_fin.s2 (i := .aload_n 0) (k := 1) (pc' := 21) (lv' := [(0, .ref l0), (1, .int l1)]) (st' := [.ref l0]) (by decide +kernel) rfl rfl ?_
  refine ab_fin.s1i (i := .iconst 0) (k := 1) (pc' := 22) (n := 0) (by decide +kernel) rfl (by decide +kernel) rfl ?_
  refine ab_fin.q_pF (ix := 22) (ci := 21) (k := 4) (h1 := conc (((((σ.wi l0 0 l1).wi l0 1 (0 : Int32)).wi l0 2 (0 : Int32)).wi l0 3 (0 : Int32)).wi l0 4 (0 : Int32))) (pc' := 25) (by decide +kernel) rfl (c_pI (v := 0) e1 rfl) rfl rfl rfl ?_
  refine ab_fin.s2 (i := .aload_n 0) (k := 1) (pc' := 26) (lv' := [(0, .ref l0), (1, .int l1)]) (st' := [.ref l0]) (by decide +kernel) rfl rfl ?_
  refine ab_fin.s1 (i := .aconst_null) (k := 1) (pc' := 27) (st' := [.null, .ref l0]) (by decide +kernel) rfl rfl ?_
  have F2 := FX.w (Φ := ΦR) (a := l0) (k := 5) (v := Rf.nul) F (cD F e1 rfl)
  refine ab_fin.q_pF (ix := 25) (ci := 21) (k := 5) (h1 := conc ((((((σ.wi l0 0 l1).wi l0 1 (0 : Int32)).wi l0 2 (0 : Int32)).wi l0 3 (0 : Int32)).wi l0 4 (0 : Int32)).wr l0 5 Rf.nul)) (pc' := 30) (by decide +kernel) rfl (c_pR (v := Rf.nul) e1 rfl) rfl rfl rfl ?_
  refine ab_fin.s2 (i := .aload_n 0) (k := 1) (pc' := 31) (lv' := [(0, .ref l0), (1, .int l1)]) (st' := [.ref l0]) (by decide +kernel) rfl rfl ?_
  refine ab_fin.s1 (i := .aconst_null) (k := 1) (pc' := 32) (st' := [.null, .ref l0]) (by decide +kernel) rfl rfl ?_
  have F3 := FX.w (Φ := ΦR) (a := l0) (k := 6) (v := Rf.nul) F2 (cD F2 e1 rfl)
  refine ab_fin.q_pF (ix := 29) (ci := 21) (k := 6) (h1 := conc (((((((σ.wi l0 0 l1).wi l0 1 (0 : Int32)).wi l0 2 (0 : Int32)).wi l0 3 (0 : Int32)).wi l0 4 (0 : Int32)).wr l0 5 Rf.nul).wr l0 6 Rf.nul)) (pc' := 35) (by decide +kernel) rfl (c_pR (v := Rf.nul) e1 rfl) rfl rfl rfl ?_
  refine ab_fin.s2 (i := .aload_n 0) (k := 1) (pc' := 36) (lv' := [(0, .ref l0), (1, .int l1)]) (st' := [.ref l0]) (by decide +kernel) rfl rfl ?_
  refine ab_fin.s1 (i := .aconst_null) (k := 1) (pc' := 37) (st' := [.null, .ref l0]) (by decide +kernel) rfl rfl ?_
  have F4 := FX.w (Φ := ΦR) (a := l0) (k := 7) (v := Rf.nul) F3 (cD F3 e1 rfl)
  refine ab_fin.q_pF (ix := 32) (ci := 21) (k := 7) (h1 := conc ((((((((σ.wi l0 0 l1).wi l0 1 (0 : Int32)).wi l0 2 (0 : Int32)).wi l0 3 (0 : Int32)).wi l0 4 (0 : Int32)).wr l0 5 Rf.nul).wr l0 6 Rf.nul).wr l0 7 Rf.nul)) (pc' := 40) (by decide +kernel) rfl (c_pR (v := Rf.nul) e1 rfl) rfl rfl rfl ?_
  refine ab_fin.s2 (i := .aload_n 0) (k := 1) (pc' := 41) (lv' := [(0, .ref l0), (1, .int l1)]) (st' := [.ref l0]) (by decide +kernel) rfl rfl ?_
  refine ab_fin.s1 (i := .aconst_null) (k := 1) (pc' := 42) (st' := [.null, .ref l0]) (by decide +kernel) rfl rfl ?_
  have F5 := FX.w (Φ := ΦR) (a := l0) (k := 8) (v := Rf.nul) F4 (cD F4 e1 rfl)
  refine ab_fin.q_pF (ix := 35) (ci := 21) (k := 8) (h1 := conc (((((((((σ.wi l0 0 l1).wi l0 1 (0 : Int32)).wi l0 2 (0 : Int32)).wi l0 3 (0 : Int32)).wi l0 4 (0 : Int32)).wr l0 5 Rf.nul).wr l0 6 Rf.nul).wr l0 7 Rf.nul).wr l0 8 Rf.nul)) (pc' := 45) (by decide +kernel) rfl (c_pR (v := Rf.nul) e1 rfl) rfl rfl rfl ?_
  refine ab_fin.s2 (i := .aload_n 0) (k := 1) (pc' := 46) (lv' := [(0, .ref l0), (1, .int l1)]) (st' := [.ref l0]) (by decide +kernel) rfl rfl ?_
  refine ab_fin.s1i (i := .iconst (-1)) (k := 1) (pc' := 47) (n := (-1)) (by decide +kernel) rfl (by decide +kernel) rfl ?_
  refine ab_fin.q_pF (ix := 38) (ci := 21) (k := 9) (h1 := conc ((((((((((σ.wi l0 0 l1).wi l0 1 (0 : Int32)).wi l0 2 (0 : Int32)).wi l0 3 (0 : Int32)).wi l0 4 (0 : Int32)).wr l0 5 Rf.nul).wr l0 6 Rf.nul).wr l0 7 Rf.nul).wr l0 8 Rf.nul).wi l0 9 (-1 : Int32))) (pc' := 50) (by decide +kernel) rfl (c_pI (v := (-1)) e1 rfl) rfl rfl rfl ?_
  refine ab_fin.s2 (i := .aload_n 0) (k := 1) (pc' := 51) (lv' := [(0, .ref l0), (1, .int l1)]) (st' := [.ref l0]) (by decide +kernel) rfl rfl ?_
  refine ab_fin.s1i (i := .iconst (-1)) (k := 1) (pc' := 52) (n := (-1)) (by decide +kernel) rfl (by decide +kernel) rfl ?_
  refine ab_fin.q_pF (ix := 41) (ci := 21) (k := 10) (h1 := conc (((((((((((σ.wi l0 0 l1).wi l0 1 (0 : Int32)).wi l0 2 (0 : Int32)).wi l0 3 (0 : Int32)).wi l0 4 (0 : Int32)).wr l0 5 Rf.nul).wr l0 6 Rf.nul).wr l0 7 Rf.nul).wr l0 8 Rf.nul).wi l0 9 (-1 : Int32)).wi l0 10 (-1 : Int32))) (pc' := 55) (by decide +kernel) rfl (c_pI (v := (-1)) e1 rfl) rfl rfl rfl ?_
  refine ab_fin.s2 (i := .aload_n 0) (k := 1) (pc' := 56) (lv' := [(0, .ref l0), (1, .int l1)]) (st' := [.ref l0]) (by decide +kernel) rfl rfl ?_
  refine ab_fin.s1l (i := .lconst 0) (k := 1) (pc' := 57) (n := 0) (by decide +kernel) rfl (by decide +kernel) rfl ?_
  refine ab_fin.q_pF (ix := 44) (ci := 21) (k := 11) (h1 := conc ((((((((((((σ.wi l0 0 l1).wi l0 1 (0 : Int32)).wi l0 2 (0 : Int32)).wi l0 3 (0 : Int32)).wi l0 4 (0 : Int32)).wr l0 5 Rf.nul).wr l0 6 Rf.nul).wr l0 7 Rf.nul).wr l0 8 Rf.nul).wi l0 9 (-1 : Int32)).wi l0 10 (-1 : Int32)).wl l0 11 (0 : Int64))) (pc' := 60) (by decide +kernel) rfl (c_pL (v := 0) e1 rfl) rfl rfl rfl ?_
  refine ab_fin.s2 (i := .aload_n 0) (k := 1) (pc' := 61) (lv' := [(0, .ref l0), (1, .int l1)]) (st' := [.ref l0]) (by decide +kernel) rfl rfl ?_
  exact ab_fin.q_ret (i := .areturn) (k := 1) (v := some (.ref l0)) (by decide +kernel) rfl F5 w
theorem S_X22_init_0 {Z : zT} {d : Nat} {σ : Sg} {l0 : Nat} {l1 : Int32} {K : kS} (F : FX ΦR σ.sh σ.r) (w : B_ZR22_init_0 Z d σ l0 Rf.nul Rf.nul 0 0 (yN y0 fun τ1 => τ1.sh[l0]? = some (Sh.obj 23) ∧ (K (.inl none) (τ1.wi l0 6 l1)))) : B_X22_init_0 Z (d + 1) σ l0 l1 K := by
  unfold B_X22_init_0
  refine ab_fin.s2 (i := .aload_n 0) (k := 1) (pc' := 1) (lv' := [(0, .ref l0), (1, .int l1)]) (st' := [.ref l0]) (by decide +kernel) rfl rfl ?_
  refine ab_fin.s1 (i := .aconst_null) (k := 1) (pc' := 2) (st' := [.null, .ref l0]) (by decide +kernel) rfl rfl ?_
  refine ab_fin.s1 (i := .aconst_null) (k := 1) (pc' := 3) (st' := [.null, .null, .ref l0]) (by decide +kernel) rfl rfl ?_
  refine ab_fin.s1i (i := .iconst 0) (k := 1) (pc' := 4) (n := 0) (by decide +kernel) rfl (by decide +kernel) rfl ?_
  refine ab_fin.s1i (i := .iconst 0) (k := 1) (pc' := 5) (n := 0) (by decide +kernel) rfl (by decide +kernel) rfl ?_
  refine ab_fin.q_yN (i := .invokespecial 1) (k := 3) (y := 16896) (As := [.ref l0, .null, .null, .int 0, .int 0]) (rest := []) (M' := (mZR22_init, [])) (lv2 := [(0, .ref l0), (1, .null), (2, .null), (3, .int 0), (4, .int 0)]) (pc' := 8) (X := y0) (by decide +kernel) (ab_ci (Or.inl rfl) rfl rfl ⟨(Nat.le_of_ble_eq_true rfl), (Nat.le_of_ble_eq_true rfl)⟩ rfl) rfl (Nat.le_of_ble_eq_true rfl) rfl rfl hY_0 w (fun τ1 F2 w => ?_)
  refine ab_fin.s2 (i := .aload_n 0) (k := 1) (pc' := 9) (lv' := [(0, .ref l0), (1, .int l1)]) (st' := [.ref l0]) (by decide +kernel) rfl rfl ?_
  refine ab_fin.s2 (i := .iload_n 1) (k := 1) (pc' := 10) (lv' := [(0, .ref l0), (1, .int l1)]) (st' := [.int l1, .ref l0]) (by decide +kernel) rfl rfl ?_
  obtain ⟨e3, w⟩ := w
  refine ab_fin.q_pF (ix := 7) (ci := 23) (k := 6) (h1 := conc (τ1.wi l0 6 l1)) (pc' := 13) (by decide +kernel) rfl (c_pI (v := l1) e3 rfl) rfl rfl rfl ?_
  exact ab_fin.q_ret (i := .return_) (k := 1) (v := none) (by decide +kernel) rfl F2 w
theorem S_X23_isName_0 {Z : zT} {d : Nat} {σ : Sg} {l1 : Nat} {l2 : Int32} {K : kS} (F : FX ΦR σ.sh σ.r) (w : sh0R[l1]? = some (Sh.obj 20) ∧ (B_X19_is_0 Z d σ l1 37 (l2 >>> ((5 : Int32) &&& 31)) (l2 &&& (31 : Int32)) (yI K fun v4 τ2 => narrow .boolean (.int v4) = .int v4 ∧ K (.inl (some (.int v4))) τ2))) : B_X23_isName_0 Z (d + 1) σ l1 l2 K := by
  unfold B_X23_isName_0
  refine ab_fin.s2 (i := .aload_n 1) (k := 1) (pc' := 1) (lv' := [(0, .ref 0), (1, .ref l1), (2, .int l2)]) (st' := [.ref l1]) (by decide +kernel) rfl rfl ?_
  refine ab_fin.s2 (i := .aload_n 0) (k := 1) (pc' := 2) (lv' := [(0, .ref 0), (1, .ref l1), (2, .int l2)]) (st' := [.ref 0, .ref l1]) (by decide +kernel) rfl rfl ?_
  refine ab_fin.q_rA (b := 37) (ix := 1) (ci := 24) (k := 14) (pc' := 5) (by decide +kernel) rfl (c_rA (F.s s0_0) rfl (rM_14 F)) rfl ?_
  refine ab_fin.s2 (i := .iload_n 2) (k := 1) (pc' := 6) (lv' := [(0, .ref 0), (1, .ref l1), (2, .int l2)]) (st' := [.int l2, .ref 37, .ref l1]) (by decide +kernel) rfl rfl ?_
  refine ab_fin.s1i (i := .iconst 5) (k := 1) (pc' := 7) (n := 5) (by decide +kernel) rfl (by decide +kernel) rfl ?_
  refine ab_fin.s1 (i := .ishr) (k := 1) (pc' := 8) (st' := [.int (l2 >>> ((5 : Int32) &&& 31)), .ref 37, .ref l1]) (by decide +kernel) rfl rfl ?_
  refine ab_fin.s2 (i := .iload_n 2) (k := 1) (pc' := 9) (lv' := [(0, .ref 0), (1, .ref l1), (2, .int l2)]) (st' := [.int l2, .int (l2 >>> ((5 : Int32) &&& 31)), .ref 37, .ref l1]) (by decide +kernel) rfl rfl ?_
  refine ab_fin.s1i (i := .bipush 31) (k := 2) (pc' := 11) (n := 31) (by decide +kernel) rfl (by decide +kernel) rfl ?_
  refine ab_fin.s1 (i := .iand) (k := 1) (pc' := 12) (st' := [.int (l2 &&& (31 : Int32)), .int (l2 >>> ((5 : Int32) &&& 31)), .ref 37, .ref l1]) (by decide +kernel) rfl rfl ?_
  obtain ⟨e1, w⟩ := w
  refine ab_fin.q_yI (i := .invokevirtual 7) (k := 3) (y := 4867) (As := [.ref l1, .ref 37, .int (l2 >>> ((5 : Int32) &&& 31)), .int (l2 &&& (31 : Int32))]) (rest := []) (M' := (mX19_is, [])) (lv2 := [(0, .ref l1), (1, .ref 37), (2, .int (l2 >>> ((5 : Int32) &&& 31))), (3, .int (l2 &&& (31 : Int32)))]) (pc' := 15) (X := K) (by decide +kernel) (ab_cv rfl rfl (conc_get (σ := σ) (F.s e1)) ⟨(Nat.le_of_ble_eq_true rfl), (Nat.le_of_ble_eq_true rfl)⟩ rfl) rfl (Nat.le_of_ble_eq_true rfl) rfl rfl (hY_no fun E => rfl) w (fun v4 τ2 F3 w => ?_)
  exact ab_fin.q_rtN (ty := .boolean) (by decide +kernel) rfl w.1 F3 w.2
theorem S_X23_isSame_0 {Z : zT} {d : Nat} {σ : Sg} {l1 : Int32} {l2 : Int32} {K : kS} (F : FX ΦR σ.sh σ.r) (w : ((l1 &&& (31 : Int32)) = (l2 &&& (31 : Int32)) → B_X23_isSame_15 Z (d + 1) σ l1 l2 0 K) ∧ (¬ (l1 &&& (31 : Int32)) = (l2 &&& (31 : Int32)) → K (.inl (some (.int 0))) σ)) : B_X23_isSame_0 Z (d + 1) σ l1 l2 K := by
  unfold B_X23_isSame_0
  refine ab_fin.s2 (i := .iload_n 1) (k := 1) (pc' := 1) (lv' := [(0, .ref 0), (1, .int l1), (2, .int l2)]) (st' := [.int l1]) (by decide +kernel) rfl rfl ?_
  refine ab_fin.s1i (i := .bipush 31) (k := 2) (pc' := 3) (n := 31) (by decide +kernel) rfl (by decide +kernel) rfl ?_
  refine ab_fin.s1 (i := .iand) (k := 1) (pc' := 4) (st' := [.int (l1 &&& (31 : Int32))]) (by decide +kernel) rfl rfl ?_
  refine ab_fin.s2 (i := .iload_n 2) (k := 1) (pc' := 5) (lv' := [(0, .ref 0), (1, .int l1), (2, .int l2)]) (st' := [.int l2, .int (l1 &&& (31 : Int32))]) (by decide +kernel) rfl rfl ?_
  refine ab_fin.s1i (i := .bipush 31) (k := 2) (pc' := 7) (n := 31) (by decide +kernel) rfl (by decide +kernel) rfl ?_
  refine ab_fin.s1 (i := .iand) (k := 1) (pc' := 8) (st' := [.int (l2 &&& (31 : Int32)), .int (l1 &&& (31 : Int32))]) (by decide +kernel) rfl rfl ?_
  refine ab_fin.br (c := (l1 &&& (31 : Int32)) = (l2 &&& (31 : Int32))) (i := .if_icmp .eq 5) (off := 5) (t := 13) (pc' := 11) (r := []) (by decide +kernel) rfl (by decide +kernel) rfl (fun q => ?_) (fun q => ?_)
  · replace w := w.1 q
    refine ab_fin.s1i (i := .iconst 0) (k := 1) (pc' := 14) (n := 0) (by decide +kernel) rfl (by decide +kernel) rfl ?_
    refine ab_fin.s2 (i := .istore_n 3) (k := 1) (pc' := 15) (lv' := [(3, .int 0), (0, .ref 0), (1, .int l1), (2, .int l2)]) (st' := []) (by decide +kernel) rfl rfl ?_
    exact ab_fin.lv ⟨(List.forall_mem_cons.mpr ⟨(List.Mem.tail _ (List.Mem.head _)), (List.forall_mem_cons.mpr ⟨(List.Mem.tail _ (List.Mem.tail _ (List.Mem.head _))), (List.forall_mem_cons.mpr ⟨(List.Mem.tail _ (List.Mem.tail _ (List.Mem.tail _ (List.Mem.head _)))), (List.forall_mem_cons.mpr ⟨(List.Mem.head _), (fun _ h => absurd h List.not_mem_nil)⟩)⟩)⟩)⟩), (show ([3, 0, 1, 2] : List Nat).Nodup from by decide)⟩ w
  · replace w := w.2 q
    refine ab_fin.s1i (i := .iconst 0) (k := 1) (pc' := 12) (n := 0) (by decide +kernel) rfl (by decide +kernel) rfl ?_
    exact ab_fin.q_ret (i := .ireturn) (k := 1) (v := some (.int 0)) (by decide +kernel) rfl F w
theorem S_X23_isSame_15 {Z : zT} {d : Nat} {σ : Sg} {l1 : Int32} {l2 : Int32} {l3 : Int32} {K : kS} (F : FX ΦR σ.sh σ.r) (w : ((l1 &&& (31 : Int32)) ≤ l3 → K (.inl (some (.int 1))) σ) ∧ (¬ (l1 &&& (31 : Int32)) ≤ l3 → ib ((l1 >>> ((5 : Int32) &&& 31)) + l3) 8192 ∧ (ib ((l2 >>> ((5 : Int32) &&& 31)) + l3) 8192 ∧ (((σ.i 37 (((l1 >>> ((5 : Int32) &&& 31)) + l3).toNatClampNeg)) = (σ.i 37 (((l2 >>> ((5 : Int32) &&& 31)) + l3).toNatClampNeg)) → B_X23_isSame_15 Z (d + 1) σ l1 l2 (l3 + 1) K) ∧ (¬ (σ.i 37 (((l1 >>> ((5 : Int32) &&& 31)) + l3).toNatClampNeg)) = (σ.i 37 (((l2 >>> ((5 : Int32) &&& 31)) + l3).toNatClampNeg)) → K (.inl (some (.int 0))) σ))))) : B_X23_isSame_15 Z (d + 1) σ l1 l2 l3 K := by
  unfold B_X23_isSame_15
  refine ab_fin.s2 (i := .iload_n 3) (k := 1) (pc' := 16) (lv' := [(0, .ref 0), (1, .int l1), (2, .int l2), (3, .int l3)]) (st' := [.int l3]) (by decide +kernel) rfl rfl ?_
  refine ab_fin.s2 (i := .iload_n 1) (k := 1) (pc' := 17) (lv' := [(0, .ref 0), (1, .int l1), (2, .int l2), (3, .int l3)]) (st' := [.int l1, .int l3]) (by decide +kernel) rfl rfl ?_
  refine ab_fin.s1i (i := .bipush 31) (k := 2) (pc' := 19) (n := 31) (by decide +kernel) rfl (by decide +kernel) rfl ?_
  refine ab_fin.s1 (i := .iand) (k := 1) (pc' := 20) (st' := [.int (l1 &&& (31 : Int32)), .int l3]) (by decide +kernel) rfl rfl ?_
  refine ab_fin.br (c := (l1 &&& (31 : Int32)) ≤ l3) (i := .if_icmp .ge 34) (off := 34) (t := 54) (pc' := 23) (r := []) (by decide +kernel) rfl (by decide +kernel) rfl (fun q => ?_) (fun q => ?_)
  · replace w := w.1 q
    refine ab_fin.s1i (i := .iconst 1) (k := 1) (pc' := 55) (n := 1) (by decide +kernel) rfl (by decide +kernel) rfl ?_
    exact ab_fin.q_ret (i := .ireturn) (k := 1) (v := some (.int 1)) (by decide +kernel) rfl F w
  · replace w := w.2 q
    refine ab_fin.s2 (i := .aload_n 0) (k := 1) (pc' := 24) (lv' := [(0, .ref 0), (1, .int l1), (2, .int l2), (3, .int l3)]) (st' := [.ref 0]) (by decide +kernel) rfl rfl ?_
    refine ab_fin.q_rA (b := 37) (ix := 1) (ci := 24) (k := 14) (pc' := 27) (by decide +kernel) rfl (c_rA (F.s s0_0) rfl (rM_14 F)) rfl ?_
    refine ab_fin.s2 (i := .iload_n 1) (k := 1) (pc' := 28) (lv' := [(0, .ref 0), (1, .int l1), (2, .int l2), (3, .int l3)]) (st' := [.int l1, .ref 37]) (by decide +kernel) rfl rfl ?_
    refine ab_fin.s1i (i := .iconst 5) (k := 1) (pc' := 29) (n := 5) (by decide +kernel) rfl (by decide +kernel) rfl ?_
    refine ab_fin.s1 (i := .ishr) (k := 1) (pc' := 30) (st' := [.int (l1 >>> ((5 : Int32) &&& 31)), .ref 37]) (by decide +kernel) rfl rfl ?_
    refine ab_fin.s2 (i := .iload_n 3) (k := 1) (pc' := 31) (lv' := [(0, .ref 0), (1, .int l1), (2, .int l2), (3, .int l3)]) (st' := [.int l3, .int (l1 >>> ((5 : Int32) &&& 31)), .ref 37]) (by decide +kernel) rfl rfl ?_
    refine ab_fin.s1 (i := .iadd) (k := 1) (pc' := 32) (st' := [.int ((l1 >>> ((5 : Int32) &&& 31)) + l3), .ref 37]) (by decide +kernel) rfl rfl ?_
    obtain ⟨e1, w⟩ := w
    refine ab_fin.q_eB (x := (σ.i 37 (((l1 >>> ((5 : Int32) &&& 31)) + l3).toNatClampNeg))) (pc' := 33) (by decide +kernel) (c_eB2' (F.s s0_37) e1 rfl) rfl ?_
    refine ab_fin.s2 (i := .aload_n 0) (k := 1) (pc' := 34) (lv' := [(0, .ref 0), (1, .int l1), (2, .int l2), (3, .int l3)]) (st' := [.ref 0, .int (σ.i 37 (((l1 >>> ((5 : Int32) &&& 31)) + l3).toNatClampNeg))]) (by decide +kernel) rfl rfl ?_
    refine ab_fin.q_rA (b := 37) (ix := 1) (ci := 24) (k := 14) (pc' := 37) (by decide +kernel) rfl (c_rA (F.s s0_0) rfl (rM_14 F)) rfl ?_
    refine ab_fin.s2 (i := .iload_n 2) (k := 1) (pc' := 38) (lv' := [(0, .ref 0), (1, .int l1), (2, .int l2), (3, .int l3)]) (st' := [.int l2, .ref 37, .int (σ.i 37 (((l1 >>> ((5 : Int32) &&& 31)) + l3).toNatClampNeg))]) (by decide +kernel) rfl rfl ?_
    refine ab_fin.s1i (i := .iconst 5) (k := 1) (pc' := 39) (n := 5) (by decide +kernel) rfl (by decide +kernel) rfl ?_
    refine ab_fin.s1 (i := .ishr) (k := 1) (pc' := 40) (st' := [.int (l2 >>> ((5 : Int32) &&& 31)), .ref 37, .int (σ.i 37 (((l1 >>> ((5 : Int32) &&& 31)) + l3).toNatClampNeg))]) (by decide +kernel) rfl rfl ?_
    refine ab_fin.s2 (i := .iload_n 3) (k := 1) (pc' := 41) (lv' := [(0, .ref 0), (1, .int l1), (2, .int l2), (3, .int l3)]) (st' := [.int l3, .int (l2 >>> ((5 : Int32) &&& 31)), .ref 37, .int (σ.i 37 (((l1 >>> ((5 : Int32) &&& 31)) + l3).toNatClampNeg))]) (by decide +kernel) rfl rfl ?_
    refine ab_fin.s1 (i := .iadd) (k := 1) (pc' := 42) (st' := [.int ((l2 >>> ((5 : Int32) &&& 31)) + l3), .ref 37, .int (σ.i 37 (((l1 >>> ((5 : Int32) &&& 31)) + l3).toNatClampNeg))]) (by decide +kernel) rfl rfl ?_
    obtain ⟨e2, w⟩ := w
    refine ab_fin.q_eB (x := (σ.i 37 (((l2 >>> ((5 : Int32) &&& 31)) + l3).toNatClampNeg))) (pc' := 43) (by decide +kernel) (c_eB2' (F.s s0_37) e2 rfl) rfl ?_
    refine ab_fin.br (c := (σ.i 37 (((l1 >>> ((5 : Int32) &&& 31)) + l3).toNatClampNeg)) = (σ.i 37 (((l2 >>> ((5 : Int32) &&& 31)) + l3).toNatClampNeg))) (i := .if_icmp .eq 5) (off := 5) (t := 48) (pc' := 46) (r := []) (by decide +kernel) rfl (by decide +kernel) rfl (fun q => ?_) (fun q => ?_)
    · replace w := w.1 q
      refine ab_fin.q_inc (n := 3) (c := 1) (pc' := 51) (lv' := [(3, .int (l3 + 1)), (0, .ref 0), (1, .int l1), (2, .int l2)]) (by decide +kernel) (by decide) rfl rfl rfl rfl ?_
      refine ab_fin.s3 (i := .goto (-36)) (k := 3) (t := 15) (st' := []) (by decide +kernel) (ab_gto (by decide +kernel)) ?_
      exact ab_fin.lv ⟨(List.forall_mem_cons.mpr ⟨(List.Mem.tail _ (List.Mem.head _)), (List.forall_mem_cons.mpr ⟨(List.Mem.tail _ (List.Mem.tail _ (List.Mem.head _))), (List.forall_mem_cons.mpr ⟨(List.Mem.tail _ (List.Mem.tail _ (List.Mem.tail _ (List.Mem.head _)))), (List.forall_mem_cons.mpr ⟨(List.Mem.head _), (fun _ h => absurd h List.not_mem_nil)⟩)⟩)⟩)⟩), (show ([3, 0, 1, 2] : List Nat).Nodup from by decide)⟩ w
    · replace w := w.2 q
      refine ab_fin.s1i (i := .iconst 0) (k := 1) (pc' := 47) (n := 0) (by decide +kernel) rfl (by decide +kernel) rfl ?_
      exact ab_fin.q_ret (i := .ireturn) (k := 1) (v := some (.int 0)) (by decide +kernel) rfl F w
theorem S_X23_kindNamed_0 {Z : zT} {d : Nat} {σ : Sg} {l1 : Int32} {K : kS} (F : FX ΦR σ.sh σ.r) (w : B_X23_kindNamed_2 Z (d + 1) σ l1 0 K) : B_X23_kindNamed_0 Z (d + 1) σ l1 K := by
  unfold B_X23_kindNamed_0
  refine ab_fin.s1i (i := .iconst 0) (k := 1) (pc' := 1) (n := 0) (by decide +kernel) rfl (by decide +kernel) rfl ?_
  refine ab_fin.s2 (i := .istore_n 2) (k := 1) (pc' := 2) (lv' := [(2, .int 0), (0, .ref 0), (1, .int l1)]) (st' := []) (by decide +kernel) rfl rfl ?_
  exact ab_fin.lv ⟨(List.forall_mem_cons.mpr ⟨(List.Mem.tail _ (List.Mem.head _)), (List.forall_mem_cons.mpr ⟨(List.Mem.tail _ (List.Mem.tail _ (List.Mem.head _))), (List.forall_mem_cons.mpr ⟨(List.Mem.head _), (fun _ h => absurd h List.not_mem_nil)⟩)⟩)⟩), (show ([2, 0, 1] : List Nat).Nodup from by decide)⟩ w
theorem S_X23_kindNamed_2 {Z : zT} {d : Nat} {σ : Sg} {l1 : Int32} {l2 : Int32} {K : kS} (F : FX ΦR σ.sh σ.r) (w : ((σ.i 0 4) ≤ l2 → K (.inl (some (.int (-1)))) σ) ∧ (¬ (σ.i 0 4) ≤ l2 → ib l2 24 ∧ (B_X23_isName_0 Z d σ ((2193 + 9 * l2.toNatClampNeg) + 1) l1 (yI K fun v4 τ2 => (v4 = 0 → B_X23_kindNamed_2 Z (d + 1) τ2 l1 (l2 + 1) K) ∧ (¬ v4 = 0 → K (.inl (some (.int l2))) τ2))))) : B_X23_kindNamed_2 Z (d + 1) σ l1 l2 K := by
  unfold B_X23_kindNamed_2
  refine ab_fin.s2 (i := .iload_n 2) (k := 1) (pc' := 3) (lv' := [(0, .ref 0), (1, .int l1), (2, .int l2)]) (st' := [.int l2]) (by decide +kernel) rfl rfl ?_
  refine ab_fin.s2 (i := .aload_n 0) (k := 1) (pc' := 4) (lv' := [(0, .ref 0), (1, .int l1), (2, .int l2)]) (st' := [.ref 0, .int l2]) (by decide +kernel) rfl rfl ?_
  refine ab_fin.q_rI (x := (σ.i 0 4)) (ix := 13) (ci := 24) (k := 4) (pc' := 7) (by decide +kernel) rfl (c_rI (F.s s0_0) rfl) rfl ?_
  refine ab_fin.br (c := (σ.i 0 4) ≤ l2) (i := .if_icmp .ge 28) (off := 28) (t := 35) (pc' := 10) (r := []) (by decide +kernel) rfl (by decide +kernel) rfl (fun q => ?_) (fun q => ?_)
  · replace w := w.1 q
    refine ab_fin.s1i (i := .iconst (-1)) (k := 1) (pc' := 36) (n := (-1)) (by decide +kernel) rfl (by decide +kernel) rfl ?_
    exact ab_fin.q_ret (i := .ireturn) (k := 1) (v := some (.int (-1))) (by decide +kernel) rfl F w
  · replace w := w.2 q
    refine ab_fin.s2 (i := .aload_n 0) (k := 1) (pc' := 11) (lv' := [(0, .ref 0), (1, .int l1), (2, .int l2)]) (st' := [.ref 0]) (by decide +kernel) rfl rfl ?_
    refine ab_fin.s2 (i := .aload_n 0) (k := 1) (pc' := 12) (lv' := [(0, .ref 0), (1, .int l1), (2, .int l2)]) (st' := [.ref 0, .ref 0]) (by decide +kernel) rfl rfl ?_
    refine ab_fin.q_rA (b := 1) (ix := 17) (ci := 24) (k := 0) (pc' := 15) (by decide +kernel) rfl (c_rA (F.s s0_0) rfl (rM_0 F)) rfl ?_
    refine ab_fin.s2 (i := .iload_n 2) (k := 1) (pc' := 16) (lv' := [(0, .ref 0), (1, .int l1), (2, .int l2)]) (st' := [.int l2, .ref 1, .ref 0]) (by decide +kernel) rfl rfl ?_
    obtain ⟨e1, w⟩ := w
    refine ab_fin.q_eA (b := (2193 + 9 * l2.toNatClampNeg)) (pc' := 17) (by decide +kernel) (c_eA' (F.s s0_1) (by decide) rfl e1 rfl (rE_4 F s0_1)) rfl ?_
    refine ab_fin.q_rA (b := ((2193 + 9 * l2.toNatClampNeg) + 1)) (ix := 21) (ci := 18) (k := 0) (pc' := 20) (by decide +kernel) rfl (c_rA (F.s (kE_1 e1.2)) rfl (rO_18_0 F (kE_1 e1.2))) rfl ?_
    refine ab_fin.s2 (i := .iload_n 1) (k := 1) (pc' := 21) (lv' := [(0, .ref 0), (1, .int l1), (2, .int l2)]) (st' := [.int l1, .ref ((2193 + 9 * l2.toNatClampNeg) + 1), .ref 0]) (by decide +kernel) rfl rfl ?_
    refine ab_fin.q_yI (i := .invokevirtual 27) (k := 3) (y := 5888) (As := [.ref 0, .ref ((2193 + 9 * l2.toNatClampNeg) + 1), .int l1]) (rest := []) (M' := (mX23_isName, [])) (lv2 := [(0, .ref 0), (1, .ref ((2193 + 9 * l2.toNatClampNeg) + 1)), (2, .int l1)]) (pc' := 24) (X := K) (by decide +kernel) (ab_cv rfl rfl (conc_get (σ := σ) (F.s s0_0)) ⟨(Nat.le_of_ble_eq_true rfl), (Nat.le_of_ble_eq_true rfl)⟩ rfl) rfl (Nat.le_of_ble_eq_true rfl) rfl rfl (hY_no fun E => rfl) w (fun v4 τ2 F3 w => ?_)
    refine ab_fin.br (c := v4 = 0) (i := .ifCond .eq 5) (off := 5) (t := 29) (pc' := 27) (r := []) (by decide +kernel) rfl (by decide +kernel) rfl (fun q => ?_) (fun q => ?_)
    · replace w := w.1 q
      refine ab_fin.q_inc (n := 2) (c := 1) (pc' := 32) (lv' := [(2, .int (l2 + 1)), (0, .ref 0), (1, .int l1)]) (by decide +kernel) (by decide) rfl rfl rfl rfl ?_
      refine ab_fin.s3 (i := .goto (-30)) (k := 3) (t := 2) (st' := []) (by decide +kernel) (ab_gto (by decide +kernel)) ?_
      exact ab_fin.lv ⟨(List.forall_mem_cons.mpr ⟨(List.Mem.tail _ (List.Mem.head _)), (List.forall_mem_cons.mpr ⟨(List.Mem.tail _ (List.Mem.tail _ (List.Mem.head _))), (List.forall_mem_cons.mpr ⟨(List.Mem.head _), (fun _ h => absurd h List.not_mem_nil)⟩)⟩)⟩), (show ([2, 0, 1] : List Nat).Nodup from by decide)⟩ w
    · replace w := w.2 q
      refine ab_fin.s2 (i := .iload_n 2) (k := 1) (pc' := 28) (lv' := [(0, .ref 0), (1, .int l1), (2, .int l2)]) (st' := [.int l2]) (by decide +kernel) rfl rfl ?_
      exact ab_fin.q_ret (i := .ireturn) (k := 1) (v := some (.int l2)) (by decide +kernel) rfl F3 w
theorem S_X23_callNamed_0 {Z : zT} {d : Nat} {σ : Sg} {l1 : Int32} {K : kS} (F : FX ΦR σ.sh σ.r) (w : B_X23_callNamed_2 Z (d + 1) σ l1 0 K) : B_X23_callNamed_0 Z (d + 1) σ l1 K := by
  unfold B_X23_callNamed_0
  refine ab_fin.s1i (i := .iconst 0) (k := 1) (pc' := 1) (n := 0) (by decide +kernel) rfl (by decide +kernel) rfl ?_
  refine ab_fin.s2 (i := .istore_n 2) (k := 1) (pc' := 2) (lv' := [(2, .int 0), (0, .ref 0), (1, .int l1)]) (st' := []) (by decide +kernel) rfl rfl ?_
  exact ab_fin.lv ⟨(List.forall_mem_cons.mpr ⟨(List.Mem.tail _ (List.Mem.head _)), (List.forall_mem_cons.mpr ⟨(List.Mem.tail _ (List.Mem.tail _ (List.Mem.head _))), (List.forall_mem_cons.mpr ⟨(List.Mem.head _), (fun _ h => absurd h List.not_mem_nil)⟩)⟩)⟩), (show ([2, 0, 1] : List Nat).Nodup from by decide)⟩ w
theorem S_X23_callNamed_2 {Z : zT} {d : Nat} {σ : Sg} {l1 : Int32} {l2 : Int32} {K : kS} (F : FX ΦR σ.sh σ.r) (w : ((σ.i 0 5) ≤ l2 → K (.inl (some (.int (-1)))) σ) ∧ (¬ (σ.i 0 5) ≤ l2 → ib l2 24 ∧ (B_X23_isName_0 Z d σ ((2409 + 3 * l2.toNatClampNeg) + 1) l1 (yI K fun v4 τ2 => (v4 = 0 → B_X23_callNamed_2 Z (d + 1) τ2 l1 (l2 + 1) K) ∧ (¬ v4 = 0 → K (.inl (some (.int l2))) τ2))))) : B_X23_callNamed_2 Z (d + 1) σ l1 l2 K := by
  unfold B_X23_callNamed_2
  refine ab_fin.s2 (i := .iload_n 2) (k := 1) (pc' := 3) (lv' := [(0, .ref 0), (1, .int l1), (2, .int l2)]) (st' := [.int l2]) (by decide +kernel) rfl rfl ?_
  refine ab_fin.s2 (i := .aload_n 0) (k := 1) (pc' := 4) (lv' := [(0, .ref 0), (1, .int l1), (2, .int l2)]) (st' := [.ref 0, .int l2]) (by decide +kernel) rfl rfl ?_
  refine ab_fin.q_rI (x := (σ.i 0 5)) (ix := 31) (ci := 24) (k := 5) (pc' := 7) (by decide +kernel) rfl (c_rI (F.s s0_0) rfl) rfl ?_
  refine ab_fin.br (c := (σ.i 0 5) ≤ l2) (i := .if_icmp .ge 28) (off := 28) (t := 35) (pc' := 10) (r := []) (by decide +kernel) rfl (by decide +kernel) rfl (fun q => ?_) (fun q => ?_)
  · replace w := w.1 q
    refine ab_fin.s1i (i := .iconst (-1)) (k := 1) (pc' := 36) (n := (-1)) (by decide +kernel) rfl (by decide +kernel) rfl ?_
    exact ab_fin.q_ret (i := .ireturn) (k := 1) (v := some (.int (-1))) (by decide +kernel) rfl F w
  · replace w := w.2 q
    refine ab_fin.s2 (i := .aload_n 0) (k := 1) (pc' := 11) (lv' := [(0, .ref 0), (1, .int l1), (2, .int l2)]) (st' := [.ref 0]) (by decide +kernel) rfl rfl ?_
    refine ab_fin.s2 (i := .aload_n 0) (k := 1) (pc' := 12) (lv' := [(0, .ref 0), (1, .int l1), (2, .int l2)]) (st' := [.ref 0, .ref 0]) (by decide +kernel) rfl rfl ?_
    refine ab_fin.q_rA (b := 2) (ix := 34) (ci := 24) (k := 1) (pc' := 15) (by decide +kernel) rfl (c_rA (F.s s0_0) rfl (rM_1 F)) rfl ?_
    refine ab_fin.s2 (i := .iload_n 2) (k := 1) (pc' := 16) (lv' := [(0, .ref 0), (1, .int l1), (2, .int l2)]) (st' := [.int l2, .ref 2, .ref 0]) (by decide +kernel) rfl rfl ?_
    obtain ⟨e1, w⟩ := w
    refine ab_fin.q_eA (b := (2409 + 3 * l2.toNatClampNeg)) (pc' := 17) (by decide +kernel) (c_eA' (F.s s0_2) (by decide) rfl e1 rfl (rE_5 F s0_2)) rfl ?_
    refine ab_fin.q_rA (b := ((2409 + 3 * l2.toNatClampNeg) + 1)) (ix := 38) (ci := 14) (k := 0) (pc' := 20) (by decide +kernel) rfl (c_rA (F.s (kE_2 e1.2)) rfl (rO_14_0 F (kE_2 e1.2))) rfl ?_
    refine ab_fin.s2 (i := .iload_n 1) (k := 1) (pc' := 21) (lv' := [(0, .ref 0), (1, .int l1), (2, .int l2)]) (st' := [.int l1, .ref ((2409 + 3 * l2.toNatClampNeg) + 1), .ref 0]) (by decide +kernel) rfl rfl ?_
    refine ab_fin.q_yI (i := .invokevirtual 27) (k := 3) (y := 5888) (As := [.ref 0, .ref ((2409 + 3 * l2.toNatClampNeg) + 1), .int l1]) (rest := []) (M' := (mX23_isName, [])) (lv2 := [(0, .ref 0), (1, .ref ((2409 + 3 * l2.toNatClampNeg) + 1)), (2, .int l1)]) (pc' := 24) (X := K) (by decide +kernel) (ab_cv rfl rfl (conc_get (σ := σ) (F.s s0_0)) ⟨(Nat.le_of_ble_eq_true rfl), (Nat.le_of_ble_eq_true rfl)⟩ rfl) rfl (Nat.le_of_ble_eq_true rfl) rfl rfl (hY_no fun E => rfl) w (fun v4 τ2 F3 w => ?_)
    refine ab_fin.br (c := v4 = 0) (i := .ifCond .eq 5) (off := 5) (t := 29) (pc' := 27) (r := []) (by decide +kernel) rfl (by decide +kernel) rfl (fun q => ?_) (fun q => ?_)
    · replace w := w.1 q
      refine ab_fin.q_inc (n := 2) (c := 1) (pc' := 32) (lv' := [(2, .int (l2 + 1)), (0, .ref 0), (1, .int l1)]) (by decide +kernel) (by decide) rfl rfl rfl rfl ?_
      refine ab_fin.s3 (i := .goto (-30)) (k := 3) (t := 2) (st' := []) (by decide +kernel) (ab_gto (by decide +kernel)) ?_
      exact ab_fin.lv ⟨(List.forall_mem_cons.mpr ⟨(List.Mem.tail _ (List.Mem.head _)), (List.forall_mem_cons.mpr ⟨(List.Mem.tail _ (List.Mem.tail _ (List.Mem.head _))), (List.forall_mem_cons.mpr ⟨(List.Mem.head _), (fun _ h => absurd h List.not_mem_nil)⟩)⟩)⟩), (show ([2, 0, 1] : List Nat).Nodup from by decide)⟩ w
    · replace w := w.2 q
      refine ab_fin.s2 (i := .iload_n 2) (k := 1) (pc' := 28) (lv' := [(0, .ref 0), (1, .int l1), (2, .int l2)]) (st' := [.int l2]) (by decide +kernel) rfl rfl ?_
      exact ab_fin.q_ret (i := .ireturn) (k := 1) (v := some (.int l2)) (by decide +kernel) rfl F3 w
theorem S_X23_layerNamed_0 {Z : zT} {d : Nat} {σ : Sg} {l1 : Int32} {K : kS} (F : FX ΦR σ.sh σ.r) (w : B_X23_layerNamed_2 Z (d + 1) σ l1 0 K) : B_X23_layerNamed_0 Z (d + 1) σ l1 K := by
  unfold B_X23_layerNamed_0
  refine ab_fin.s1i (i := .iconst 0) (k := 1) (pc' := 1) (n := 0) (by decide +kernel) rfl (by decide +kernel) rfl ?_
  refine ab_fin.s2 (i := .istore_n 2) (k := 1) (pc' := 2) (lv' := [(2, .int 0), (0, .ref 0), (1, .int l1)]) (st' := []) (by decide +kernel) rfl rfl ?_
  exact ab_fin.lv ⟨(List.forall_mem_cons.mpr ⟨(List.Mem.tail _ (List.Mem.head _)), (List.forall_mem_cons.mpr ⟨(List.Mem.tail _ (List.Mem.tail _ (List.Mem.head _))), (List.forall_mem_cons.mpr ⟨(List.Mem.head _), (fun _ h => absurd h List.not_mem_nil)⟩)⟩)⟩), (show ([2, 0, 1] : List Nat).Nodup from by decide)⟩ w
theorem S_X23_layerNamed_2 {Z : zT} {d : Nat} {σ : Sg} {l1 : Int32} {l2 : Int32} {K : kS} (F : FX ΦR σ.sh σ.r) (w : ((σ.i 0 7) ≤ l2 → K (.inl (some (.int (-1)))) σ) ∧ (¬ (σ.i 0 7) ≤ l2 → ib l2 8 ∧ (B_X23_isName_0 Z d σ (2481 + 2 * l2.toNatClampNeg) l1 (yI K fun v4 τ2 => (v4 = 0 → B_X23_layerNamed_2 Z (d + 1) τ2 l1 (l2 + 1) K) ∧ (¬ v4 = 0 → K (.inl (some (.int l2))) τ2))))) : B_X23_layerNamed_2 Z (d + 1) σ l1 l2 K := by
  unfold B_X23_layerNamed_2
  refine ab_fin.s2 (i := .iload_n 2) (k := 1) (pc' := 3) (lv' := [(0, .ref 0), (1, .int l1), (2, .int l2)]) (st' := [.int l2]) (by decide +kernel) rfl rfl ?_
  refine ab_fin.s2 (i := .aload_n 0) (k := 1) (pc' := 4) (lv' := [(0, .ref 0), (1, .int l1), (2, .int l2)]) (st' := [.ref 0, .int l2]) (by decide +kernel) rfl rfl ?_
  refine ab_fin.q_rI (x := (σ.i 0 7)) (ix := 41) (ci := 24) (k := 7) (pc' := 7) (by decide +kernel) rfl (c_rI (F.s s0_0) rfl) rfl ?_
  refine ab_fin.br (c := (σ.i 0 7) ≤ l2) (i := .if_icmp .ge 25) (off := 25) (t := 32) (pc' := 10) (r := []) (by decide +kernel) rfl (by decide +kernel) rfl (fun q => ?_) (fun q => ?_)
  · replace w := w.1 q
    refine ab_fin.s1i (i := .iconst (-1)) (k := 1) (pc' := 33) (n := (-1)) (by decide +kernel) rfl (by decide +kernel) rfl ?_
    exact ab_fin.q_ret (i := .ireturn) (k := 1) (v := some (.int (-1))) (by decide +kernel) rfl F w
  · replace w := w.2 q
    refine ab_fin.s2 (i := .aload_n 0) (k := 1) (pc' := 11) (lv' := [(0, .ref 0), (1, .int l1), (2, .int l2)]) (st' := [.ref 0]) (by decide +kernel) rfl rfl ?_
    refine ab_fin.s2 (i := .aload_n 0) (k := 1) (pc' := 12) (lv' := [(0, .ref 0), (1, .int l1), (2, .int l2)]) (st' := [.ref 0, .ref 0]) (by decide +kernel) rfl rfl ?_
    refine ab_fin.q_rA (b := 4) (ix := 44) (ci := 24) (k := 3) (pc' := 15) (by decide +kernel) rfl (c_rA (F.s s0_0) rfl (rM_3 F)) rfl ?_
    refine ab_fin.s2 (i := .iload_n 2) (k := 1) (pc' := 16) (lv' := [(0, .ref 0), (1, .int l1), (2, .int l2)]) (st' := [.int l2, .ref 4, .ref 0]) (by decide +kernel) rfl rfl ?_
    obtain ⟨e1, w⟩ := w
    refine ab_fin.q_eA (b := (2481 + 2 * l2.toNatClampNeg)) (pc' := 17) (by decide +kernel) (c_eA' (F.s s0_4) (by decide) rfl e1 rfl (rE_7 F s0_4)) rfl ?_
    refine ab_fin.s2 (i := .iload_n 1) (k := 1) (pc' := 18) (lv' := [(0, .ref 0), (1, .int l1), (2, .int l2)]) (st' := [.int l1, .ref (2481 + 2 * l2.toNatClampNeg), .ref 0]) (by decide +kernel) rfl rfl ?_
    refine ab_fin.q_yI (i := .invokevirtual 27) (k := 3) (y := 5888) (As := [.ref 0, .ref (2481 + 2 * l2.toNatClampNeg), .int l1]) (rest := []) (M' := (mX23_isName, [])) (lv2 := [(0, .ref 0), (1, .ref (2481 + 2 * l2.toNatClampNeg)), (2, .int l1)]) (pc' := 21) (X := K) (by decide +kernel) (ab_cv rfl rfl (conc_get (σ := σ) (F.s s0_0)) ⟨(Nat.le_of_ble_eq_true rfl), (Nat.le_of_ble_eq_true rfl)⟩ rfl) rfl (Nat.le_of_ble_eq_true rfl) rfl rfl (hY_no fun E => rfl) w (fun v4 τ2 F3 w => ?_)
    refine ab_fin.br (c := v4 = 0) (i := .ifCond .eq 5) (off := 5) (t := 26) (pc' := 24) (r := []) (by decide +kernel) rfl (by decide +kernel) rfl (fun q => ?_) (fun q => ?_)
    · replace w := w.1 q
      refine ab_fin.q_inc (n := 2) (c := 1) (pc' := 29) (lv' := [(2, .int (l2 + 1)), (0, .ref 0), (1, .int l1)]) (by decide +kernel) (by decide) rfl rfl rfl rfl ?_
      refine ab_fin.s3 (i := .goto (-27)) (k := 3) (t := 2) (st' := []) (by decide +kernel) (ab_gto (by decide +kernel)) ?_
      exact ab_fin.lv ⟨(List.forall_mem_cons.mpr ⟨(List.Mem.tail _ (List.Mem.head _)), (List.forall_mem_cons.mpr ⟨(List.Mem.tail _ (List.Mem.tail _ (List.Mem.head _))), (List.forall_mem_cons.mpr ⟨(List.Mem.head _), (fun _ h => absurd h List.not_mem_nil)⟩)⟩)⟩), (show ([2, 0, 1] : List Nat).Nodup from by decide)⟩ w
    · replace w := w.2 q
      refine ab_fin.s2 (i := .iload_n 2) (k := 1) (pc' := 25) (lv' := [(0, .ref 0), (1, .int l1), (2, .int l2)]) (st' := [.int l2]) (by decide +kernel) rfl rfl ?_
      exact ab_fin.q_ret (i := .ireturn) (k := 1) (v := some (.int l2)) (by decide +kernel) rfl F3 w
theorem S_X23_isTold_0 {Z : zT} {d : Nat} {σ : Sg} {l1 : Int32} {K : kS} (F : FX ΦR σ.sh σ.r) (w : B_X23_kindNamed_0 Z d σ l1 (yI K fun v3 τ1 => (0 ≤ v3 → K (.inl (some (.int 1))) τ1) ∧ (¬ 0 ≤ v3 → B_X23_callNamed_0 Z d τ1 l1 (yI K fun v6 τ4 => (0 ≤ v6 → K (.inl (some (.int 1))) τ4) ∧ (¬ 0 ≤ v6 → B_X23_layerNamed_0 Z d τ4 l1 (yI K fun v9 τ7 => (v9 < 0 → K (.inl (some (.int 0))) τ7) ∧ (¬ v9 < 0 → K (.inl (some (.int 1))) τ7))))))) : B_X23_isTold_0 Z (d + 1) σ l1 K := by
  unfold B_X23_isTold_0
  refine ab_fin.s2 (i := .aload_n 0) (k := 1) (pc' := 1) (lv' := [(0, .ref 0), (1, .int l1)]) (st' := [.ref 0]) (by decide +kernel) rfl rfl ?_
  refine ab_fin.s2 (i := .iload_n 1) (k := 1) (pc' := 2) (lv' := [(0, .ref 0), (1, .int l1)]) (st' := [.int l1, .ref 0]) (by decide +kernel) rfl rfl ?_
  refine ab_fin.q_yI (i := .invokevirtual 48) (k := 3) (y := 5890) (As := [.ref 0, .int l1]) (rest := []) (M' := (mX23_kindNamed, [])) (lv2 := [(0, .ref 0), (1, .int l1)]) (pc' := 5) (X := K) (by decide +kernel) (ab_cv rfl rfl (conc_get (σ := σ) (F.s s0_0)) ⟨(Nat.le_of_ble_eq_true rfl), (Nat.le_of_ble_eq_true rfl)⟩ rfl) rfl (Nat.le_of_ble_eq_true rfl) rfl rfl (hY_no fun E => rfl) w (fun v3 τ1 F2 w => ?_)
  refine ab_fin.br (c := 0 ≤ v3) (i := .ifCond .ge 19) (off := 19) (t := 24) (pc' := 8) (r := []) (by decide +kernel) rfl (by decide +kernel) rfl (fun q => ?_) (fun q => ?_)
  · replace w := w.1 q
    refine ab_fin.s1i (i := .iconst 1) (k := 1) (pc' := 25) (n := 1) (by decide +kernel) rfl (by decide +kernel) rfl ?_
    refine ab_fin.s3 (i := .goto 4) (k := 3) (t := 29) (st' := [.int 1]) (by decide +kernel) (ab_gto (by decide +kernel)) ?_
    exact ab_fin.q_ret (i := .ireturn) (k := 1) (v := some (.int 1)) (by decide +kernel) rfl F2 w
  · replace w := w.2 q
    refine ab_fin.s2 (i := .aload_n 0) (k := 1) (pc' := 9) (lv' := [(0, .ref 0), (1, .int l1)]) (st' := [.ref 0]) (by decide +kernel) rfl rfl ?_
    refine ab_fin.s2 (i := .iload_n 1) (k := 1) (pc' := 10) (lv' := [(0, .ref 0), (1, .int l1)]) (st' := [.int l1, .ref 0]) (by decide +kernel) rfl rfl ?_
    refine ab_fin.q_yI (i := .invokevirtual 52) (k := 3) (y := 5891) (As := [.ref 0, .int l1]) (rest := []) (M' := (mX23_callNamed, [])) (lv2 := [(0, .ref 0), (1, .int l1)]) (pc' := 13) (X := K) (by decide +kernel) (ab_cv rfl rfl (conc_get (σ := τ1) (F2.s s0_0)) ⟨(Nat.le_of_ble_eq_true rfl), (Nat.le_of_ble_eq_true rfl)⟩ rfl) rfl (Nat.le_of_ble_eq_true rfl) rfl rfl (hY_no fun E => rfl) w (fun v6 τ4 F5 w => ?_)
    refine ab_fin.br (c := 0 ≤ v6) (i := .ifCond .ge 11) (off := 11) (t := 24) (pc' := 16) (r := []) (by decide +kernel) rfl (by decide +kernel) rfl (fun q => ?_) (fun q => ?_)
    · replace w := w.1 q
      refine ab_fin.s1i (i := .iconst 1) (k := 1) (pc' := 25) (n := 1) (by decide +kernel) rfl (by decide +kernel) rfl ?_
      refine ab_fin.s3 (i := .goto 4) (k := 3) (t := 29) (st' := [.int 1]) (by decide +kernel) (ab_gto (by decide +kernel)) ?_
      exact ab_fin.q_ret (i := .ireturn) (k := 1) (v := some (.int 1)) (by decide +kernel) rfl F5 w
    · replace w := w.2 q
      refine ab_fin.s2 (i := .aload_n 0) (k := 1) (pc' := 17) (lv' := [(0, .ref 0), (1, .int l1)]) (st' := [.ref 0]) (by decide +kernel) rfl rfl ?_
      refine ab_fin.s2 (i := .iload_n 1) (k := 1) (pc' := 18) (lv' := [(0, .ref 0), (1, .int l1)]) (st' := [.int l1, .ref 0]) (by decide +kernel) rfl rfl ?_
      refine ab_fin.q_yI (i := .invokevirtual 55) (k := 3) (y := 5892) (As := [.ref 0, .int l1]) (rest := []) (M' := (mX23_layerNamed, [])) (lv2 := [(0, .ref 0), (1, .int l1)]) (pc' := 21) (X := K) (by decide +kernel) (ab_cv rfl rfl (conc_get (σ := τ4) (F5.s s0_0)) ⟨(Nat.le_of_ble_eq_true rfl), (Nat.le_of_ble_eq_true rfl)⟩ rfl) rfl (Nat.le_of_ble_eq_true rfl) rfl rfl (hY_no fun E => rfl) w (fun v9 τ7 F8 w => ?_)
      refine ab_fin.br (c := v9 < 0) (i := .ifCond .lt 7) (off := 7) (t := 28) (pc' := 24) (r := []) (by decide +kernel) rfl (by decide +kernel) rfl (fun q => ?_) (fun q => ?_)
      · replace w := w.1 q
        refine ab_fin.s1i (i := .iconst 0) (k := 1) (pc' := 29) (n := 0) (by decide +kernel) rfl (by decide +kernel) rfl ?_
        exact ab_fin.q_ret (i := .ireturn) (k := 1) (v := some (.int 0)) (by decide +kernel) rfl F8 w
      · replace w := w.2 q
        refine ab_fin.s1i (i := .iconst 1) (k := 1) (pc' := 25) (n := 1) (by decide +kernel) rfl (by decide +kernel) rfl ?_
        refine ab_fin.s3 (i := .goto 4) (k := 3) (t := 29) (st' := [.int 1]) (by decide +kernel) (ab_gto (by decide +kernel)) ?_
        exact ab_fin.q_ret (i := .ireturn) (k := 1) (v := some (.int 1)) (by decide +kernel) rfl F8 w
theorem S_X23_isBelow_0 {Z : zT} {d : Nat} {σ : Sg} {l1 : Int32} {l2 : Int32} {K : kS} (F : FX ΦR σ.sh σ.r) (w : ib l1 24 ∧ (B_X17_place_0 Z d σ (2193 + 9 * l1.toNatClampNeg) 1 l2 (yI K fun v4 τ2 => (v4 < 0 → K (.inl (some (.int 0))) τ2) ∧ (¬ v4 < 0 → K (.inl (some (.int 1))) τ2)))) : B_X23_isBelow_0 Z (d + 1) σ l1 l2 K := by
  unfold B_X23_isBelow_0
  refine ab_fin.s2 (i := .aload_n 0) (k := 1) (pc' := 1) (lv' := [(0, .ref 0), (1, .int l1), (2, .int l2)]) (st' := [.ref 0]) (by decide +kernel) rfl rfl ?_
  refine ab_fin.q_rA (b := 1) (ix := 17) (ci := 24) (k := 0) (pc' := 4) (by decide +kernel) rfl (c_rA (F.s s0_0) rfl (rM_0 F)) rfl ?_
  refine ab_fin.s2 (i := .iload_n 1) (k := 1) (pc' := 5) (lv' := [(0, .ref 0), (1, .int l1), (2, .int l2)]) (st' := [.int l1, .ref 1]) (by decide +kernel) rfl rfl ?_
  obtain ⟨e1, w⟩ := w
  refine ab_fin.q_eA (b := (2193 + 9 * l1.toNatClampNeg)) (pc' := 6) (by decide +kernel) (c_eA' (F.s s0_1) (by decide) rfl e1 rfl (rE_4 F s0_1)) rfl ?_
  refine ab_fin.s1i (i := .iconst 1) (k := 1) (pc' := 7) (n := 1) (by decide +kernel) rfl (by decide +kernel) rfl ?_
  refine ab_fin.s2 (i := .iload_n 2) (k := 1) (pc' := 8) (lv' := [(0, .ref 0), (1, .int l1), (2, .int l2)]) (st' := [.int l2, .int 1, .ref (2193 + 9 * l1.toNatClampNeg)]) (by decide +kernel) rfl rfl ?_
  refine ab_fin.q_yI (i := .invokevirtual 58) (k := 3) (y := 4353) (As := [.ref (2193 + 9 * l1.toNatClampNeg), .int 1, .int l2]) (rest := []) (M' := (mX17_place, [])) (lv2 := [(0, .ref (2193 + 9 * l1.toNatClampNeg)), (1, .int 1), (2, .int l2)]) (pc' := 11) (X := K) (by decide +kernel) (ab_cv rfl rfl (conc_get (σ := σ) (F.s (kE_1 e1.2))) ⟨(Nat.le_of_ble_eq_true rfl), (Nat.le_of_ble_eq_true rfl)⟩ rfl) rfl (Nat.le_of_ble_eq_true rfl) rfl rfl (hY_no fun E => rfl) w (fun v4 τ2 F3 w => ?_)
  refine ab_fin.br (c := v4 < 0) (i := .ifCond .lt 7) (off := 7) (t := 18) (pc' := 14) (r := []) (by decide +kernel) rfl (by decide +kernel) rfl (fun q => ?_) (fun q => ?_)
  · replace w := w.1 q
    refine ab_fin.s1i (i := .iconst 0) (k := 1) (pc' := 19) (n := 0) (by decide +kernel) rfl (by decide +kernel) rfl ?_
    exact ab_fin.q_ret (i := .ireturn) (k := 1) (v := some (.int 0)) (by decide +kernel) rfl F3 w
  · replace w := w.2 q
    refine ab_fin.s1i (i := .iconst 1) (k := 1) (pc' := 15) (n := 1) (by decide +kernel) rfl (by decide +kernel) rfl ?_
    refine ab_fin.s3 (i := .goto 4) (k := 3) (t := 19) (st' := [.int 1]) (by decide +kernel) (ab_gto (by decide +kernel)) ?_
    exact ab_fin.q_ret (i := .ireturn) (k := 1) (v := some (.int 1)) (by decide +kernel) rfl F3 w
theorem S_X23_makeRows_0 {Z : zT} {d : Nat} {σ : Sg} {l1 : Int32} {K : kS} (F : FX ΦR σ.sh σ.r) (w : ib l1 24 ∧ (B_X23_joined_0 Z d σ (2193 + 9 * l1.toNatClampNeg) l1 1 (yN K fun τ2 => B_X23_joined_0 Z d τ2 (2193 + 9 * l1.toNatClampNeg) l1 2 (yN K fun τ4 => B_X23_makeRows_29 Z (d + 1) τ4 l1 (2193 + 9 * l1.toNatClampNeg) (τ4.i (2193 + 9 * l1.toNatClampNeg) 3) 0 K)))) : B_X23_makeRows_0 Z (d + 1) σ l1 K := by
  unfold B_X23_makeRows_0
  refine ab_fin.s2 (i := .aload_n 0) (k := 1) (pc' := 1) (lv' := [(0, .ref 0), (1, .int l1)]) (st' := [.ref 0]) (by decide +kernel) rfl rfl ?_
  refine ab_fin.q_rA (b := 1) (ix := 17) (ci := 24) (k := 0) (pc' := 4) (by decide +kernel) rfl (c_rA (F.s s0_0) rfl (rM_0 F)) rfl ?_
  refine ab_fin.s2 (i := .iload_n 1) (k := 1) (pc' := 5) (lv' := [(0, .ref 0), (1, .int l1)]) (st' := [.int l1, .ref 1]) (by decide +kernel) rfl rfl ?_
  obtain ⟨e1, w⟩ := w
  refine ab_fin.q_eA (b := (2193 + 9 * l1.toNatClampNeg)) (pc' := 6) (by decide +kernel) (c_eA' (F.s s0_1) (by decide) rfl e1 rfl (rE_4 F s0_1)) rfl ?_
  refine ab_fin.s2 (i := .astore_n 2) (k := 1) (pc' := 7) (lv' := [(2, .ref (2193 + 9 * l1.toNatClampNeg)), (0, .ref 0), (1, .int l1)]) (st' := []) (by decide +kernel) rfl rfl ?_
  refine ab_fin.s2 (i := .aload_n 0) (k := 1) (pc' := 8) (lv' := [(2, .ref (2193 + 9 * l1.toNatClampNeg)), (0, .ref 0), (1, .int l1)]) (st' := [.ref 0]) (by decide +kernel) rfl rfl ?_
  refine ab_fin.s2 (i := .aload_n 2) (k := 1) (pc' := 9) (lv' := [(2, .ref (2193 + 9 * l1.toNatClampNeg)), (0, .ref 0), (1, .int l1)]) (st' := [.ref (2193 + 9 * l1.toNatClampNeg), .ref 0]) (by decide +kernel) rfl rfl ?_
  refine ab_fin.s2 (i := .iload_n 1) (k := 1) (pc' := 10) (lv' := [(2, .ref (2193 + 9 * l1.toNatClampNeg)), (0, .ref 0), (1, .int l1)]) (st' := [.int l1, .ref (2193 + 9 * l1.toNatClampNeg), .ref 0]) (by decide +kernel) rfl rfl ?_
  refine ab_fin.s1i (i := .iconst 1) (k := 1) (pc' := 11) (n := 1) (by decide +kernel) rfl (by decide +kernel) rfl ?_
  refine ab_fin.q_yN (i := .invokevirtual 62) (k := 3) (y := 5897) (As := [.ref 0, .ref (2193 + 9 * l1.toNatClampNeg), .int l1, .int 1]) (rest := []) (M' := (mX23_joined, [])) (lv2 := [(0, .ref 0), (1, .ref (2193 + 9 * l1.toNatClampNeg)), (2, .int l1), (3, .int 1)]) (pc' := 14) (X := K) (by decide +kernel) (ab_cv rfl rfl (conc_get (σ := σ) (F.s s0_0)) ⟨(Nat.le_of_ble_eq_true rfl), (Nat.le_of_ble_eq_true rfl)⟩ rfl) rfl (Nat.le_of_ble_eq_true rfl) rfl rfl (hY_no fun E => rfl) w (fun τ2 F3 w => ?_)
  refine ab_fin.s2 (i := .aload_n 0) (k := 1) (pc' := 15) (lv' := [(2, .ref (2193 + 9 * l1.toNatClampNeg)), (0, .ref 0), (1, .int l1)]) (st' := [.ref 0]) (by decide +kernel) rfl rfl ?_
  refine ab_fin.s2 (i := .aload_n 2) (k := 1) (pc' := 16) (lv' := [(2, .ref (2193 + 9 * l1.toNatClampNeg)), (0, .ref 0), (1, .int l1)]) (st' := [.ref (2193 + 9 * l1.toNatClampNeg), .ref 0]) (by decide +kernel) rfl rfl ?_
  refine ab_fin.s2 (i := .iload_n 1) (k := 1) (pc' := 17) (lv' := [(2, .ref (2193 + 9 * l1.toNatClampNeg)), (0, .ref 0), (1, .int l1)]) (st' := [.int l1, .ref (2193 + 9 * l1.toNatClampNeg), .ref 0]) (by decide +kernel) rfl rfl ?_
  refine ab_fin.s1i (i := .iconst 2) (k := 1) (pc' := 18) (n := 2) (by decide +kernel) rfl (by decide +kernel) rfl ?_
  refine ab_fin.q_yN (i := .invokevirtual 62) (k := 3) (y := 5897) (As := [.ref 0, .ref (2193 + 9 * l1.toNatClampNeg), .int l1, .int 2]) (rest := []) (M' := (mX23_joined, [])) (lv2 := [(0, .ref 0), (1, .ref (2193 + 9 * l1.toNatClampNeg)), (2, .int l1), (3, .int 2)]) (pc' := 21) (X := K) (by decide +kernel) (ab_cv rfl rfl (conc_get (σ := τ2) (F3.s s0_0)) ⟨(Nat.le_of_ble_eq_true rfl), (Nat.le_of_ble_eq_true rfl)⟩ rfl) rfl (Nat.le_of_ble_eq_true rfl) rfl rfl (hY_no fun E => rfl) w (fun τ4 F5 w => ?_)
  refine ab_fin.s2 (i := .aload_n 2) (k := 1) (pc' := 22) (lv' := [(2, .ref (2193 + 9 * l1.toNatClampNeg)), (0, .ref 0), (1, .int l1)]) (st' := [.ref (2193 + 9 * l1.toNatClampNeg)]) (by decide +kernel) rfl rfl ?_
  refine ab_fin.q_rI (x := (τ4.i (2193 + 9 * l1.toNatClampNeg) 3)) (ix := 66) (ci := 18) (k := 3) (pc' := 25) (by decide +kernel) rfl (c_rI (F5.s (kE_1 e1.2)) rfl) rfl ?_
  refine ab_fin.s2 (i := .istore_n 3) (k := 1) (pc' := 26) (lv' := [(3, .int (τ4.i (2193 + 9 * l1.toNatClampNeg) 3)), (2, .ref (2193 + 9 * l1.toNatClampNeg)), (0, .ref 0), (1, .int l1)]) (st' := []) (by decide +kernel) rfl rfl ?_
  refine ab_fin.s1i (i := .iconst 0) (k := 1) (pc' := 27) (n := 0) (by decide +kernel) rfl (by decide +kernel) rfl ?_
  refine ab_fin.s2 (i := .istore 4) (k := 2) (pc' := 29) (lv' := [(4, .int 0), (3, .int (τ4.i (2193 + 9 * l1.toNatClampNeg) 3)), (2, .ref (2193 + 9 * l1.toNatClampNeg)), (0, .ref 0), (1, .int l1)]) (st' := []) (by decide +kernel) rfl rfl ?_
  exact ab_fin.lv ⟨(List.forall_mem_cons.mpr ⟨(List.Mem.tail _ (List.Mem.tail _ (List.Mem.tail _ (List.Mem.head _)))), (List.forall_mem_cons.mpr ⟨(List.Mem.tail _ (List.Mem.tail _ (List.Mem.tail _ (List.Mem.tail _ (List.Mem.head _))))), (List.forall_mem_cons.mpr ⟨(List.Mem.tail _ (List.Mem.tail _ (List.Mem.head _))), (List.forall_mem_cons.mpr ⟨(List.Mem.tail _ (List.Mem.head _)), (List.forall_mem_cons.mpr ⟨(List.Mem.head _), (fun _ h => absurd h List.not_mem_nil)⟩)⟩)⟩)⟩)⟩), (show ([4, 3, 2, 0, 1] : List Nat).Nodup from by decide)⟩ w
theorem S_X23_makeRows_29 {Z : zT} {d : Nat} {σ : Sg} {l1 : Int32} {l2 : Nat} {l3 : Int32} {l4 : Int32} {K : kS} (F : FX ΦR σ.sh σ.r) (p_l2 : sh0R[l2]? = some (Sh.obj 18)) (w : ((σ.i l2 3) ≤ l4 → ib l3 25 ∧ (ib l3 25 ∧ (B_X23_makeRows_141 Z (d + 1) ((σ.wi 35 l3.toNatClampNeg (0 : Int32)).wi 36 l3.toNatClampNeg ((σ.wi 35 l3.toNatClampNeg (0 : Int32)).i l2 3)) l1 l2 l3 0 K))) ∧ (¬ (σ.i l2 3) ≤ l4 → ib l4 24 ∧ (ib (σ.i (l2 + 3) l4.toNatClampNeg) 24 ∧ (ib l4 25 ∧ (ib l4 25 ∧ (B_X23_makeRows_77 Z (d + 1) ((σ.wi 35 l4.toNatClampNeg (0 : Int32)).wi 36 l4.toNatClampNeg ((σ.wi 35 l4.toNatClampNeg (0 : Int32)).i ((2193 + 9 * ((σ.i (l2 + 3) l4.toNatClampNeg).toNatClampNeg)) + 8) 0)) l1 l2 l3 l4 (2193 + 9 * ((σ.i (l2 + 3) l4.toNatClampNeg).toNatClampNeg)) 0 K)))))) : B_X23_makeRows_29 Z (d + 1) σ l1 l2 l3 l4 K := by
  unfold B_X23_makeRows_29
  refine ab_fin.s2 (i := .iload 4) (k := 2) (pc' := 31) (lv' := [(0, .ref 0), (1, .int l1), (2, .ref l2), (3, .int l3), (4, .int l4)]) (st' := [.int l4]) (by decide +kernel) rfl rfl ?_
  refine ab_fin.s2 (i := .aload_n 2) (k := 1) (pc' := 32) (lv' := [(0, .ref 0), (1, .int l1), (2, .ref l2), (3, .int l3), (4, .int l4)]) (st' := [.ref l2, .int l4]) (by decide +kernel) rfl rfl ?_
  refine ab_fin.q_rI (x := (σ.i l2 3)) (ix := 66) (ci := 18) (k := 3) (pc' := 35) (by decide +kernel) rfl (c_rI (F.s p_l2) rfl) rfl ?_
  refine ab_fin.br (c := (σ.i l2 3) ≤ l4) (i := .if_icmp .ge 86) (off := 86) (t := 121) (pc' := 38) (r := []) (by decide +kernel) rfl (by decide +kernel) rfl (fun q => ?_) (fun q => ?_)
  · replace w := w.1 q
    refine ab_fin.s2 (i := .aload_n 0) (k := 1) (pc' := 122) (lv' := [(0, .ref 0), (1, .int l1), (2, .ref l2), (3, .int l3), (4, .int l4)]) (st' := [.ref 0]) (by decide +kernel) rfl rfl ?_
    refine ab_fin.q_rA (b := 35) (ix := 73) (ci := 24) (k := 12) (pc' := 125) (by decide +kernel) rfl (c_rA (F.s s0_0) rfl (rM_12 F)) rfl ?_
    refine ab_fin.s2 (i := .iload_n 3) (k := 1) (pc' := 126) (lv' := [(0, .ref 0), (1, .int l1), (2, .ref l2), (3, .int l3), (4, .int l4)]) (st' := [.int l3, .ref 35]) (by decide +kernel) rfl rfl ?_
    refine ab_fin.s1i (i := .iconst 0) (k := 1) (pc' := 127) (n := 0) (by decide +kernel) rfl (by decide +kernel) rfl ?_
    obtain ⟨e1, w⟩ := w
    refine ab_fin.q_sI (h1 := conc (σ.wi 35 l3.toNatClampNeg (0 : Int32))) (pc' := 128) (by decide +kernel) (c_sI' (F.s s0_35) e1 rfl) rfl ?_
    refine ab_fin.s2 (i := .aload_n 0) (k := 1) (pc' := 129) (lv' := [(0, .ref 0), (1, .int l1), (2, .ref l2), (3, .int l3), (4, .int l4)]) (st' := [.ref 0]) (by decide +kernel) rfl rfl ?_
    refine ab_fin.q_rA (b := 36) (ix := 76) (ci := 24) (k := 13) (pc' := 132) (by decide +kernel) rfl (c_rA (F.s s0_0) rfl (rM_13 F)) rfl ?_
    refine ab_fin.s2 (i := .iload_n 3) (k := 1) (pc' := 133) (lv' := [(0, .ref 0), (1, .int l1), (2, .ref l2), (3, .int l3), (4, .int l4)]) (st' := [.int l3, .ref 36]) (by decide +kernel) rfl rfl ?_
    refine ab_fin.s2 (i := .aload_n 2) (k := 1) (pc' := 134) (lv' := [(0, .ref 0), (1, .int l1), (2, .ref l2), (3, .int l3), (4, .int l4)]) (st' := [.ref l2, .int l3, .ref 36]) (by decide +kernel) rfl rfl ?_
    refine ab_fin.q_rI (x := ((σ.wi 35 l3.toNatClampNeg (0 : Int32)).i l2 3)) (ix := 66) (ci := 18) (k := 3) (pc' := 137) (by decide +kernel) rfl (c_rI (F.s p_l2) rfl) rfl ?_
    obtain ⟨e2, w⟩ := w
    refine ab_fin.q_sI (h1 := conc ((σ.wi 35 l3.toNatClampNeg (0 : Int32)).wi 36 l3.toNatClampNeg ((σ.wi 35 l3.toNatClampNeg (0 : Int32)).i l2 3))) (pc' := 138) (by decide +kernel) (c_sI' (F.s s0_36) e2 rfl) rfl ?_
    refine ab_fin.s1i (i := .iconst 0) (k := 1) (pc' := 139) (n := 0) (by decide +kernel) rfl (by decide +kernel) rfl ?_
    refine ab_fin.s2 (i := .istore 4) (k := 2) (pc' := 141) (lv' := [(4, .int 0), (0, .ref 0), (1, .int l1), (2, .ref l2), (3, .int l3)]) (st' := []) (by decide +kernel) rfl rfl ?_
    exact ab_fin.lv ⟨(List.forall_mem_cons.mpr ⟨(List.Mem.tail _ (List.Mem.head _)), (List.forall_mem_cons.mpr ⟨(List.Mem.tail _ (List.Mem.tail _ (List.Mem.head _))), (List.forall_mem_cons.mpr ⟨(List.Mem.tail _ (List.Mem.tail _ (List.Mem.tail _ (List.Mem.head _)))), (List.forall_mem_cons.mpr ⟨(List.Mem.tail _ (List.Mem.tail _ (List.Mem.tail _ (List.Mem.tail _ (List.Mem.head _))))), (List.forall_mem_cons.mpr ⟨(List.Mem.head _), (fun _ h => absurd h List.not_mem_nil)⟩)⟩)⟩)⟩)⟩), (show ([4, 0, 1, 2, 3] : List Nat).Nodup from by decide)⟩ w
  · replace w := w.2 q
    refine ab_fin.s2 (i := .aload_n 0) (k := 1) (pc' := 39) (lv' := [(0, .ref 0), (1, .int l1), (2, .ref l2), (3, .int l3), (4, .int l4)]) (st' := [.ref 0]) (by decide +kernel) rfl rfl ?_
    refine ab_fin.q_rA (b := 1) (ix := 17) (ci := 24) (k := 0) (pc' := 42) (by decide +kernel) rfl (c_rA (F.s s0_0) rfl (rM_0 F)) rfl ?_
    refine ab_fin.s2 (i := .aload_n 2) (k := 1) (pc' := 43) (lv' := [(0, .ref 0), (1, .int l1), (2, .ref l2), (3, .int l3), (4, .int l4)]) (st' := [.ref l2, .ref 1]) (by decide +kernel) rfl rfl ?_
    refine ab_fin.q_rA (b := (l2 + 3)) (ix := 69) (ci := 18) (k := 2) (pc' := 46) (by decide +kernel) rfl (c_rA (F.s p_l2) rfl (rO_18_2 F p_l2)) rfl ?_
    refine ab_fin.s2 (i := .iload 4) (k := 2) (pc' := 48) (lv' := [(0, .ref 0), (1, .int l1), (2, .ref l2), (3, .int l3), (4, .int l4)]) (st' := [.int l4, .ref (l2 + 3), .ref 1]) (by decide +kernel) rfl rfl ?_
    obtain ⟨e3, w⟩ := w
    refine ab_fin.q_eI (x := (σ.i (l2 + 3) l4.toNatClampNeg)) (pc' := 49) (by decide +kernel) (c_eI' (F.s (kF_18_3 p_l2)) e3 rfl) rfl ?_
    obtain ⟨e4, w⟩ := w
    refine ab_fin.q_eA (b := (2193 + 9 * ((σ.i (l2 + 3) l4.toNatClampNeg).toNatClampNeg))) (pc' := 50) (by decide +kernel) (c_eA' (F.s s0_1) (by decide) rfl e4 rfl (rE_4 F s0_1)) rfl ?_
    refine ab_fin.s2 (i := .astore 5) (k := 2) (pc' := 52) (lv' := [(5, .ref (2193 + 9 * ((σ.i (l2 + 3) l4.toNatClampNeg).toNatClampNeg))), (0, .ref 0), (1, .int l1), (2, .ref l2), (3, .int l3), (4, .int l4)]) (st' := []) (by decide +kernel) rfl rfl ?_
    refine ab_fin.s2 (i := .aload_n 0) (k := 1) (pc' := 53) (lv' := [(5, .ref (2193 + 9 * ((σ.i (l2 + 3) l4.toNatClampNeg).toNatClampNeg))), (0, .ref 0), (1, .int l1), (2, .ref l2), (3, .int l3), (4, .int l4)]) (st' := [.ref 0]) (by decide +kernel) rfl rfl ?_
    refine ab_fin.q_rA (b := 35) (ix := 73) (ci := 24) (k := 12) (pc' := 56) (by decide +kernel) rfl (c_rA (F.s s0_0) rfl (rM_12 F)) rfl ?_
    refine ab_fin.s2 (i := .iload 4) (k := 2) (pc' := 58) (lv' := [(5, .ref (2193 + 9 * ((σ.i (l2 + 3) l4.toNatClampNeg).toNatClampNeg))), (0, .ref 0), (1, .int l1), (2, .ref l2), (3, .int l3), (4, .int l4)]) (st' := [.int l4, .ref 35]) (by decide +kernel) rfl rfl ?_
    refine ab_fin.s1i (i := .iconst 0) (k := 1) (pc' := 59) (n := 0) (by decide +kernel) rfl (by decide +kernel) rfl ?_
    obtain ⟨e5, w⟩ := w
    refine ab_fin.q_sI (h1 := conc (σ.wi 35 l4.toNatClampNeg (0 : Int32))) (pc' := 60) (by decide +kernel) (c_sI' (F.s s0_35) e5 rfl) rfl ?_
    refine ab_fin.s2 (i := .aload_n 0) (k := 1) (pc' := 61) (lv' := [(5, .ref (2193 + 9 * ((σ.i (l2 + 3) l4.toNatClampNeg).toNatClampNeg))), (0, .ref 0), (1, .int l1), (2, .ref l2), (3, .int l3), (4, .int l4)]) (st' := [.ref 0]) (by decide +kernel) rfl rfl ?_
    refine ab_fin.q_rA (b := 36) (ix := 76) (ci := 24) (k := 13) (pc' := 64) (by decide +kernel) rfl (c_rA (F.s s0_0) rfl (rM_13 F)) rfl ?_
    refine ab_fin.s2 (i := .iload 4) (k := 2) (pc' := 66) (lv' := [(5, .ref (2193 + 9 * ((σ.i (l2 + 3) l4.toNatClampNeg).toNatClampNeg))), (0, .ref 0), (1, .int l1), (2, .ref l2), (3, .int l3), (4, .int l4)]) (st' := [.int l4, .ref 36]) (by decide +kernel) rfl rfl ?_
    refine ab_fin.s2 (i := .aload 5) (k := 2) (pc' := 68) (lv' := [(5, .ref (2193 + 9 * ((σ.i (l2 + 3) l4.toNatClampNeg).toNatClampNeg))), (0, .ref 0), (1, .int l1), (2, .ref l2), (3, .int l3), (4, .int l4)]) (st' := [.ref (2193 + 9 * ((σ.i (l2 + 3) l4.toNatClampNeg).toNatClampNeg)), .int l4, .ref 36]) (by decide +kernel) rfl rfl ?_
    refine ab_fin.q_rA (b := ((2193 + 9 * ((σ.i (l2 + 3) l4.toNatClampNeg).toNatClampNeg)) + 8)) (ix := 79) (ci := 18) (k := 5) (pc' := 71) (by decide +kernel) rfl (c_rA (F.s (kE_1 e4.2)) rfl (rO_18_5 F (kE_1 e4.2))) rfl ?_
    refine ab_fin.s1i (i := .iconst 0) (k := 1) (pc' := 72) (n := 0) (by decide +kernel) rfl (by decide +kernel) rfl ?_
    refine ab_fin.q_eI (x := ((σ.wi 35 l4.toNatClampNeg (0 : Int32)).i ((2193 + 9 * ((σ.i (l2 + 3) l4.toNatClampNeg).toNatClampNeg)) + 8) 0)) (pc' := 73) (by decide +kernel) (c_eI' (F.s (kF_18_8 (kE_1 e4.2))) (show ib (0 : Int32) 3 by decide +kernel) (by decide +kernel)) rfl ?_
    obtain ⟨e6, w⟩ := w
    refine ab_fin.q_sI (h1 := conc ((σ.wi 35 l4.toNatClampNeg (0 : Int32)).wi 36 l4.toNatClampNeg ((σ.wi 35 l4.toNatClampNeg (0 : Int32)).i ((2193 + 9 * ((σ.i (l2 + 3) l4.toNatClampNeg).toNatClampNeg)) + 8) 0))) (pc' := 74) (by decide +kernel) (c_sI' (F.s s0_36) e6 rfl) rfl ?_
    refine ab_fin.s1i (i := .iconst 0) (k := 1) (pc' := 75) (n := 0) (by decide +kernel) rfl (by decide +kernel) rfl ?_
    refine ab_fin.s2 (i := .istore 6) (k := 2) (pc' := 77) (lv' := [(6, .int 0), (5, .ref (2193 + 9 * ((σ.i (l2 + 3) l4.toNatClampNeg).toNatClampNeg))), (0, .ref 0), (1, .int l1), (2, .ref l2), (3, .int l3), (4, .int l4)]) (st' := []) (by decide +kernel) rfl rfl ?_
    exact ab_fin.lv ⟨(List.forall_mem_cons.mpr ⟨(List.Mem.tail _ (List.Mem.tail _ (List.Mem.head _))), (List.forall_mem_cons.mpr ⟨(List.Mem.tail _ (List.Mem.tail _ (List.Mem.tail _ (List.Mem.head _)))), (List.forall_mem_cons.mpr ⟨(List.Mem.tail _ (List.Mem.tail _ (List.Mem.tail _ (List.Mem.tail _ (List.Mem.head _))))), (List.forall_mem_cons.mpr ⟨(List.Mem.tail _ (List.Mem.tail _ (List.Mem.tail _ (List.Mem.tail _ (List.Mem.tail _ (List.Mem.head _)))))), (List.forall_mem_cons.mpr ⟨(List.Mem.tail _ (List.Mem.tail _ (List.Mem.tail _ (List.Mem.tail _ (List.Mem.tail _ (List.Mem.tail _ (List.Mem.head _))))))), (List.forall_mem_cons.mpr ⟨(List.Mem.tail _ (List.Mem.head _)), (List.forall_mem_cons.mpr ⟨(List.Mem.head _), (fun _ h => absurd h List.not_mem_nil)⟩)⟩)⟩)⟩)⟩)⟩)⟩), (show ([6, 5, 0, 1, 2, 3, 4] : List Nat).Nodup from by decide)⟩ w
theorem S_X23_makeRows_77 {Z : zT} {d : Nat} {σ : Sg} {l1 : Int32} {l2 : Nat} {l3 : Int32} {l4 : Int32} {l5 : Nat} {l6 : Int32} {K : kS} (F : FX ΦR σ.sh σ.r) (p_l2 : sh0R[l2]? = some (Sh.obj 18)) (p_l5 : sh0R[l5]? = some (Sh.obj 18)) (w : ((σ.i (l5 + 8) 0) ≤ l6 → B_X23_makeRows_29 Z (d + 1) σ l1 l2 l3 (l4 + 1) K) ∧ (¬ (σ.i (l5 + 8) 0) ≤ l6 → ib l4 25 ∧ (ib l6 24 ∧ (ib l6 24 ∧ (B_X23_makeRows_77 Z (d + 1) (σ.wi (9 + 1 + l4.toNatClampNeg) l6.toNatClampNeg (σ.i (l5 + 4 + 1 + 0) l6.toNatClampNeg)) l1 l2 l3 l4 l5 (l6 + 1) K))))) : B_X23_makeRows_77 Z (d + 1) σ l1 l2 l3 l4 l5 l6 K := by
  unfold B_X23_makeRows_77
  refine ab_fin.s2 (i := .iload 6) (k := 2) (pc' := 79) (lv' := [(0, .ref 0), (1, .int l1), (2, .ref l2), (3, .int l3), (4, .int l4), (5, .ref l5), (6, .int l6)]) (st' := [.int l6]) (by decide +kernel) rfl rfl ?_
  refine ab_fin.s2 (i := .aload 5) (k := 2) (pc' := 81) (lv' := [(0, .ref 0), (1, .int l1), (2, .ref l2), (3, .int l3), (4, .int l4), (5, .ref l5), (6, .int l6)]) (st' := [.ref l5, .int l6]) (by decide +kernel) rfl rfl ?_
  refine ab_fin.q_rA (b := (l5 + 8)) (ix := 79) (ci := 18) (k := 5) (pc' := 84) (by decide +kernel) rfl (c_rA (F.s p_l5) rfl (rO_18_5 F p_l5)) rfl ?_
  refine ab_fin.s1i (i := .iconst 0) (k := 1) (pc' := 85) (n := 0) (by decide +kernel) rfl (by decide +kernel) rfl ?_
  refine ab_fin.q_eI (x := (σ.i (l5 + 8) 0)) (pc' := 86) (by decide +kernel) (c_eI' (F.s (kF_18_8 p_l5)) (show ib (0 : Int32) 3 by decide +kernel) (by decide +kernel)) rfl ?_
  refine ab_fin.br (c := (σ.i (l5 + 8) 0) ≤ l6) (i := .if_icmp .ge 29) (off := 29) (t := 115) (pc' := 89) (r := []) (by decide +kernel) rfl (by decide +kernel) rfl (fun q => ?_) (fun q => ?_)
  · replace w := w.1 q
    refine ab_fin.q_inc (n := 4) (c := 1) (pc' := 118) (lv' := [(4, .int (l4 + 1)), (0, .ref 0), (1, .int l1), (2, .ref l2), (3, .int l3), (5, .ref l5), (6, .int l6)]) (by decide +kernel) (by decide) rfl rfl rfl rfl ?_
    refine ab_fin.s3 (i := .goto (-89)) (k := 3) (t := 29) (st' := []) (by decide +kernel) (ab_gto (by decide +kernel)) ?_
    exact ab_fin.lv ⟨(List.forall_mem_cons.mpr ⟨(List.Mem.tail _ (List.Mem.head _)), (List.forall_mem_cons.mpr ⟨(List.Mem.tail _ (List.Mem.tail _ (List.Mem.head _))), (List.forall_mem_cons.mpr ⟨(List.Mem.tail _ (List.Mem.tail _ (List.Mem.tail _ (List.Mem.head _)))), (List.forall_mem_cons.mpr ⟨(List.Mem.tail _ (List.Mem.tail _ (List.Mem.tail _ (List.Mem.tail _ (List.Mem.head _))))), (List.forall_mem_cons.mpr ⟨(List.Mem.head _), (fun _ h => absurd h List.not_mem_nil)⟩)⟩)⟩)⟩)⟩), (show ([4, 0, 1, 2, 3, 5, 6] : List Nat).Nodup from by decide)⟩ w
  · replace w := w.2 q
    refine ab_fin.s2 (i := .aload_n 0) (k := 1) (pc' := 90) (lv' := [(0, .ref 0), (1, .int l1), (2, .ref l2), (3, .int l3), (4, .int l4), (5, .ref l5), (6, .int l6)]) (st' := [.ref 0]) (by decide +kernel) rfl rfl ?_
    refine ab_fin.q_rA (b := 9) (ix := 82) (ci := 24) (k := 11) (pc' := 93) (by decide +kernel) rfl (c_rA (F.s s0_0) rfl (rM_11 F)) rfl ?_
    refine ab_fin.s2 (i := .iload 4) (k := 2) (pc' := 95) (lv' := [(0, .ref 0), (1, .int l1), (2, .ref l2), (3, .int l3), (4, .int l4), (5, .ref l5), (6, .int l6)]) (st' := [.int l4, .ref 9]) (by decide +kernel) rfl rfl ?_
    obtain ⟨e1, w⟩ := w
    refine ab_fin.q_eA (b := (9 + 1 + l4.toNatClampNeg)) (pc' := 96) (by decide +kernel) (c_eA' (F.s s0_9) (by decide) rfl e1 rfl (rE_8 F s0_9)) rfl ?_
    refine ab_fin.s2 (i := .iload 6) (k := 2) (pc' := 98) (lv' := [(0, .ref 0), (1, .int l1), (2, .ref l2), (3, .int l3), (4, .int l4), (5, .ref l5), (6, .int l6)]) (st' := [.int l6, .ref (9 + 1 + l4.toNatClampNeg)]) (by decide +kernel) rfl rfl ?_
    refine ab_fin.s2 (i := .aload 5) (k := 2) (pc' := 100) (lv' := [(0, .ref 0), (1, .int l1), (2, .ref l2), (3, .int l3), (4, .int l4), (5, .ref l5), (6, .int l6)]) (st' := [.ref l5, .int l6, .ref (9 + 1 + l4.toNatClampNeg)]) (by decide +kernel) rfl rfl ?_
    refine ab_fin.q_rA (b := (l5 + 4)) (ix := 86) (ci := 18) (k := 4) (pc' := 103) (by decide +kernel) rfl (c_rA (F.s p_l5) rfl (rO_18_4 F p_l5)) rfl ?_
    refine ab_fin.s1i (i := .iconst 0) (k := 1) (pc' := 104) (n := 0) (by decide +kernel) rfl (by decide +kernel) rfl ?_
    refine ab_fin.q_eA (b := (l5 + 4 + 1 + 0)) (pc' := 105) (by decide +kernel) (c_eA' (F.s (kF_18_4 p_l5)) (by decide) rfl (show ib (0 : Int32) 3 by decide +kernel) (by decide +kernel) (rE_8 F (kF_18_4 p_l5))) rfl ?_
    refine ab_fin.s2 (i := .iload 6) (k := 2) (pc' := 107) (lv' := [(0, .ref 0), (1, .int l1), (2, .ref l2), (3, .int l3), (4, .int l4), (5, .ref l5), (6, .int l6)]) (st' := [.int l6, .ref (l5 + 4 + 1 + 0), .int l6, .ref (9 + 1 + l4.toNatClampNeg)]) (by decide +kernel) rfl rfl ?_
    obtain ⟨e2, w⟩ := w
    refine ab_fin.q_eI (x := (σ.i (l5 + 4 + 1 + 0) l6.toNatClampNeg)) (pc' := 108) (by decide +kernel) (c_eI' (F.s (kE_18_4 p_l5 (show 0 < 3 by decide))) e2 rfl) rfl ?_
    obtain ⟨e3, w⟩ := w
    refine ab_fin.q_sI (h1 := conc (σ.wi (9 + 1 + l4.toNatClampNeg) l6.toNatClampNeg (σ.i (l5 + 4 + 1 + 0) l6.toNatClampNeg))) (pc' := 109) (by decide +kernel) (c_sI' (F.s (kE_9 e1.2)) e3 rfl) rfl ?_
    refine ab_fin.q_inc (n := 6) (c := 1) (pc' := 112) (lv' := [(6, .int (l6 + 1)), (0, .ref 0), (1, .int l1), (2, .ref l2), (3, .int l3), (4, .int l4), (5, .ref l5)]) (by decide +kernel) (by decide) rfl rfl rfl rfl ?_
    refine ab_fin.s3 (i := .goto (-35)) (k := 3) (t := 77) (st' := []) (by decide +kernel) (ab_gto (by decide +kernel)) ?_
    exact ab_fin.lv ⟨(List.forall_mem_cons.mpr ⟨(List.Mem.tail _ (List.Mem.head _)), (List.forall_mem_cons.mpr ⟨(List.Mem.tail _ (List.Mem.tail _ (List.Mem.head _))), (List.forall_mem_cons.mpr ⟨(List.Mem.tail _ (List.Mem.tail _ (List.Mem.tail _ (List.Mem.head _)))), (List.forall_mem_cons.mpr ⟨(List.Mem.tail _ (List.Mem.tail _ (List.Mem.tail _ (List.Mem.tail _ (List.Mem.head _))))), (List.forall_mem_cons.mpr ⟨(List.Mem.tail _ (List.Mem.tail _ (List.Mem.tail _ (List.Mem.tail _ (List.Mem.tail _ (List.Mem.head _)))))), (List.forall_mem_cons.mpr ⟨(List.Mem.tail _ (List.Mem.tail _ (List.Mem.tail _ (List.Mem.tail _ (List.Mem.tail _ (List.Mem.tail _ (List.Mem.head _))))))), (List.forall_mem_cons.mpr ⟨(List.Mem.head _), (fun _ h => absurd h List.not_mem_nil)⟩)⟩)⟩)⟩)⟩)⟩)⟩), (show ([6, 0, 1, 2, 3, 4, 5] : List Nat).Nodup from by decide)⟩ w
theorem S_X23_makeRows_141 {Z : zT} {d : Nat} {σ : Sg} {l1 : Int32} {l2 : Nat} {l3 : Int32} {l4 : Int32} {K : kS} (F : FX ΦR σ.sh σ.r) (p_l2 : sh0R[l2]? = some (Sh.obj 18)) (w : ((σ.i l2 3) ≤ l4 → B_X23_makeRows_184 Z (d + 1) (σ.wi (l2 + 4 + 1 + 0) 0 l1) l2 l3 1 K) ∧ (¬ (σ.i l2 3) ≤ l4 → ib l3 25 ∧ (ib l4 24 ∧ (ib l4 24 ∧ (B_X23_makeRows_141 Z (d + 1) (σ.wi (9 + 1 + l3.toNatClampNeg) l4.toNatClampNeg (σ.i (l2 + 3) l4.toNatClampNeg)) l1 l2 l3 (l4 + 1) K))))) : B_X23_makeRows_141 Z (d + 1) σ l1 l2 l3 l4 K := by
  unfold B_X23_makeRows_141
  refine ab_fin.s2 (i := .iload 4) (k := 2) (pc' := 143) (lv' := [(0, .ref 0), (1, .int l1), (2, .ref l2), (3, .int l3), (4, .int l4)]) (st' := [.int l4]) (by decide +kernel) rfl rfl ?_
  refine ab_fin.s2 (i := .aload_n 2) (k := 1) (pc' := 144) (lv' := [(0, .ref 0), (1, .int l1), (2, .ref l2), (3, .int l3), (4, .int l4)]) (st' := [.ref l2, .int l4]) (by decide +kernel) rfl rfl ?_
  refine ab_fin.q_rI (x := (σ.i l2 3)) (ix := 66) (ci := 18) (k := 3) (pc' := 147) (by decide +kernel) rfl (c_rI (F.s p_l2) rfl) rfl ?_
  refine ab_fin.br (c := (σ.i l2 3) ≤ l4) (i := .if_icmp .ge 25) (off := 25) (t := 172) (pc' := 150) (r := []) (by decide +kernel) rfl (by decide +kernel) rfl (fun q => ?_) (fun q => ?_)
  · replace w := w.1 q
    refine ab_fin.s2 (i := .aload_n 2) (k := 1) (pc' := 173) (lv' := [(0, .ref 0), (1, .int l1), (2, .ref l2), (3, .int l3), (4, .int l4)]) (st' := [.ref l2]) (by decide +kernel) rfl rfl ?_
    refine ab_fin.q_rA (b := (l2 + 4)) (ix := 86) (ci := 18) (k := 4) (pc' := 176) (by decide +kernel) rfl (c_rA (F.s p_l2) rfl (rO_18_4 F p_l2)) rfl ?_
    refine ab_fin.s1i (i := .iconst 0) (k := 1) (pc' := 177) (n := 0) (by decide +kernel) rfl (by decide +kernel) rfl ?_
    refine ab_fin.q_eA (b := (l2 + 4 + 1 + 0)) (pc' := 178) (by decide +kernel) (c_eA' (F.s (kF_18_4 p_l2)) (by decide) rfl (show ib (0 : Int32) 3 by decide +kernel) (by decide +kernel) (rE_8 F (kF_18_4 p_l2))) rfl ?_
    refine ab_fin.s1i (i := .iconst 0) (k := 1) (pc' := 179) (n := 0) (by decide +kernel) rfl (by decide +kernel) rfl ?_
    refine ab_fin.s2 (i := .iload_n 1) (k := 1) (pc' := 180) (lv' := [(0, .ref 0), (1, .int l1), (2, .ref l2), (3, .int l3), (4, .int l4)]) (st' := [.int l1, .int 0, .ref (l2 + 4 + 1 + 0)]) (by decide +kernel) rfl rfl ?_
    refine ab_fin.q_sI (h1 := conc (σ.wi (l2 + 4 + 1 + 0) 0 l1)) (pc' := 181) (by decide +kernel) (c_sI' (F.s (kE_18_4 p_l2 (show 0 < 3 by decide))) (show ib (0 : Int32) 24 by decide +kernel) (by decide +kernel)) rfl ?_
    refine ab_fin.s1i (i := .iconst 1) (k := 1) (pc' := 182) (n := 1) (by decide +kernel) rfl (by decide +kernel) rfl ?_
    refine ab_fin.s2 (i := .istore 4) (k := 2) (pc' := 184) (lv' := [(4, .int 1), (0, .ref 0), (1, .int l1), (2, .ref l2), (3, .int l3)]) (st' := []) (by decide +kernel) rfl rfl ?_
    exact ab_fin.lv ⟨(List.forall_mem_cons.mpr ⟨(List.Mem.tail _ (List.Mem.head _)), (List.forall_mem_cons.mpr ⟨(List.Mem.tail _ (List.Mem.tail _ (List.Mem.tail _ (List.Mem.head _)))), (List.forall_mem_cons.mpr ⟨(List.Mem.tail _ (List.Mem.tail _ (List.Mem.tail _ (List.Mem.tail _ (List.Mem.head _))))), (List.forall_mem_cons.mpr ⟨(List.Mem.head _), (fun _ h => absurd h List.not_mem_nil)⟩)⟩)⟩)⟩), (show ([4, 0, 1, 2, 3] : List Nat).Nodup from by decide)⟩ w
  · replace w := w.2 q
    refine ab_fin.s2 (i := .aload_n 0) (k := 1) (pc' := 151) (lv' := [(0, .ref 0), (1, .int l1), (2, .ref l2), (3, .int l3), (4, .int l4)]) (st' := [.ref 0]) (by decide +kernel) rfl rfl ?_
    refine ab_fin.q_rA (b := 9) (ix := 82) (ci := 24) (k := 11) (pc' := 154) (by decide +kernel) rfl (c_rA (F.s s0_0) rfl (rM_11 F)) rfl ?_
    refine ab_fin.s2 (i := .iload_n 3) (k := 1) (pc' := 155) (lv' := [(0, .ref 0), (1, .int l1), (2, .ref l2), (3, .int l3), (4, .int l4)]) (st' := [.int l3, .ref 9]) (by decide +kernel) rfl rfl ?_
    obtain ⟨e1, w⟩ := w
    refine ab_fin.q_eA (b := (9 + 1 + l3.toNatClampNeg)) (pc' := 156) (by decide +kernel) (c_eA' (F.s s0_9) (by decide) rfl e1 rfl (rE_8 F s0_9)) rfl ?_
    refine ab_fin.s2 (i := .iload 4) (k := 2) (pc' := 158) (lv' := [(0, .ref 0), (1, .int l1), (2, .ref l2), (3, .int l3), (4, .int l4)]) (st' := [.int l4, .ref (9 + 1 + l3.toNatClampNeg)]) (by decide +kernel) rfl rfl ?_
    refine ab_fin.s2 (i := .aload_n 2) (k := 1) (pc' := 159) (lv' := [(0, .ref 0), (1, .int l1), (2, .ref l2), (3, .int l3), (4, .int l4)]) (st' := [.ref l2, .int l4, .ref (9 + 1 + l3.toNatClampNeg)]) (by decide +kernel) rfl rfl ?_
    refine ab_fin.q_rA (b := (l2 + 3)) (ix := 69) (ci := 18) (k := 2) (pc' := 162) (by decide +kernel) rfl (c_rA (F.s p_l2) rfl (rO_18_2 F p_l2)) rfl ?_
    refine ab_fin.s2 (i := .iload 4) (k := 2) (pc' := 164) (lv' := [(0, .ref 0), (1, .int l1), (2, .ref l2), (3, .int l3), (4, .int l4)]) (st' := [.int l4, .ref (l2 + 3), .int l4, .ref (9 + 1 + l3.toNatClampNeg)]) (by decide +kernel) rfl rfl ?_
    obtain ⟨e2, w⟩ := w
    refine ab_fin.q_eI (x := (σ.i (l2 + 3) l4.toNatClampNeg)) (pc' := 165) (by decide +kernel) (c_eI' (F.s (kF_18_3 p_l2)) e2 rfl) rfl ?_
    obtain ⟨e3, w⟩ := w
    refine ab_fin.q_sI (h1 := conc (σ.wi (9 + 1 + l3.toNatClampNeg) l4.toNatClampNeg (σ.i (l2 + 3) l4.toNatClampNeg))) (pc' := 166) (by decide +kernel) (c_sI' (F.s (kE_9 e1.2)) e3 rfl) rfl ?_
    refine ab_fin.q_inc (n := 4) (c := 1) (pc' := 169) (lv' := [(4, .int (l4 + 1)), (0, .ref 0), (1, .int l1), (2, .ref l2), (3, .int l3)]) (by decide +kernel) (by decide) rfl rfl rfl rfl ?_
    refine ab_fin.s3 (i := .goto (-28)) (k := 3) (t := 141) (st' := []) (by decide +kernel) (ab_gto (by decide +kernel)) ?_
    exact ab_fin.lv ⟨(List.forall_mem_cons.mpr ⟨(List.Mem.tail _ (List.Mem.head _)), (List.forall_mem_cons.mpr ⟨(List.Mem.tail _ (List.Mem.tail _ (List.Mem.head _))), (List.forall_mem_cons.mpr ⟨(List.Mem.tail _ (List.Mem.tail _ (List.Mem.tail _ (List.Mem.head _)))), (List.forall_mem_cons.mpr ⟨(List.Mem.tail _ (List.Mem.tail _ (List.Mem.tail _ (List.Mem.tail _ (List.Mem.head _))))), (List.forall_mem_cons.mpr ⟨(List.Mem.head _), (fun _ h => absurd h List.not_mem_nil)⟩)⟩)⟩)⟩)⟩), (show ([4, 0, 1, 2, 3] : List Nat).Nodup from by decide)⟩ w
theorem S_X23_makeRows_184 {Z : zT} {d : Nat} {σ : Sg} {l2 : Nat} {l3 : Int32} {l4 : Int32} {K : kS} (F : FX ΦR σ.sh σ.r) (p_l2 : sh0R[l2]? = some (Sh.obj 18)) (w : B_X23_makeRows_193 Z (d + 1) σ l2 l3 l4 (-1) 0 0 K) : B_X23_makeRows_184 Z (d + 1) σ l2 l3 l4 K := by
  unfold B_X23_makeRows_184
  refine ab_fin.s1i (i := .iconst (-1)) (k := 1) (pc' := 185) (n := (-1)) (by decide +kernel) rfl (by decide +kernel) rfl ?_
  refine ab_fin.s2 (i := .istore 5) (k := 2) (pc' := 187) (lv' := [(5, .int (-1)), (0, .ref 0), (2, .ref l2), (3, .int l3), (4, .int l4)]) (st' := []) (by decide +kernel) rfl rfl ?_
  refine ab_fin.s1i (i := .iconst 0) (k := 1) (pc' := 188) (n := 0) (by decide +kernel) rfl (by decide +kernel) rfl ?_
  refine ab_fin.s2 (i := .istore 6) (k := 2) (pc' := 190) (lv' := [(6, .int 0), (5, .int (-1)), (0, .ref 0), (2, .ref l2), (3, .int l3), (4, .int l4)]) (st' := []) (by decide +kernel) rfl rfl ?_
  refine ab_fin.s1i (i := .iconst 0) (k := 1) (pc' := 191) (n := 0) (by decide +kernel) rfl (by decide +kernel) rfl ?_
  refine ab_fin.s2 (i := .istore 7) (k := 2) (pc' := 193) (lv' := [(7, .int 0), (6, .int 0), (5, .int (-1)), (0, .ref 0), (2, .ref l2), (3, .int l3), (4, .int l4)]) (st' := []) (by decide +kernel) rfl rfl ?_
  exact ab_fin.lv ⟨(List.forall_mem_cons.mpr ⟨(List.Mem.tail _ (List.Mem.tail _ (List.Mem.tail _ (List.Mem.head _)))), (List.forall_mem_cons.mpr ⟨(List.Mem.tail _ (List.Mem.tail _ (List.Mem.tail _ (List.Mem.tail _ (List.Mem.head _))))), (List.forall_mem_cons.mpr ⟨(List.Mem.tail _ (List.Mem.tail _ (List.Mem.tail _ (List.Mem.tail _ (List.Mem.tail _ (List.Mem.head _)))))), (List.forall_mem_cons.mpr ⟨(List.Mem.tail _ (List.Mem.tail _ (List.Mem.tail _ (List.Mem.tail _ (List.Mem.tail _ (List.Mem.tail _ (List.Mem.head _))))))), (List.forall_mem_cons.mpr ⟨(List.Mem.tail _ (List.Mem.tail _ (List.Mem.head _))), (List.forall_mem_cons.mpr ⟨(List.Mem.tail _ (List.Mem.head _)), (List.forall_mem_cons.mpr ⟨(List.Mem.head _), (fun _ h => absurd h List.not_mem_nil)⟩)⟩)⟩)⟩)⟩)⟩)⟩), (show ([7, 6, 5, 0, 2, 3, 4] : List Nat).Nodup from by decide)⟩ w
theorem S_X23_makeRows_193 {Z : zT} {d : Nat} {σ : Sg} {l2 : Nat} {l3 : Int32} {l4 : Int32} {l5 : Int32} {l6 : Int32} {l7 : Int32} {K : kS} (F : FX ΦR σ.sh σ.r) (p_l2 : sh0R[l2]? = some (Sh.obj 18)) (w : (l3 < l7 → B_X23_makeRows_273 Z (d + 1) σ l2 l3 l4 l5 l6 K) ∧ (¬ l3 < l7 → (0 ≤ l5 → B_X23_makeRows_273 Z (d + 1) σ l2 l3 l4 l5 l6 K) ∧ (¬ 0 ≤ l5 → ib l7 25 ∧ (ib l7 25 ∧ ((¬ (σ.i 35 l7.toNatClampNeg) = (σ.i 36 l7.toNatClampNeg) → ib l7 25 ∧ (ib l7 25 ∧ (ib (σ.i 35 l7.toNatClampNeg) 24 ∧ (B_X23_isFirst_0 Z d σ (σ.i (9 + 1 + l7.toNatClampNeg) ((σ.i 35 l7.toNatClampNeg).toNatClampNeg)) l3 (yI K fun v8 τ6 => (v8 = 0 → B_X23_makeRows_193 Z (d + 1) τ6 l2 l3 l4 l5 1 (l7 + 1) K) ∧ (¬ v8 = 0 → ib l7 25 ∧ (ib l7 25 ∧ (ib (τ6.i 35 l7.toNatClampNeg) 24 ∧ (B_X23_makeRows_193 Z (d + 1) τ6 l2 l3 l4 (τ6.i (9 + 1 + l7.toNatClampNeg) ((τ6.i 35 l7.toNatClampNeg).toNatClampNeg)) 1 (l7 + 1) K))))))))) ∧ ((σ.i 35 l7.toNatClampNeg) = (σ.i 36 l7.toNatClampNeg) → B_X23_makeRows_193 Z (d + 1) σ l2 l3 l4 l5 l6 (l7 + 1) K)))))) : B_X23_makeRows_193 Z (d + 1) σ l2 l3 l4 l5 l6 l7 K := by
  unfold B_X23_makeRows_193
  refine ab_fin.s2 (i := .iload 7) (k := 2) (pc' := 195) (lv' := [(0, .ref 0), (2, .ref l2), (3, .int l3), (4, .int l4), (5, .int l5), (6, .int l6), (7, .int l7)]) (st' := [.int l7]) (by decide +kernel) rfl rfl ?_
  refine ab_fin.s2 (i := .iload_n 3) (k := 1) (pc' := 196) (lv' := [(0, .ref 0), (2, .ref l2), (3, .int l3), (4, .int l4), (5, .int l5), (6, .int l6), (7, .int l7)]) (st' := [.int l3, .int l7]) (by decide +kernel) rfl rfl ?_
  refine ab_fin.br (c := l3 < l7) (i := .if_icmp .gt 77) (off := 77) (t := 273) (pc' := 199) (r := []) (by decide +kernel) rfl (by decide +kernel) rfl (fun q => ?_) (fun q => ?_)
  · replace w := w.1 q
    exact ab_fin.lv ⟨(List.forall_mem_cons.mpr ⟨(List.Mem.head _), (List.forall_mem_cons.mpr ⟨(List.Mem.tail _ (List.Mem.head _)), (List.forall_mem_cons.mpr ⟨(List.Mem.tail _ (List.Mem.tail _ (List.Mem.head _))), (List.forall_mem_cons.mpr ⟨(List.Mem.tail _ (List.Mem.tail _ (List.Mem.tail _ (List.Mem.head _)))), (List.forall_mem_cons.mpr ⟨(List.Mem.tail _ (List.Mem.tail _ (List.Mem.tail _ (List.Mem.tail _ (List.Mem.head _))))), (List.forall_mem_cons.mpr ⟨(List.Mem.tail _ (List.Mem.tail _ (List.Mem.tail _ (List.Mem.tail _ (List.Mem.tail _ (List.Mem.head _)))))), (fun _ h => absurd h List.not_mem_nil)⟩)⟩)⟩)⟩)⟩)⟩), (show ([0, 2, 3, 4, 5, 6, 7] : List Nat).Nodup from by decide)⟩ w
  · replace w := w.2 q
    refine ab_fin.s2 (i := .iload 5) (k := 2) (pc' := 201) (lv' := [(0, .ref 0), (2, .ref l2), (3, .int l3), (4, .int l4), (5, .int l5), (6, .int l6), (7, .int l7)]) (st' := [.int l5]) (by decide +kernel) rfl rfl ?_
    refine ab_fin.br (c := 0 ≤ l5) (i := .ifCond .ge 72) (off := 72) (t := 273) (pc' := 204) (r := []) (by decide +kernel) rfl (by decide +kernel) rfl (fun q => ?_) (fun q => ?_)
    · replace w := w.1 q
      exact ab_fin.lv ⟨(List.forall_mem_cons.mpr ⟨(List.Mem.head _), (List.forall_mem_cons.mpr ⟨(List.Mem.tail _ (List.Mem.head _)), (List.forall_mem_cons.mpr ⟨(List.Mem.tail _ (List.Mem.tail _ (List.Mem.head _))), (List.forall_mem_cons.mpr ⟨(List.Mem.tail _ (List.Mem.tail _ (List.Mem.tail _ (List.Mem.head _)))), (List.forall_mem_cons.mpr ⟨(List.Mem.tail _ (List.Mem.tail _ (List.Mem.tail _ (List.Mem.tail _ (List.Mem.head _))))), (List.forall_mem_cons.mpr ⟨(List.Mem.tail _ (List.Mem.tail _ (List.Mem.tail _ (List.Mem.tail _ (List.Mem.tail _ (List.Mem.head _)))))), (fun _ h => absurd h List.not_mem_nil)⟩)⟩)⟩)⟩)⟩)⟩), (show ([0, 2, 3, 4, 5, 6, 7] : List Nat).Nodup from by decide)⟩ w
    · replace w := w.2 q
      refine ab_fin.s2 (i := .aload_n 0) (k := 1) (pc' := 205) (lv' := [(0, .ref 0), (2, .ref l2), (3, .int l3), (4, .int l4), (5, .int l5), (6, .int l6), (7, .int l7)]) (st' := [.ref 0]) (by decide +kernel) rfl rfl ?_
      refine ab_fin.q_rA (b := 35) (ix := 73) (ci := 24) (k := 12) (pc' := 208) (by decide +kernel) rfl (c_rA (F.s s0_0) rfl (rM_12 F)) rfl ?_
      refine ab_fin.s2 (i := .iload 7) (k := 2) (pc' := 210) (lv' := [(0, .ref 0), (2, .ref l2), (3, .int l3), (4, .int l4), (5, .int l5), (6, .int l6), (7, .int l7)]) (st' := [.int l7, .ref 35]) (by decide +kernel) rfl rfl ?_
      obtain ⟨e1, w⟩ := w
      refine ab_fin.q_eI (x := (σ.i 35 l7.toNatClampNeg)) (pc' := 211) (by decide +kernel) (c_eI' (F.s s0_35) e1 rfl) rfl ?_
      refine ab_fin.s2 (i := .aload_n 0) (k := 1) (pc' := 212) (lv' := [(0, .ref 0), (2, .ref l2), (3, .int l3), (4, .int l4), (5, .int l5), (6, .int l6), (7, .int l7)]) (st' := [.ref 0, .int (σ.i 35 l7.toNatClampNeg)]) (by decide +kernel) rfl rfl ?_
      refine ab_fin.q_rA (b := 36) (ix := 76) (ci := 24) (k := 13) (pc' := 215) (by decide +kernel) rfl (c_rA (F.s s0_0) rfl (rM_13 F)) rfl ?_
      refine ab_fin.s2 (i := .iload 7) (k := 2) (pc' := 217) (lv' := [(0, .ref 0), (2, .ref l2), (3, .int l3), (4, .int l4), (5, .int l5), (6, .int l6), (7, .int l7)]) (st' := [.int l7, .ref 36, .int (σ.i 35 l7.toNatClampNeg)]) (by decide +kernel) rfl rfl ?_
      obtain ⟨e2, w⟩ := w
      refine ab_fin.q_eI (x := (σ.i 36 l7.toNatClampNeg)) (pc' := 218) (by decide +kernel) (c_eI' (F.s s0_36) e2 rfl) rfl ?_
      refine ab_fin.br (c := ¬ (σ.i 35 l7.toNatClampNeg) = (σ.i 36 l7.toNatClampNeg)) (i := .if_icmp .ne 6) (off := 6) (t := 224) (pc' := 221) (r := []) (by decide +kernel) rfl (by decide +kernel) rfl (fun q => ?_) (fun q => ?_)
      · replace w := w.1 q
        refine ab_fin.s1i (i := .iconst 1) (k := 1) (pc' := 225) (n := 1) (by decide +kernel) rfl (by decide +kernel) rfl ?_
        refine ab_fin.s2 (i := .istore 6) (k := 2) (pc' := 227) (lv' := [(6, .int 1), (0, .ref 0), (2, .ref l2), (3, .int l3), (4, .int l4), (5, .int l5), (7, .int l7)]) (st' := []) (by decide +kernel) rfl rfl ?_
        refine ab_fin.s2 (i := .aload_n 0) (k := 1) (pc' := 228) (lv' := [(6, .int 1), (0, .ref 0), (2, .ref l2), (3, .int l3), (4, .int l4), (5, .int l5), (7, .int l7)]) (st' := [.ref 0]) (by decide +kernel) rfl rfl ?_
        refine ab_fin.s2 (i := .aload_n 0) (k := 1) (pc' := 229) (lv' := [(6, .int 1), (0, .ref 0), (2, .ref l2), (3, .int l3), (4, .int l4), (5, .int l5), (7, .int l7)]) (st' := [.ref 0, .ref 0]) (by decide +kernel) rfl rfl ?_
        refine ab_fin.q_rA (b := 9) (ix := 82) (ci := 24) (k := 11) (pc' := 232) (by decide +kernel) rfl (c_rA (F.s s0_0) rfl (rM_11 F)) rfl ?_
        refine ab_fin.s2 (i := .iload 7) (k := 2) (pc' := 234) (lv' := [(6, .int 1), (0, .ref 0), (2, .ref l2), (3, .int l3), (4, .int l4), (5, .int l5), (7, .int l7)]) (st' := [.int l7, .ref 9, .ref 0]) (by decide +kernel) rfl rfl ?_
        obtain ⟨e3, w⟩ := w
        refine ab_fin.q_eA (b := (9 + 1 + l7.toNatClampNeg)) (pc' := 235) (by decide +kernel) (c_eA' (F.s s0_9) (by decide) rfl e3 rfl (rE_8 F s0_9)) rfl ?_
        refine ab_fin.s2 (i := .aload_n 0) (k := 1) (pc' := 236) (lv' := [(6, .int 1), (0, .ref 0), (2, .ref l2), (3, .int l3), (4, .int l4), (5, .int l5), (7, .int l7)]) (st' := [.ref 0, .ref (9 + 1 + l7.toNatClampNeg), .ref 0]) (by decide +kernel) rfl rfl ?_
        refine ab_fin.q_rA (b := 35) (ix := 73) (ci := 24) (k := 12) (pc' := 239) (by decide +kernel) rfl (c_rA (F.s s0_0) rfl (rM_12 F)) rfl ?_
        refine ab_fin.s2 (i := .iload 7) (k := 2) (pc' := 241) (lv' := [(6, .int 1), (0, .ref 0), (2, .ref l2), (3, .int l3), (4, .int l4), (5, .int l5), (7, .int l7)]) (st' := [.int l7, .ref 35, .ref (9 + 1 + l7.toNatClampNeg), .ref 0]) (by decide +kernel) rfl rfl ?_
        obtain ⟨e4, w⟩ := w
        refine ab_fin.q_eI (x := (σ.i 35 l7.toNatClampNeg)) (pc' := 242) (by decide +kernel) (c_eI' (F.s s0_35) e4 rfl) rfl ?_
        obtain ⟨e5, w⟩ := w
        refine ab_fin.q_eI (x := (σ.i (9 + 1 + l7.toNatClampNeg) ((σ.i 35 l7.toNatClampNeg).toNatClampNeg))) (pc' := 243) (by decide +kernel) (c_eI' (F.s (kE_9 e3.2)) e5 rfl) rfl ?_
        refine ab_fin.s2 (i := .iload_n 3) (k := 1) (pc' := 244) (lv' := [(6, .int 1), (0, .ref 0), (2, .ref l2), (3, .int l3), (4, .int l4), (5, .int l5), (7, .int l7)]) (st' := [.int l3, .int (σ.i (9 + 1 + l7.toNatClampNeg) ((σ.i 35 l7.toNatClampNeg).toNatClampNeg)), .ref 0]) (by decide +kernel) rfl rfl ?_
        refine ab_fin.q_yI (i := .invokevirtual 89) (k := 3) (y := 5896) (As := [.ref 0, .int (σ.i (9 + 1 + l7.toNatClampNeg) ((σ.i 35 l7.toNatClampNeg).toNatClampNeg)), .int l3]) (rest := []) (M' := (mX23_isFirst, [])) (lv2 := [(0, .ref 0), (1, .int (σ.i (9 + 1 + l7.toNatClampNeg) ((σ.i 35 l7.toNatClampNeg).toNatClampNeg))), (2, .int l3)]) (pc' := 247) (X := K) (by decide +kernel) (ab_cv rfl rfl (conc_get (σ := σ) (F.s s0_0)) ⟨(Nat.le_of_ble_eq_true rfl), (Nat.le_of_ble_eq_true rfl)⟩ rfl) rfl (Nat.le_of_ble_eq_true rfl) rfl rfl (hY_no fun E => rfl) w (fun v8 τ6 F7 w => ?_)
        refine ab_fin.br (c := v8 = 0) (i := .ifCond .eq 20) (off := 20) (t := 267) (pc' := 250) (r := []) (by decide +kernel) rfl (by decide +kernel) rfl (fun q => ?_) (fun q => ?_)
        · replace w := w.1 q
          refine ab_fin.q_inc (n := 7) (c := 1) (pc' := 270) (lv' := [(7, .int (l7 + 1)), (6, .int 1), (0, .ref 0), (2, .ref l2), (3, .int l3), (4, .int l4), (5, .int l5)]) (by decide +kernel) (by decide) rfl rfl rfl rfl ?_
          refine ab_fin.s3 (i := .goto (-77)) (k := 3) (t := 193) (st' := []) (by decide +kernel) (ab_gto (by decide +kernel)) ?_
          exact ab_fin.lv ⟨(List.forall_mem_cons.mpr ⟨(List.Mem.tail _ (List.Mem.tail _ (List.Mem.head _))), (List.forall_mem_cons.mpr ⟨(List.Mem.tail _ (List.Mem.tail _ (List.Mem.tail _ (List.Mem.head _)))), (List.forall_mem_cons.mpr ⟨(List.Mem.tail _ (List.Mem.tail _ (List.Mem.tail _ (List.Mem.tail _ (List.Mem.head _))))), (List.forall_mem_cons.mpr ⟨(List.Mem.tail _ (List.Mem.tail _ (List.Mem.tail _ (List.Mem.tail _ (List.Mem.tail _ (List.Mem.head _)))))), (List.forall_mem_cons.mpr ⟨(List.Mem.tail _ (List.Mem.tail _ (List.Mem.tail _ (List.Mem.tail _ (List.Mem.tail _ (List.Mem.tail _ (List.Mem.head _))))))), (List.forall_mem_cons.mpr ⟨(List.Mem.tail _ (List.Mem.head _)), (List.forall_mem_cons.mpr ⟨(List.Mem.head _), (fun _ h => absurd h List.not_mem_nil)⟩)⟩)⟩)⟩)⟩)⟩)⟩), (show ([7, 6, 0, 2, 3, 4, 5] : List Nat).Nodup from by decide)⟩ w
        · replace w := w.2 q
          refine ab_fin.s2 (i := .aload_n 0) (k := 1) (pc' := 251) (lv' := [(6, .int 1), (0, .ref 0), (2, .ref l2), (3, .int l3), (4, .int l4), (5, .int l5), (7, .int l7)]) (st' := [.ref 0]) (by decide +kernel) rfl rfl ?_
          refine ab_fin.q_rA (b := 9) (ix := 82) (ci := 24) (k := 11) (pc' := 254) (by decide +kernel) rfl (c_rA (F7.s s0_0) rfl (rM_11 F7)) rfl ?_
          refine ab_fin.s2 (i := .iload 7) (k := 2) (pc' := 256) (lv' := [(6, .int 1), (0, .ref 0), (2, .ref l2), (3, .int l3), (4, .int l4), (5, .int l5), (7, .int l7)]) (st' := [.int l7, .ref 9]) (by decide +kernel) rfl rfl ?_
          obtain ⟨e9, w⟩ := w
          refine ab_fin.q_eA (b := (9 + 1 + l7.toNatClampNeg)) (pc' := 257) (by decide +kernel) (c_eA' (F7.s s0_9) (by decide) rfl e9 rfl (rE_8 F7 s0_9)) rfl ?_
          refine ab_fin.s2 (i := .aload_n 0) (k := 1) (pc' := 258) (lv' := [(6, .int 1), (0, .ref 0), (2, .ref l2), (3, .int l3), (4, .int l4), (5, .int l5), (7, .int l7)]) (st' := [.ref 0, .ref (9 + 1 + l7.toNatClampNeg)]) (by decide +kernel) rfl rfl ?_
          refine ab_fin.q_rA (b := 35) (ix := 73) (ci := 24) (k := 12) (pc' := 261) (by decide +kernel) rfl (c_rA (F7.s s0_0) rfl (rM_12 F7)) rfl ?_
          refine ab_fin.s2 (i := .iload 7) (k := 2) (pc' := 263) (lv' := [(6, .int 1), (0, .ref 0), (2, .ref l2), (3, .int l3), (4, .int l4), (5, .int l5), (7, .int l7)]) (st' := [.int l7, .ref 35, .ref (9 + 1 + l7.toNatClampNeg)]) (by decide +kernel) rfl rfl ?_
          obtain ⟨e10, w⟩ := w
          refine ab_fin.q_eI (x := (τ6.i 35 l7.toNatClampNeg)) (pc' := 264) (by decide +kernel) (c_eI' (F7.s s0_35) e10 rfl) rfl ?_
          obtain ⟨e11, w⟩ := w
          refine ab_fin.q_eI (x := (τ6.i (9 + 1 + l7.toNatClampNeg) ((τ6.i 35 l7.toNatClampNeg).toNatClampNeg))) (pc' := 265) (by decide +kernel) (c_eI' (F7.s (kE_9 e9.2)) e11 rfl) rfl ?_
          refine ab_fin.s2 (i := .istore 5) (k := 2) (pc' := 267) (lv' := [(5, .int (τ6.i (9 + 1 + l7.toNatClampNeg) ((τ6.i 35 l7.toNatClampNeg).toNatClampNeg))), (6, .int 1), (0, .ref 0), (2, .ref l2), (3, .int l3), (4, .int l4), (7, .int l7)]) (st' := []) (by decide +kernel) rfl rfl ?_
          refine ab_fin.q_inc (n := 7) (c := 1) (pc' := 270) (lv' := [(7, .int (l7 + 1)), (5, .int (τ6.i (9 + 1 + l7.toNatClampNeg) ((τ6.i 35 l7.toNatClampNeg).toNatClampNeg))), (6, .int 1), (0, .ref 0), (2, .ref l2), (3, .int l3), (4, .int l4)]) (by decide +kernel) (by decide) rfl rfl rfl rfl ?_
          refine ab_fin.s3 (i := .goto (-77)) (k := 3) (t := 193) (st' := []) (by decide +kernel) (ab_gto (by decide +kernel)) ?_
          exact ab_fin.lv ⟨(List.forall_mem_cons.mpr ⟨(List.Mem.tail _ (List.Mem.tail _ (List.Mem.tail _ (List.Mem.head _)))), (List.forall_mem_cons.mpr ⟨(List.Mem.tail _ (List.Mem.tail _ (List.Mem.tail _ (List.Mem.tail _ (List.Mem.head _))))), (List.forall_mem_cons.mpr ⟨(List.Mem.tail _ (List.Mem.tail _ (List.Mem.tail _ (List.Mem.tail _ (List.Mem.tail _ (List.Mem.head _)))))), (List.forall_mem_cons.mpr ⟨(List.Mem.tail _ (List.Mem.tail _ (List.Mem.tail _ (List.Mem.tail _ (List.Mem.tail _ (List.Mem.tail _ (List.Mem.head _))))))), (List.forall_mem_cons.mpr ⟨(List.Mem.tail _ (List.Mem.head _)), (List.forall_mem_cons.mpr ⟨(List.Mem.tail _ (List.Mem.tail _ (List.Mem.head _))), (List.forall_mem_cons.mpr ⟨(List.Mem.head _), (fun _ h => absurd h List.not_mem_nil)⟩)⟩)⟩)⟩)⟩)⟩)⟩), (show ([7, 5, 6, 0, 2, 3, 4] : List Nat).Nodup from by decide)⟩ w
      · replace w := w.2 (Decidable.of_not_not q)
        refine ab_fin.s3 (i := .goto 46) (k := 3) (t := 267) (st' := []) (by decide +kernel) (ab_gto (by decide +kernel)) ?_
        refine ab_fin.q_inc (n := 7) (c := 1) (pc' := 270) (lv' := [(7, .int (l7 + 1)), (0, .ref 0), (2, .ref l2), (3, .int l3), (4, .int l4), (5, .int l5), (6, .int l6)]) (by decide +kernel) (by decide) rfl rfl rfl rfl ?_
        refine ab_fin.s3 (i := .goto (-77)) (k := 3) (t := 193) (st' := []) (by decide +kernel) (ab_gto (by decide +kernel)) ?_
        exact ab_fin.lv ⟨(List.forall_mem_cons.mpr ⟨(List.Mem.tail _ (List.Mem.head _)), (List.forall_mem_cons.mpr ⟨(List.Mem.tail _ (List.Mem.tail _ (List.Mem.head _))), (List.forall_mem_cons.mpr ⟨(List.Mem.tail _ (List.Mem.tail _ (List.Mem.tail _ (List.Mem.head _)))), (List.forall_mem_cons.mpr ⟨(List.Mem.tail _ (List.Mem.tail _ (List.Mem.tail _ (List.Mem.tail _ (List.Mem.head _))))), (List.forall_mem_cons.mpr ⟨(List.Mem.tail _ (List.Mem.tail _ (List.Mem.tail _ (List.Mem.tail _ (List.Mem.tail _ (List.Mem.head _)))))), (List.forall_mem_cons.mpr ⟨(List.Mem.tail _ (List.Mem.tail _ (List.Mem.tail _ (List.Mem.tail _ (List.Mem.tail _ (List.Mem.tail _ (List.Mem.head _))))))), (List.forall_mem_cons.mpr ⟨(List.Mem.head _), (fun _ h => absurd h List.not_mem_nil)⟩)⟩)⟩)⟩)⟩)⟩)⟩), (show ([7, 0, 2, 3, 4, 5, 6] : List Nat).Nodup from by decide)⟩ w
theorem S_X23_makeRows_273 {Z : zT} {d : Nat} {σ : Sg} {l2 : Nat} {l3 : Int32} {l4 : Int32} {l5 : Int32} {l6 : Int32} {K : kS} (F : FX ΦR σ.sh σ.r) (p_l2 : sh0R[l2]? = some (Sh.obj 18)) (w : (0 ≤ l5 → ib l4 24 ∧ (B_X23_makeRows_314 Z (d + 1) (σ.wi (l2 + 4 + 1 + 0) l4.toNatClampNeg l5) l2 l3 (l4 + 1) l5 0 K)) ∧ (¬ 0 ≤ l5 → (¬ l6 = 0 → K (.inl (some (.int 0))) (σ.wi (l2 + 8) 0 l4)) ∧ (l6 = 0 → K (.inl (some (.int 1))) (σ.wi (l2 + 8) 0 l4)))) : B_X23_makeRows_273 Z (d + 1) σ l2 l3 l4 l5 l6 K := by
  unfold B_X23_makeRows_273
  refine ab_fin.s2 (i := .iload 5) (k := 2) (pc' := 275) (lv' := [(0, .ref 0), (2, .ref l2), (3, .int l3), (4, .int l4), (5, .int l5), (6, .int l6)]) (st' := [.int l5]) (by decide +kernel) rfl rfl ?_
  refine ab_fin.br (c := 0 ≤ l5) (i := .ifCond .ge 22) (off := 22) (t := 297) (pc' := 278) (r := []) (by decide +kernel) rfl (by decide +kernel) rfl (fun q => ?_) (fun q => ?_)
  · replace w := w.1 q
    refine ab_fin.s2 (i := .aload_n 2) (k := 1) (pc' := 298) (lv' := [(0, .ref 0), (2, .ref l2), (3, .int l3), (4, .int l4), (5, .int l5), (6, .int l6)]) (st' := [.ref l2]) (by decide +kernel) rfl rfl ?_
    refine ab_fin.q_rA (b := (l2 + 4)) (ix := 86) (ci := 18) (k := 4) (pc' := 301) (by decide +kernel) rfl (c_rA (F.s p_l2) rfl (rO_18_4 F p_l2)) rfl ?_
    refine ab_fin.s1i (i := .iconst 0) (k := 1) (pc' := 302) (n := 0) (by decide +kernel) rfl (by decide +kernel) rfl ?_
    refine ab_fin.q_eA (b := (l2 + 4 + 1 + 0)) (pc' := 303) (by decide +kernel) (c_eA' (F.s (kF_18_4 p_l2)) (by decide) rfl (show ib (0 : Int32) 3 by decide +kernel) (by decide +kernel) (rE_8 F (kF_18_4 p_l2))) rfl ?_
    refine ab_fin.s2 (i := .iload 4) (k := 2) (pc' := 305) (lv' := [(0, .ref 0), (2, .ref l2), (3, .int l3), (4, .int l4), (5, .int l5), (6, .int l6)]) (st' := [.int l4, .ref (l2 + 4 + 1 + 0)]) (by decide +kernel) rfl rfl ?_
    refine ab_fin.s2 (i := .iload 5) (k := 2) (pc' := 307) (lv' := [(0, .ref 0), (2, .ref l2), (3, .int l3), (4, .int l4), (5, .int l5), (6, .int l6)]) (st' := [.int l5, .int l4, .ref (l2 + 4 + 1 + 0)]) (by decide +kernel) rfl rfl ?_
    obtain ⟨e1, w⟩ := w
    refine ab_fin.q_sI (h1 := conc (σ.wi (l2 + 4 + 1 + 0) l4.toNatClampNeg l5)) (pc' := 308) (by decide +kernel) (c_sI' (F.s (kE_18_4 p_l2 (show 0 < 3 by decide))) e1 rfl) rfl ?_
    refine ab_fin.q_inc (n := 4) (c := 1) (pc' := 311) (lv' := [(4, .int (l4 + 1)), (0, .ref 0), (2, .ref l2), (3, .int l3), (5, .int l5), (6, .int l6)]) (by decide +kernel) (by decide) rfl rfl rfl rfl ?_
    refine ab_fin.s1i (i := .iconst 0) (k := 1) (pc' := 312) (n := 0) (by decide +kernel) rfl (by decide +kernel) rfl ?_
    refine ab_fin.s2 (i := .istore 7) (k := 2) (pc' := 314) (lv' := [(7, .int 0), (4, .int (l4 + 1)), (0, .ref 0), (2, .ref l2), (3, .int l3), (5, .int l5), (6, .int l6)]) (st' := []) (by decide +kernel) rfl rfl ?_
    exact ab_fin.lv ⟨(List.forall_mem_cons.mpr ⟨(List.Mem.tail _ (List.Mem.tail _ (List.Mem.head _))), (List.forall_mem_cons.mpr ⟨(List.Mem.tail _ (List.Mem.tail _ (List.Mem.tail _ (List.Mem.head _)))), (List.forall_mem_cons.mpr ⟨(List.Mem.tail _ (List.Mem.tail _ (List.Mem.tail _ (List.Mem.tail _ (List.Mem.head _))))), (List.forall_mem_cons.mpr ⟨(List.Mem.tail _ (List.Mem.head _)), (List.forall_mem_cons.mpr ⟨(List.Mem.tail _ (List.Mem.tail _ (List.Mem.tail _ (List.Mem.tail _ (List.Mem.tail _ (List.Mem.head _)))))), (List.forall_mem_cons.mpr ⟨(List.Mem.head _), (fun _ h => absurd h List.not_mem_nil)⟩)⟩)⟩)⟩)⟩)⟩), (show ([7, 4, 0, 2, 3, 5, 6] : List Nat).Nodup from by decide)⟩ w
  · replace w := w.2 q
    refine ab_fin.s2 (i := .aload_n 2) (k := 1) (pc' := 279) (lv' := [(0, .ref 0), (2, .ref l2), (3, .int l3), (4, .int l4), (5, .int l5), (6, .int l6)]) (st' := [.ref l2]) (by decide +kernel) rfl rfl ?_
    refine ab_fin.q_rA (b := (l2 + 8)) (ix := 79) (ci := 18) (k := 5) (pc' := 282) (by decide +kernel) rfl (c_rA (F.s p_l2) rfl (rO_18_5 F p_l2)) rfl ?_
    refine ab_fin.s1i (i := .iconst 0) (k := 1) (pc' := 283) (n := 0) (by decide +kernel) rfl (by decide +kernel) rfl ?_
    refine ab_fin.s2 (i := .iload 4) (k := 2) (pc' := 285) (lv' := [(0, .ref 0), (2, .ref l2), (3, .int l3), (4, .int l4), (5, .int l5), (6, .int l6)]) (st' := [.int l4, .int 0, .ref (l2 + 8)]) (by decide +kernel) rfl rfl ?_
    refine ab_fin.q_sI (h1 := conc (σ.wi (l2 + 8) 0 l4)) (pc' := 286) (by decide +kernel) (c_sI' (F.s (kF_18_8 p_l2)) (show ib (0 : Int32) 3 by decide +kernel) (by decide +kernel)) rfl ?_
    refine ab_fin.s2 (i := .iload 6) (k := 2) (pc' := 288) (lv' := [(0, .ref 0), (2, .ref l2), (3, .int l3), (4, .int l4), (5, .int l5), (6, .int l6)]) (st' := [.int l6]) (by decide +kernel) rfl rfl ?_
    refine ab_fin.br (c := ¬ l6 = 0) (i := .ifCond .ne 7) (off := 7) (t := 295) (pc' := 291) (r := []) (by decide +kernel) rfl (by decide +kernel) rfl (fun q => ?_) (fun q => ?_)
    · replace w := w.1 q
      refine ab_fin.s1i (i := .iconst 0) (k := 1) (pc' := 296) (n := 0) (by decide +kernel) rfl (by decide +kernel) rfl ?_
      exact ab_fin.q_ret (i := .ireturn) (k := 1) (v := some (.int 0)) (by decide +kernel) rfl F w
    · replace w := w.2 (Decidable.of_not_not q)
      refine ab_fin.s1i (i := .iconst 1) (k := 1) (pc' := 292) (n := 1) (by decide +kernel) rfl (by decide +kernel) rfl ?_
      refine ab_fin.s3 (i := .goto 4) (k := 3) (t := 296) (st' := [.int 1]) (by decide +kernel) (ab_gto (by decide +kernel)) ?_
      exact ab_fin.q_ret (i := .ireturn) (k := 1) (v := some (.int 1)) (by decide +kernel) rfl F w
theorem S_X23_makeRows_314 {Z : zT} {d : Nat} {σ : Sg} {l2 : Nat} {l3 : Int32} {l4 : Int32} {l5 : Int32} {l7 : Int32} {K : kS} (F : FX ΦR σ.sh σ.r) (p_l2 : sh0R[l2]? = some (Sh.obj 18)) (w : (l3 < l7 → B_X23_makeRows_184 Z (d + 1) σ l2 l3 l4 K) ∧ (¬ l3 < l7 → ib l7 25 ∧ (ib l7 25 ∧ (((σ.i 36 l7.toNatClampNeg) ≤ (σ.i 35 l7.toNatClampNeg) → B_X23_makeRows_314 Z (d + 1) σ l2 l3 l4 l5 (l7 + 1) K) ∧ (¬ (σ.i 36 l7.toNatClampNeg) ≤ (σ.i 35 l7.toNatClampNeg) → ib l7 25 ∧ (ib l7 25 ∧ (ib (σ.i 35 l7.toNatClampNeg) 24 ∧ ((¬ (σ.i (9 + 1 + l7.toNatClampNeg) ((σ.i 35 l7.toNatClampNeg).toNatClampNeg)) = l5 → B_X23_makeRows_314 Z (d + 1) σ l2 l3 l4 l5 (l7 + 1) K) ∧ ((σ.i (9 + 1 + l7.toNatClampNeg) ((σ.i 35 l7.toNatClampNeg).toNatClampNeg)) = l5 → ib l7 25 ∧ (ib l7 25 ∧ (B_X23_makeRows_314 Z (d + 1) (σ.wi 35 l7.toNatClampNeg ((σ.i 35 l7.toNatClampNeg) + (1 : Int32))) l2 l3 l4 l5 (l7 + 1) K))))))))))) : B_X23_makeRows_314 Z (d + 1) σ l2 l3 l4 l5 l7 K := by
  unfold B_X23_makeRows_314
  refine ab_fin.s2 (i := .iload 7) (k := 2) (pc' := 316) (lv' := [(0, .ref 0), (2, .ref l2), (3, .int l3), (4, .int l4), (5, .int l5), (7, .int l7)]) (st' := [.int l7]) (by decide +kernel) rfl rfl ?_
  refine ab_fin.s2 (i := .iload_n 3) (k := 1) (pc' := 317) (lv' := [(0, .ref 0), (2, .ref l2), (3, .int l3), (4, .int l4), (5, .int l5), (7, .int l7)]) (st' := [.int l3, .int l7]) (by decide +kernel) rfl rfl ?_
  refine ab_fin.br (c := l3 < l7) (i := .if_icmp .gt 57) (off := 57) (t := 374) (pc' := 320) (r := []) (by decide +kernel) rfl (by decide +kernel) rfl (fun q => ?_) (fun q => ?_)
  · replace w := w.1 q
    refine ab_fin.s3 (i := .goto (-190)) (k := 3) (t := 184) (st' := []) (by decide +kernel) (ab_gto (by decide +kernel)) ?_
    exact ab_fin.lv ⟨(List.forall_mem_cons.mpr ⟨(List.Mem.head _), (List.forall_mem_cons.mpr ⟨(List.Mem.tail _ (List.Mem.head _)), (List.forall_mem_cons.mpr ⟨(List.Mem.tail _ (List.Mem.tail _ (List.Mem.head _))), (List.forall_mem_cons.mpr ⟨(List.Mem.tail _ (List.Mem.tail _ (List.Mem.tail _ (List.Mem.head _)))), (fun _ h => absurd h List.not_mem_nil)⟩)⟩)⟩)⟩), (show ([0, 2, 3, 4, 5, 7] : List Nat).Nodup from by decide)⟩ w
  · replace w := w.2 q
    refine ab_fin.s2 (i := .aload_n 0) (k := 1) (pc' := 321) (lv' := [(0, .ref 0), (2, .ref l2), (3, .int l3), (4, .int l4), (5, .int l5), (7, .int l7)]) (st' := [.ref 0]) (by decide +kernel) rfl rfl ?_
    refine ab_fin.q_rA (b := 35) (ix := 73) (ci := 24) (k := 12) (pc' := 324) (by decide +kernel) rfl (c_rA (F.s s0_0) rfl (rM_12 F)) rfl ?_
    refine ab_fin.s2 (i := .iload 7) (k := 2) (pc' := 326) (lv' := [(0, .ref 0), (2, .ref l2), (3, .int l3), (4, .int l4), (5, .int l5), (7, .int l7)]) (st' := [.int l7, .ref 35]) (by decide +kernel) rfl rfl ?_
    obtain ⟨e1, w⟩ := w
    refine ab_fin.q_eI (x := (σ.i 35 l7.toNatClampNeg)) (pc' := 327) (by decide +kernel) (c_eI' (F.s s0_35) e1 rfl) rfl ?_
    refine ab_fin.s2 (i := .aload_n 0) (k := 1) (pc' := 328) (lv' := [(0, .ref 0), (2, .ref l2), (3, .int l3), (4, .int l4), (5, .int l5), (7, .int l7)]) (st' := [.ref 0, .int (σ.i 35 l7.toNatClampNeg)]) (by decide +kernel) rfl rfl ?_
    refine ab_fin.q_rA (b := 36) (ix := 76) (ci := 24) (k := 13) (pc' := 331) (by decide +kernel) rfl (c_rA (F.s s0_0) rfl (rM_13 F)) rfl ?_
    refine ab_fin.s2 (i := .iload 7) (k := 2) (pc' := 333) (lv' := [(0, .ref 0), (2, .ref l2), (3, .int l3), (4, .int l4), (5, .int l5), (7, .int l7)]) (st' := [.int l7, .ref 36, .int (σ.i 35 l7.toNatClampNeg)]) (by decide +kernel) rfl rfl ?_
    obtain ⟨e2, w⟩ := w
    refine ab_fin.q_eI (x := (σ.i 36 l7.toNatClampNeg)) (pc' := 334) (by decide +kernel) (c_eI' (F.s s0_36) e2 rfl) rfl ?_
    refine ab_fin.br (c := (σ.i 36 l7.toNatClampNeg) ≤ (σ.i 35 l7.toNatClampNeg)) (i := .if_icmp .ge 34) (off := 34) (t := 368) (pc' := 337) (r := []) (by decide +kernel) rfl (by decide +kernel) rfl (fun q => ?_) (fun q => ?_)
    · replace w := w.1 q
      refine ab_fin.q_inc (n := 7) (c := 1) (pc' := 371) (lv' := [(7, .int (l7 + 1)), (0, .ref 0), (2, .ref l2), (3, .int l3), (4, .int l4), (5, .int l5)]) (by decide +kernel) (by decide) rfl rfl rfl rfl ?_
      refine ab_fin.s3 (i := .goto (-57)) (k := 3) (t := 314) (st' := []) (by decide +kernel) (ab_gto (by decide +kernel)) ?_
      exact ab_fin.lv ⟨(List.forall_mem_cons.mpr ⟨(List.Mem.tail _ (List.Mem.head _)), (List.forall_mem_cons.mpr ⟨(List.Mem.tail _ (List.Mem.tail _ (List.Mem.head _))), (List.forall_mem_cons.mpr ⟨(List.Mem.tail _ (List.Mem.tail _ (List.Mem.tail _ (List.Mem.head _)))), (List.forall_mem_cons.mpr ⟨(List.Mem.tail _ (List.Mem.tail _ (List.Mem.tail _ (List.Mem.tail _ (List.Mem.head _))))), (List.forall_mem_cons.mpr ⟨(List.Mem.tail _ (List.Mem.tail _ (List.Mem.tail _ (List.Mem.tail _ (List.Mem.tail _ (List.Mem.head _)))))), (List.forall_mem_cons.mpr ⟨(List.Mem.head _), (fun _ h => absurd h List.not_mem_nil)⟩)⟩)⟩)⟩)⟩)⟩), (show ([7, 0, 2, 3, 4, 5] : List Nat).Nodup from by decide)⟩ w
    · replace w := w.2 q
      refine ab_fin.s2 (i := .aload_n 0) (k := 1) (pc' := 338) (lv' := [(0, .ref 0), (2, .ref l2), (3, .int l3), (4, .int l4), (5, .int l5), (7, .int l7)]) (st' := [.ref 0]) (by decide +kernel) rfl rfl ?_
      refine ab_fin.q_rA (b := 9) (ix := 82) (ci := 24) (k := 11) (pc' := 341) (by decide +kernel) rfl (c_rA (F.s s0_0) rfl (rM_11 F)) rfl ?_
      refine ab_fin.s2 (i := .iload 7) (k := 2) (pc' := 343) (lv' := [(0, .ref 0), (2, .ref l2), (3, .int l3), (4, .int l4), (5, .int l5), (7, .int l7)]) (st' := [.int l7, .ref 9]) (by decide +kernel) rfl rfl ?_
      obtain ⟨e3, w⟩ := w
      refine ab_fin.q_eA (b := (9 + 1 + l7.toNatClampNeg)) (pc' := 344) (by decide +kernel) (c_eA' (F.s s0_9) (by decide) rfl e3 rfl (rE_8 F s0_9)) rfl ?_
      refine ab_fin.s2 (i := .aload_n 0) (k := 1) (pc' := 345) (lv' := [(0, .ref 0), (2, .ref l2), (3, .int l3), (4, .int l4), (5, .int l5), (7, .int l7)]) (st' := [.ref 0, .ref (9 + 1 + l7.toNatClampNeg)]) (by decide +kernel) rfl rfl ?_
      refine ab_fin.q_rA (b := 35) (ix := 73) (ci := 24) (k := 12) (pc' := 348) (by decide +kernel) rfl (c_rA (F.s s0_0) rfl (rM_12 F)) rfl ?_
      refine ab_fin.s2 (i := .iload 7) (k := 2) (pc' := 350) (lv' := [(0, .ref 0), (2, .ref l2), (3, .int l3), (4, .int l4), (5, .int l5), (7, .int l7)]) (st' := [.int l7, .ref 35, .ref (9 + 1 + l7.toNatClampNeg)]) (by decide +kernel) rfl rfl ?_
      obtain ⟨e4, w⟩ := w
      refine ab_fin.q_eI (x := (σ.i 35 l7.toNatClampNeg)) (pc' := 351) (by decide +kernel) (c_eI' (F.s s0_35) e4 rfl) rfl ?_
      obtain ⟨e5, w⟩ := w
      refine ab_fin.q_eI (x := (σ.i (9 + 1 + l7.toNatClampNeg) ((σ.i 35 l7.toNatClampNeg).toNatClampNeg))) (pc' := 352) (by decide +kernel) (c_eI' (F.s (kE_9 e3.2)) e5 rfl) rfl ?_
      refine ab_fin.s2 (i := .iload 5) (k := 2) (pc' := 354) (lv' := [(0, .ref 0), (2, .ref l2), (3, .int l3), (4, .int l4), (5, .int l5), (7, .int l7)]) (st' := [.int l5, .int (σ.i (9 + 1 + l7.toNatClampNeg) ((σ.i 35 l7.toNatClampNeg).toNatClampNeg))]) (by decide +kernel) rfl rfl ?_
      refine ab_fin.br (c := ¬ (σ.i (9 + 1 + l7.toNatClampNeg) ((σ.i 35 l7.toNatClampNeg).toNatClampNeg)) = l5) (i := .if_icmp .ne 14) (off := 14) (t := 368) (pc' := 357) (r := []) (by decide +kernel) rfl (by decide +kernel) rfl (fun q => ?_) (fun q => ?_)
      · replace w := w.1 q
        refine ab_fin.q_inc (n := 7) (c := 1) (pc' := 371) (lv' := [(7, .int (l7 + 1)), (0, .ref 0), (2, .ref l2), (3, .int l3), (4, .int l4), (5, .int l5)]) (by decide +kernel) (by decide) rfl rfl rfl rfl ?_
        refine ab_fin.s3 (i := .goto (-57)) (k := 3) (t := 314) (st' := []) (by decide +kernel) (ab_gto (by decide +kernel)) ?_
        exact ab_fin.lv ⟨(List.forall_mem_cons.mpr ⟨(List.Mem.tail _ (List.Mem.head _)), (List.forall_mem_cons.mpr ⟨(List.Mem.tail _ (List.Mem.tail _ (List.Mem.head _))), (List.forall_mem_cons.mpr ⟨(List.Mem.tail _ (List.Mem.tail _ (List.Mem.tail _ (List.Mem.head _)))), (List.forall_mem_cons.mpr ⟨(List.Mem.tail _ (List.Mem.tail _ (List.Mem.tail _ (List.Mem.tail _ (List.Mem.head _))))), (List.forall_mem_cons.mpr ⟨(List.Mem.tail _ (List.Mem.tail _ (List.Mem.tail _ (List.Mem.tail _ (List.Mem.tail _ (List.Mem.head _)))))), (List.forall_mem_cons.mpr ⟨(List.Mem.head _), (fun _ h => absurd h List.not_mem_nil)⟩)⟩)⟩)⟩)⟩)⟩), (show ([7, 0, 2, 3, 4, 5] : List Nat).Nodup from by decide)⟩ w
      · replace w := w.2 (Decidable.of_not_not q)
        refine ab_fin.s2 (i := .aload_n 0) (k := 1) (pc' := 358) (lv' := [(0, .ref 0), (2, .ref l2), (3, .int l3), (4, .int l4), (5, .int l5), (7, .int l7)]) (st' := [.ref 0]) (by decide +kernel) rfl rfl ?_
        refine ab_fin.q_rA (b := 35) (ix := 73) (ci := 24) (k := 12) (pc' := 361) (by decide +kernel) rfl (c_rA (F.s s0_0) rfl (rM_12 F)) rfl ?_
        refine ab_fin.s2 (i := .iload 7) (k := 2) (pc' := 363) (lv' := [(0, .ref 0), (2, .ref l2), (3, .int l3), (4, .int l4), (5, .int l5), (7, .int l7)]) (st' := [.int l7, .ref 35]) (by decide +kernel) rfl rfl ?_
        refine ab_fin.s1 (i := .dup2) (k := 1) (pc' := 364) (st' := [.int l7, .ref 35, .int l7, .ref 35]) (by decide +kernel) rfl rfl ?_
        obtain ⟨e6, w⟩ := w
        refine ab_fin.q_eI (x := (σ.i 35 l7.toNatClampNeg)) (pc' := 365) (by decide +kernel) (c_eI' (F.s s0_35) e6 rfl) rfl ?_
        refine ab_fin.s1i (i := .iconst 1) (k := 1) (pc' := 366) (n := 1) (by decide +kernel) rfl (by decide +kernel) rfl ?_
        refine ab_fin.s1 (i := .iadd) (k := 1) (pc' := 367) (st' := [.int ((σ.i 35 l7.toNatClampNeg) + (1 : Int32)), .int l7, .ref 35]) (by decide +kernel) rfl rfl ?_
        obtain ⟨e7, w⟩ := w
        refine ab_fin.q_sI (h1 := conc (σ.wi 35 l7.toNatClampNeg ((σ.i 35 l7.toNatClampNeg) + (1 : Int32)))) (pc' := 368) (by decide +kernel) (c_sI' (F.s s0_35) e7 rfl) rfl ?_
        refine ab_fin.q_inc (n := 7) (c := 1) (pc' := 371) (lv' := [(7, .int (l7 + 1)), (0, .ref 0), (2, .ref l2), (3, .int l3), (4, .int l4), (5, .int l5)]) (by decide +kernel) (by decide) rfl rfl rfl rfl ?_
        refine ab_fin.s3 (i := .goto (-57)) (k := 3) (t := 314) (st' := []) (by decide +kernel) (ab_gto (by decide +kernel)) ?_
        exact ab_fin.lv ⟨(List.forall_mem_cons.mpr ⟨(List.Mem.tail _ (List.Mem.head _)), (List.forall_mem_cons.mpr ⟨(List.Mem.tail _ (List.Mem.tail _ (List.Mem.head _))), (List.forall_mem_cons.mpr ⟨(List.Mem.tail _ (List.Mem.tail _ (List.Mem.tail _ (List.Mem.head _)))), (List.forall_mem_cons.mpr ⟨(List.Mem.tail _ (List.Mem.tail _ (List.Mem.tail _ (List.Mem.tail _ (List.Mem.head _))))), (List.forall_mem_cons.mpr ⟨(List.Mem.tail _ (List.Mem.tail _ (List.Mem.tail _ (List.Mem.tail _ (List.Mem.tail _ (List.Mem.head _)))))), (List.forall_mem_cons.mpr ⟨(List.Mem.head _), (fun _ h => absurd h List.not_mem_nil)⟩)⟩)⟩)⟩)⟩)⟩), (show ([7, 0, 2, 3, 4, 5] : List Nat).Nodup from by decide)⟩ w
theorem S_X23_isFirst_0 {Z : zT} {d : Nat} {σ : Sg} {l1 : Int32} {l2 : Int32} {K : kS} (F : FX ΦR σ.sh σ.r) (w : B_X23_isFirst_2 Z (d + 1) σ l1 l2 0 K) : B_X23_isFirst_0 Z (d + 1) σ l1 l2 K := by
  unfold B_X23_isFirst_0
  refine ab_fin.s1i (i := .iconst 0) (k := 1) (pc' := 1) (n := 0) (by decide +kernel) rfl (by decide +kernel) rfl ?_
  refine ab_fin.s2 (i := .istore_n 3) (k := 1) (pc' := 2) (lv' := [(3, .int 0), (0, .ref 0), (1, .int l1), (2, .int l2)]) (st' := []) (by decide +kernel) rfl rfl ?_
  exact ab_fin.lv ⟨(List.forall_mem_cons.mpr ⟨(List.Mem.tail _ (List.Mem.head _)), (List.forall_mem_cons.mpr ⟨(List.Mem.tail _ (List.Mem.tail _ (List.Mem.head _))), (List.forall_mem_cons.mpr ⟨(List.Mem.tail _ (List.Mem.tail _ (List.Mem.tail _ (List.Mem.head _)))), (List.forall_mem_cons.mpr ⟨(List.Mem.head _), (fun _ h => absurd h List.not_mem_nil)⟩)⟩)⟩)⟩), (show ([3, 0, 1, 2] : List Nat).Nodup from by decide)⟩ w
theorem S_X23_isFirst_2 {Z : zT} {d : Nat} {σ : Sg} {l1 : Int32} {l2 : Int32} {l3 : Int32} {K : kS} (F : FX ΦR σ.sh σ.r) (w : (l2 < l3 → K (.inl (some (.int 1))) σ) ∧ (¬ l2 < l3 → ib l3 25 ∧ (B_X23_isFirst_17 Z (d + 1) σ l1 l2 l3 ((σ.i 35 l3.toNatClampNeg) + (1 : Int32)) K))) : B_X23_isFirst_2 Z (d + 1) σ l1 l2 l3 K := by
  unfold B_X23_isFirst_2
  refine ab_fin.s2 (i := .iload_n 3) (k := 1) (pc' := 3) (lv' := [(0, .ref 0), (1, .int l1), (2, .int l2), (3, .int l3)]) (st' := [.int l3]) (by decide +kernel) rfl rfl ?_
  refine ab_fin.s2 (i := .iload_n 2) (k := 1) (pc' := 4) (lv' := [(0, .ref 0), (1, .int l1), (2, .int l2), (3, .int l3)]) (st' := [.int l2, .int l3]) (by decide +kernel) rfl rfl ?_
  refine ab_fin.br (c := l2 < l3) (i := .if_icmp .gt 51) (off := 51) (t := 55) (pc' := 7) (r := []) (by decide +kernel) rfl (by decide +kernel) rfl (fun q => ?_) (fun q => ?_)
  · replace w := w.1 q
    refine ab_fin.s1i (i := .iconst 1) (k := 1) (pc' := 56) (n := 1) (by decide +kernel) rfl (by decide +kernel) rfl ?_
    exact ab_fin.q_ret (i := .ireturn) (k := 1) (v := some (.int 1)) (by decide +kernel) rfl F w
  · replace w := w.2 q
    refine ab_fin.s2 (i := .aload_n 0) (k := 1) (pc' := 8) (lv' := [(0, .ref 0), (1, .int l1), (2, .int l2), (3, .int l3)]) (st' := [.ref 0]) (by decide +kernel) rfl rfl ?_
    refine ab_fin.q_rA (b := 35) (ix := 73) (ci := 24) (k := 12) (pc' := 11) (by decide +kernel) rfl (c_rA (F.s s0_0) rfl (rM_12 F)) rfl ?_
    refine ab_fin.s2 (i := .iload_n 3) (k := 1) (pc' := 12) (lv' := [(0, .ref 0), (1, .int l1), (2, .int l2), (3, .int l3)]) (st' := [.int l3, .ref 35]) (by decide +kernel) rfl rfl ?_
    obtain ⟨e1, w⟩ := w
    refine ab_fin.q_eI (x := (σ.i 35 l3.toNatClampNeg)) (pc' := 13) (by decide +kernel) (c_eI' (F.s s0_35) e1 rfl) rfl ?_
    refine ab_fin.s1i (i := .iconst 1) (k := 1) (pc' := 14) (n := 1) (by decide +kernel) rfl (by decide +kernel) rfl ?_
    refine ab_fin.s1 (i := .iadd) (k := 1) (pc' := 15) (st' := [.int ((σ.i 35 l3.toNatClampNeg) + (1 : Int32))]) (by decide +kernel) rfl rfl ?_
    refine ab_fin.s2 (i := .istore 4) (k := 2) (pc' := 17) (lv' := [(4, .int ((σ.i 35 l3.toNatClampNeg) + (1 : Int32))), (0, .ref 0), (1, .int l1), (2, .int l2), (3, .int l3)]) (st' := []) (by decide +kernel) rfl rfl ?_
    exact ab_fin.lv ⟨(List.forall_mem_cons.mpr ⟨(List.Mem.tail _ (List.Mem.head _)), (List.forall_mem_cons.mpr ⟨(List.Mem.tail _ (List.Mem.tail _ (List.Mem.head _))), (List.forall_mem_cons.mpr ⟨(List.Mem.tail _ (List.Mem.tail _ (List.Mem.tail _ (List.Mem.head _)))), (List.forall_mem_cons.mpr ⟨(List.Mem.tail _ (List.Mem.tail _ (List.Mem.tail _ (List.Mem.tail _ (List.Mem.head _))))), (List.forall_mem_cons.mpr ⟨(List.Mem.head _), (fun _ h => absurd h List.not_mem_nil)⟩)⟩)⟩)⟩)⟩), (show ([4, 0, 1, 2, 3] : List Nat).Nodup from by decide)⟩ w
theorem S_X23_isFirst_17 {Z : zT} {d : Nat} {σ : Sg} {l1 : Int32} {l2 : Int32} {l3 : Int32} {l4 : Int32} {K : kS} (F : FX ΦR σ.sh σ.r) (w : ib l3 25 ∧ (((σ.i 36 l3.toNatClampNeg) ≤ l4 → B_X23_isFirst_2 Z (d + 1) σ l1 l2 (l3 + 1) K) ∧ (¬ (σ.i 36 l3.toNatClampNeg) ≤ l4 → ib l3 25 ∧ (ib l4 24 ∧ ((¬ (σ.i (9 + 1 + l3.toNatClampNeg) l4.toNatClampNeg) = l1 → B_X23_isFirst_17 Z (d + 1) σ l1 l2 l3 (l4 + 1) K) ∧ ((σ.i (9 + 1 + l3.toNatClampNeg) l4.toNatClampNeg) = l1 → K (.inl (some (.int 0))) σ)))))) : B_X23_isFirst_17 Z (d + 1) σ l1 l2 l3 l4 K := by
  unfold B_X23_isFirst_17
  refine ab_fin.s2 (i := .iload 4) (k := 2) (pc' := 19) (lv' := [(0, .ref 0), (1, .int l1), (2, .int l2), (3, .int l3), (4, .int l4)]) (st' := [.int l4]) (by decide +kernel) rfl rfl ?_
  refine ab_fin.s2 (i := .aload_n 0) (k := 1) (pc' := 20) (lv' := [(0, .ref 0), (1, .int l1), (2, .int l2), (3, .int l3), (4, .int l4)]) (st' := [.ref 0, .int l4]) (by decide +kernel) rfl rfl ?_
  refine ab_fin.q_rA (b := 36) (ix := 76) (ci := 24) (k := 13) (pc' := 23) (by decide +kernel) rfl (c_rA (F.s s0_0) rfl (rM_13 F)) rfl ?_
  refine ab_fin.s2 (i := .iload_n 3) (k := 1) (pc' := 24) (lv' := [(0, .ref 0), (1, .int l1), (2, .int l2), (3, .int l3), (4, .int l4)]) (st' := [.int l3, .ref 36, .int l4]) (by decide +kernel) rfl rfl ?_
  obtain ⟨e1, w⟩ := w
  refine ab_fin.q_eI (x := (σ.i 36 l3.toNatClampNeg)) (pc' := 25) (by decide +kernel) (c_eI' (F.s s0_36) e1 rfl) rfl ?_
  refine ab_fin.br (c := (σ.i 36 l3.toNatClampNeg) ≤ l4) (i := .if_icmp .ge 24) (off := 24) (t := 49) (pc' := 28) (r := []) (by decide +kernel) rfl (by decide +kernel) rfl (fun q => ?_) (fun q => ?_)
  · replace w := w.1 q
    refine ab_fin.q_inc (n := 3) (c := 1) (pc' := 52) (lv' := [(3, .int (l3 + 1)), (0, .ref 0), (1, .int l1), (2, .int l2), (4, .int l4)]) (by decide +kernel) (by decide) rfl rfl rfl rfl ?_
    refine ab_fin.s3 (i := .goto (-50)) (k := 3) (t := 2) (st' := []) (by decide +kernel) (ab_gto (by decide +kernel)) ?_
    exact ab_fin.lv ⟨(List.forall_mem_cons.mpr ⟨(List.Mem.tail _ (List.Mem.head _)), (List.forall_mem_cons.mpr ⟨(List.Mem.tail _ (List.Mem.tail _ (List.Mem.head _))), (List.forall_mem_cons.mpr ⟨(List.Mem.tail _ (List.Mem.tail _ (List.Mem.tail _ (List.Mem.head _)))), (List.forall_mem_cons.mpr ⟨(List.Mem.head _), (fun _ h => absurd h List.not_mem_nil)⟩)⟩)⟩)⟩), (show ([3, 0, 1, 2, 4] : List Nat).Nodup from by decide)⟩ w
  · replace w := w.2 q
    refine ab_fin.s2 (i := .aload_n 0) (k := 1) (pc' := 29) (lv' := [(0, .ref 0), (1, .int l1), (2, .int l2), (3, .int l3), (4, .int l4)]) (st' := [.ref 0]) (by decide +kernel) rfl rfl ?_
    refine ab_fin.q_rA (b := 9) (ix := 82) (ci := 24) (k := 11) (pc' := 32) (by decide +kernel) rfl (c_rA (F.s s0_0) rfl (rM_11 F)) rfl ?_
    refine ab_fin.s2 (i := .iload_n 3) (k := 1) (pc' := 33) (lv' := [(0, .ref 0), (1, .int l1), (2, .int l2), (3, .int l3), (4, .int l4)]) (st' := [.int l3, .ref 9]) (by decide +kernel) rfl rfl ?_
    obtain ⟨e2, w⟩ := w
    refine ab_fin.q_eA (b := (9 + 1 + l3.toNatClampNeg)) (pc' := 34) (by decide +kernel) (c_eA' (F.s s0_9) (by decide) rfl e2 rfl (rE_8 F s0_9)) rfl ?_
    refine ab_fin.s2 (i := .iload 4) (k := 2) (pc' := 36) (lv' := [(0, .ref 0), (1, .int l1), (2, .int l2), (3, .int l3), (4, .int l4)]) (st' := [.int l4, .ref (9 + 1 + l3.toNatClampNeg)]) (by decide +kernel) rfl rfl ?_
    obtain ⟨e3, w⟩ := w
    refine ab_fin.q_eI (x := (σ.i (9 + 1 + l3.toNatClampNeg) l4.toNatClampNeg)) (pc' := 37) (by decide +kernel) (c_eI' (F.s (kE_9 e2.2)) e3 rfl) rfl ?_
    refine ab_fin.s2 (i := .iload_n 1) (k := 1) (pc' := 38) (lv' := [(0, .ref 0), (1, .int l1), (2, .int l2), (3, .int l3), (4, .int l4)]) (st' := [.int l1, .int (σ.i (9 + 1 + l3.toNatClampNeg) l4.toNatClampNeg)]) (by decide +kernel) rfl rfl ?_
    refine ab_fin.br (c := ¬ (σ.i (9 + 1 + l3.toNatClampNeg) l4.toNatClampNeg) = l1) (i := .if_icmp .ne 5) (off := 5) (t := 43) (pc' := 41) (r := []) (by decide +kernel) rfl (by decide +kernel) rfl (fun q => ?_) (fun q => ?_)
    · replace w := w.1 q
      refine ab_fin.q_inc (n := 4) (c := 1) (pc' := 46) (lv' := [(4, .int (l4 + 1)), (0, .ref 0), (1, .int l1), (2, .int l2), (3, .int l3)]) (by decide +kernel) (by decide) rfl rfl rfl rfl ?_
      refine ab_fin.s3 (i := .goto (-29)) (k := 3) (t := 17) (st' := []) (by decide +kernel) (ab_gto (by decide +kernel)) ?_
      exact ab_fin.lv ⟨(List.forall_mem_cons.mpr ⟨(List.Mem.tail _ (List.Mem.head _)), (List.forall_mem_cons.mpr ⟨(List.Mem.tail _ (List.Mem.tail _ (List.Mem.head _))), (List.forall_mem_cons.mpr ⟨(List.Mem.tail _ (List.Mem.tail _ (List.Mem.tail _ (List.Mem.head _)))), (List.forall_mem_cons.mpr ⟨(List.Mem.tail _ (List.Mem.tail _ (List.Mem.tail _ (List.Mem.tail _ (List.Mem.head _))))), (List.forall_mem_cons.mpr ⟨(List.Mem.head _), (fun _ h => absurd h List.not_mem_nil)⟩)⟩)⟩)⟩)⟩), (show ([4, 0, 1, 2, 3] : List Nat).Nodup from by decide)⟩ w
    · replace w := w.2 (Decidable.of_not_not q)
      refine ab_fin.s1i (i := .iconst 0) (k := 1) (pc' := 42) (n := 0) (by decide +kernel) rfl (by decide +kernel) rfl ?_
      exact ab_fin.q_ret (i := .ireturn) (k := 1) (v := some (.int 0)) (by decide +kernel) rfl F w
theorem S_X23_joined_0 {Z : zT} {d : Nat} {σ : Sg} {l1 : Nat} {l2 : Int32} {l3 : Int32} {K : kS} (F : FX ΦR σ.sh σ.r) (w : sh0R[l1]? = some (Sh.obj 18) ∧ (ib l3 3 ∧ (B_X23_joined_19 Z (d + 1) (σ.wi (l1 + 4 + 1 + l3.toNatClampNeg) 0 l2) l1 l3 (l1 + 4 + 1 + l3.toNatClampNeg) 1 0 K))) : B_X23_joined_0 Z (d + 1) σ l1 l2 l3 K := by
  unfold B_X23_joined_0
  refine ab_fin.s2 (i := .aload_n 1) (k := 1) (pc' := 1) (lv' := [(0, .ref 0), (1, .ref l1), (2, .int l2), (3, .int l3)]) (st' := [.ref l1]) (by decide +kernel) rfl rfl ?_
  obtain ⟨e1, w⟩ := w
  refine ab_fin.q_rA (b := (l1 + 4)) (ix := 86) (ci := 18) (k := 4) (pc' := 4) (by decide +kernel) rfl (c_rA (F.s e1) rfl (rO_18_4 F e1)) rfl ?_
  refine ab_fin.s2 (i := .iload_n 3) (k := 1) (pc' := 5) (lv' := [(0, .ref 0), (1, .ref l1), (2, .int l2), (3, .int l3)]) (st' := [.int l3, .ref (l1 + 4)]) (by decide +kernel) rfl rfl ?_
  obtain ⟨e2, w⟩ := w
  refine ab_fin.q_eA (b := (l1 + 4 + 1 + l3.toNatClampNeg)) (pc' := 6) (by decide +kernel) (c_eA' (F.s (kF_18_4 e1)) (by decide) rfl e2 rfl (rE_8 F (kF_18_4 e1))) rfl ?_
  refine ab_fin.s2 (i := .astore 4) (k := 2) (pc' := 8) (lv' := [(4, .ref (l1 + 4 + 1 + l3.toNatClampNeg)), (0, .ref 0), (1, .ref l1), (2, .int l2), (3, .int l3)]) (st' := []) (by decide +kernel) rfl rfl ?_
  refine ab_fin.s2 (i := .aload 4) (k := 2) (pc' := 10) (lv' := [(4, .ref (l1 + 4 + 1 + l3.toNatClampNeg)), (0, .ref 0), (1, .ref l1), (2, .int l2), (3, .int l3)]) (st' := [.ref (l1 + 4 + 1 + l3.toNatClampNeg)]) (by decide +kernel) rfl rfl ?_
  refine ab_fin.s1i (i := .iconst 0) (k := 1) (pc' := 11) (n := 0) (by decide +kernel) rfl (by decide +kernel) rfl ?_
  refine ab_fin.s2 (i := .iload_n 2) (k := 1) (pc' := 12) (lv' := [(4, .ref (l1 + 4 + 1 + l3.toNatClampNeg)), (0, .ref 0), (1, .ref l1), (2, .int l2), (3, .int l3)]) (st' := [.int l2, .int 0, .ref (l1 + 4 + 1 + l3.toNatClampNeg)]) (by decide +kernel) rfl rfl ?_
  refine ab_fin.q_sI (h1 := conc (σ.wi (l1 + 4 + 1 + l3.toNatClampNeg) 0 l2)) (pc' := 13) (by decide +kernel) (c_sI' (F.s (kE_18_4 e1 e2.2)) (show ib (0 : Int32) 24 by decide +kernel) (by decide +kernel)) rfl ?_
  refine ab_fin.s1i (i := .iconst 1) (k := 1) (pc' := 14) (n := 1) (by decide +kernel) rfl (by decide +kernel) rfl ?_
  refine ab_fin.s2 (i := .istore 5) (k := 2) (pc' := 16) (lv' := [(5, .int 1), (4, .ref (l1 + 4 + 1 + l3.toNatClampNeg)), (0, .ref 0), (1, .ref l1), (2, .int l2), (3, .int l3)]) (st' := []) (by decide +kernel) rfl rfl ?_
  refine ab_fin.s1i (i := .iconst 0) (k := 1) (pc' := 17) (n := 0) (by decide +kernel) rfl (by decide +kernel) rfl ?_
  refine ab_fin.s2 (i := .istore 6) (k := 2) (pc' := 19) (lv' := [(6, .int 0), (5, .int 1), (4, .ref (l1 + 4 + 1 + l3.toNatClampNeg)), (0, .ref 0), (1, .ref l1), (2, .int l2), (3, .int l3)]) (st' := []) (by decide +kernel) rfl rfl ?_
  exact ab_fin.lv ⟨(List.forall_mem_cons.mpr ⟨(List.Mem.tail _ (List.Mem.tail _ (List.Mem.tail _ (List.Mem.head _)))), (List.forall_mem_cons.mpr ⟨(List.Mem.tail _ (List.Mem.tail _ (List.Mem.tail _ (List.Mem.tail _ (List.Mem.head _))))), (List.forall_mem_cons.mpr ⟨(List.Mem.tail _ (List.Mem.tail _ (List.Mem.tail _ (List.Mem.tail _ (List.Mem.tail _ (List.Mem.tail _ (List.Mem.head _))))))), (List.forall_mem_cons.mpr ⟨(List.Mem.tail _ (List.Mem.tail _ (List.Mem.head _))), (List.forall_mem_cons.mpr ⟨(List.Mem.tail _ (List.Mem.head _)), (List.forall_mem_cons.mpr ⟨(List.Mem.head _), (fun _ h => absurd h List.not_mem_nil)⟩)⟩)⟩)⟩)⟩)⟩), (show ([6, 5, 4, 0, 1, 2, 3] : List Nat).Nodup from by decide)⟩ w
theorem S_X23_joined_19 {Z : zT} {d : Nat} {σ : Sg} {l1 : Nat} {l3 : Int32} {l4 : Nat} {l5 : Int32} {l6 : Int32} {K : kS} (F : FX ΦR σ.sh σ.r) (p_l1 : sh0R[l1]? = some (Sh.obj 18)) (p_l4 : sh0R[l4]? = some (Sh.arr 0 24)) (w : ((σ.i l1 3) ≤ l6 → ib l3 3 ∧ (K (.inl none) (σ.wi (l1 + 8) l3.toNatClampNeg l5))) ∧ (¬ (σ.i l1 3) ≤ l6 → ib l6 24 ∧ (ib (σ.i (l1 + 3) l6.toNatClampNeg) 24 ∧ (B_X23_joined_45 Z (d + 1) σ l1 l3 l4 l5 l6 (2193 + 9 * ((σ.i (l1 + 3) l6.toNatClampNeg).toNatClampNeg)) 0 K)))) : B_X23_joined_19 Z (d + 1) σ l1 l3 l4 l5 l6 K := by
  unfold B_X23_joined_19
  refine ab_fin.s2 (i := .iload 6) (k := 2) (pc' := 21) (lv' := [(0, .ref 0), (1, .ref l1), (3, .int l3), (4, .ref l4), (5, .int l5), (6, .int l6)]) (st' := [.int l6]) (by decide +kernel) rfl rfl ?_
  refine ab_fin.s2 (i := .aload_n 1) (k := 1) (pc' := 22) (lv' := [(0, .ref 0), (1, .ref l1), (3, .int l3), (4, .ref l4), (5, .int l5), (6, .int l6)]) (st' := [.ref l1, .int l6]) (by decide +kernel) rfl rfl ?_
  refine ab_fin.q_rI (x := (σ.i l1 3)) (ix := 66) (ci := 18) (k := 3) (pc' := 25) (by decide +kernel) rfl (c_rI (F.s p_l1) rfl) rfl ?_
  refine ab_fin.br (c := (σ.i l1 3) ≤ l6) (i := .if_icmp .ge 148) (off := 148) (t := 173) (pc' := 28) (r := []) (by decide +kernel) rfl (by decide +kernel) rfl (fun q => ?_) (fun q => ?_)
  · replace w := w.1 q
    refine ab_fin.s2 (i := .aload_n 1) (k := 1) (pc' := 174) (lv' := [(0, .ref 0), (1, .ref l1), (3, .int l3), (4, .ref l4), (5, .int l5), (6, .int l6)]) (st' := [.ref l1]) (by decide +kernel) rfl rfl ?_
    refine ab_fin.q_rA (b := (l1 + 8)) (ix := 79) (ci := 18) (k := 5) (pc' := 177) (by decide +kernel) rfl (c_rA (F.s p_l1) rfl (rO_18_5 F p_l1)) rfl ?_
    refine ab_fin.s2 (i := .iload_n 3) (k := 1) (pc' := 178) (lv' := [(0, .ref 0), (1, .ref l1), (3, .int l3), (4, .ref l4), (5, .int l5), (6, .int l6)]) (st' := [.int l3, .ref (l1 + 8)]) (by decide +kernel) rfl rfl ?_
    refine ab_fin.s2 (i := .iload 5) (k := 2) (pc' := 180) (lv' := [(0, .ref 0), (1, .ref l1), (3, .int l3), (4, .ref l4), (5, .int l5), (6, .int l6)]) (st' := [.int l5, .int l3, .ref (l1 + 8)]) (by decide +kernel) rfl rfl ?_
    obtain ⟨e1, w⟩ := w
    refine ab_fin.q_sI (h1 := conc (σ.wi (l1 + 8) l3.toNatClampNeg l5)) (pc' := 181) (by decide +kernel) (c_sI' (F.s (kF_18_8 p_l1)) e1 rfl) rfl ?_
    exact ab_fin.q_ret (i := .return_) (k := 1) (v := none) (by decide +kernel) rfl F w
  · replace w := w.2 q
    refine ab_fin.s2 (i := .aload_n 0) (k := 1) (pc' := 29) (lv' := [(0, .ref 0), (1, .ref l1), (3, .int l3), (4, .ref l4), (5, .int l5), (6, .int l6)]) (st' := [.ref 0]) (by decide +kernel) rfl rfl ?_
    refine ab_fin.q_rA (b := 1) (ix := 17) (ci := 24) (k := 0) (pc' := 32) (by decide +kernel) rfl (c_rA (F.s s0_0) rfl (rM_0 F)) rfl ?_
    refine ab_fin.s2 (i := .aload_n 1) (k := 1) (pc' := 33) (lv' := [(0, .ref 0), (1, .ref l1), (3, .int l3), (4, .ref l4), (5, .int l5), (6, .int l6)]) (st' := [.ref l1, .ref 1]) (by decide +kernel) rfl rfl ?_
    refine ab_fin.q_rA (b := (l1 + 3)) (ix := 69) (ci := 18) (k := 2) (pc' := 36) (by decide +kernel) rfl (c_rA (F.s p_l1) rfl (rO_18_2 F p_l1)) rfl ?_
    refine ab_fin.s2 (i := .iload 6) (k := 2) (pc' := 38) (lv' := [(0, .ref 0), (1, .ref l1), (3, .int l3), (4, .ref l4), (5, .int l5), (6, .int l6)]) (st' := [.int l6, .ref (l1 + 3), .ref 1]) (by decide +kernel) rfl rfl ?_
    obtain ⟨e2, w⟩ := w
    refine ab_fin.q_eI (x := (σ.i (l1 + 3) l6.toNatClampNeg)) (pc' := 39) (by decide +kernel) (c_eI' (F.s (kF_18_3 p_l1)) e2 rfl) rfl ?_
    obtain ⟨e3, w⟩ := w
    refine ab_fin.q_eA (b := (2193 + 9 * ((σ.i (l1 + 3) l6.toNatClampNeg).toNatClampNeg))) (pc' := 40) (by decide +kernel) (c_eA' (F.s s0_1) (by decide) rfl e3 rfl (rE_4 F s0_1)) rfl ?_
    refine ab_fin.s2 (i := .astore 7) (k := 2) (pc' := 42) (lv' := [(7, .ref (2193 + 9 * ((σ.i (l1 + 3) l6.toNatClampNeg).toNatClampNeg))), (0, .ref 0), (1, .ref l1), (3, .int l3), (4, .ref l4), (5, .int l5), (6, .int l6)]) (st' := []) (by decide +kernel) rfl rfl ?_
    refine ab_fin.s1i (i := .iconst 0) (k := 1) (pc' := 43) (n := 0) (by decide +kernel) rfl (by decide +kernel) rfl ?_
    refine ab_fin.s2 (i := .istore 8) (k := 2) (pc' := 45) (lv' := [(8, .int 0), (7, .ref (2193 + 9 * ((σ.i (l1 + 3) l6.toNatClampNeg).toNatClampNeg))), (0, .ref 0), (1, .ref l1), (3, .int l3), (4, .ref l4), (5, .int l5), (6, .int l6)]) (st' := []) (by decide +kernel) rfl rfl ?_
    exact ab_fin.lv ⟨(List.forall_mem_cons.mpr ⟨(List.Mem.tail _ (List.Mem.tail _ (List.Mem.head _))), (List.forall_mem_cons.mpr ⟨(List.Mem.tail _ (List.Mem.tail _ (List.Mem.tail _ (List.Mem.head _)))), (List.forall_mem_cons.mpr ⟨(List.Mem.tail _ (List.Mem.tail _ (List.Mem.tail _ (List.Mem.tail _ (List.Mem.head _))))), (List.forall_mem_cons.mpr ⟨(List.Mem.tail _ (List.Mem.tail _ (List.Mem.tail _ (List.Mem.tail _ (List.Mem.tail _ (List.Mem.head _)))))), (List.forall_mem_cons.mpr ⟨(List.Mem.tail _ (List.Mem.tail _ (List.Mem.tail _ (List.Mem.tail _ (List.Mem.tail _ (List.Mem.tail _ (List.Mem.head _))))))), (List.forall_mem_cons.mpr ⟨(List.Mem.tail _ (List.Mem.tail _ (List.Mem.tail _ (List.Mem.tail _ (List.Mem.tail _ (List.Mem.tail _ (List.Mem.tail _ (List.Mem.head _)))))))), (List.forall_mem_cons.mpr ⟨(List.Mem.tail _ (List.Mem.head _)), (List.forall_mem_cons.mpr ⟨(List.Mem.head _), (fun _ h => absurd h List.not_mem_nil)⟩)⟩)⟩)⟩)⟩)⟩)⟩)⟩), (show ([8, 7, 0, 1, 3, 4, 5, 6] : List Nat).Nodup from by decide)⟩ w
theorem S_X23_joined_45 {Z : zT} {d : Nat} {σ : Sg} {l1 : Nat} {l3 : Int32} {l4 : Nat} {l5 : Int32} {l6 : Int32} {l7 : Nat} {l8 : Int32} {K : kS} (F : FX ΦR σ.sh σ.r) (p_l1 : sh0R[l1]? = some (Sh.obj 18)) (p_l4 : sh0R[l4]? = some (Sh.arr 0 24)) (p_l7 : sh0R[l7]? = some (Sh.obj 18)) (w : ib l3 3 ∧ (((σ.i (l7 + 8) l3.toNatClampNeg) ≤ l8 → B_X23_joined_19 Z (d + 1) σ l1 l3 l4 l5 (l6 + 1) K) ∧ (¬ (σ.i (l7 + 8) l3.toNatClampNeg) ≤ l8 → ib l3 3 ∧ (ib l8 24 ∧ (B_X23_joined_72 Z (d + 1) σ l1 l3 l4 l5 l6 l7 l8 (σ.i (l7 + 4 + 1 + l3.toNatClampNeg) l8.toNatClampNeg) 1 K))))) : B_X23_joined_45 Z (d + 1) σ l1 l3 l4 l5 l6 l7 l8 K := by
  unfold B_X23_joined_45
  refine ab_fin.s2 (i := .iload 8) (k := 2) (pc' := 47) (lv' := [(0, .ref 0), (1, .ref l1), (3, .int l3), (4, .ref l4), (5, .int l5), (6, .int l6), (7, .ref l7), (8, .int l8)]) (st' := [.int l8]) (by decide +kernel) rfl rfl ?_
  refine ab_fin.s2 (i := .aload 7) (k := 2) (pc' := 49) (lv' := [(0, .ref 0), (1, .ref l1), (3, .int l3), (4, .ref l4), (5, .int l5), (6, .int l6), (7, .ref l7), (8, .int l8)]) (st' := [.ref l7, .int l8]) (by decide +kernel) rfl rfl ?_
  refine ab_fin.q_rA (b := (l7 + 8)) (ix := 79) (ci := 18) (k := 5) (pc' := 52) (by decide +kernel) rfl (c_rA (F.s p_l7) rfl (rO_18_5 F p_l7)) rfl ?_
  refine ab_fin.s2 (i := .iload_n 3) (k := 1) (pc' := 53) (lv' := [(0, .ref 0), (1, .ref l1), (3, .int l3), (4, .ref l4), (5, .int l5), (6, .int l6), (7, .ref l7), (8, .int l8)]) (st' := [.int l3, .ref (l7 + 8), .int l8]) (by decide +kernel) rfl rfl ?_
  obtain ⟨e1, w⟩ := w
  refine ab_fin.q_eI (x := (σ.i (l7 + 8) l3.toNatClampNeg)) (pc' := 54) (by decide +kernel) (c_eI' (F.s (kF_18_8 p_l7)) e1 rfl) rfl ?_
  refine ab_fin.br (c := (σ.i (l7 + 8) l3.toNatClampNeg) ≤ l8) (i := .if_icmp .ge 113) (off := 113) (t := 167) (pc' := 57) (r := []) (by decide +kernel) rfl (by decide +kernel) rfl (fun q => ?_) (fun q => ?_)
  · replace w := w.1 q
    refine ab_fin.q_inc (n := 6) (c := 1) (pc' := 170) (lv' := [(6, .int (l6 + 1)), (0, .ref 0), (1, .ref l1), (3, .int l3), (4, .ref l4), (5, .int l5), (7, .ref l7), (8, .int l8)]) (by decide +kernel) (by decide) rfl rfl rfl rfl ?_
    refine ab_fin.s3 (i := .goto (-151)) (k := 3) (t := 19) (st' := []) (by decide +kernel) (ab_gto (by decide +kernel)) ?_
    exact ab_fin.lv ⟨(List.forall_mem_cons.mpr ⟨(List.Mem.tail _ (List.Mem.head _)), (List.forall_mem_cons.mpr ⟨(List.Mem.tail _ (List.Mem.tail _ (List.Mem.head _))), (List.forall_mem_cons.mpr ⟨(List.Mem.tail _ (List.Mem.tail _ (List.Mem.tail _ (List.Mem.head _)))), (List.forall_mem_cons.mpr ⟨(List.Mem.tail _ (List.Mem.tail _ (List.Mem.tail _ (List.Mem.tail _ (List.Mem.head _))))), (List.forall_mem_cons.mpr ⟨(List.Mem.tail _ (List.Mem.tail _ (List.Mem.tail _ (List.Mem.tail _ (List.Mem.tail _ (List.Mem.head _)))))), (List.forall_mem_cons.mpr ⟨(List.Mem.head _), (fun _ h => absurd h List.not_mem_nil)⟩)⟩)⟩)⟩)⟩)⟩), (show ([6, 0, 1, 3, 4, 5, 7, 8] : List Nat).Nodup from by decide)⟩ w
  · replace w := w.2 q
    refine ab_fin.s2 (i := .aload 7) (k := 2) (pc' := 59) (lv' := [(0, .ref 0), (1, .ref l1), (3, .int l3), (4, .ref l4), (5, .int l5), (6, .int l6), (7, .ref l7), (8, .int l8)]) (st' := [.ref l7]) (by decide +kernel) rfl rfl ?_
    refine ab_fin.q_rA (b := (l7 + 4)) (ix := 86) (ci := 18) (k := 4) (pc' := 62) (by decide +kernel) rfl (c_rA (F.s p_l7) rfl (rO_18_4 F p_l7)) rfl ?_
    refine ab_fin.s2 (i := .iload_n 3) (k := 1) (pc' := 63) (lv' := [(0, .ref 0), (1, .ref l1), (3, .int l3), (4, .ref l4), (5, .int l5), (6, .int l6), (7, .ref l7), (8, .int l8)]) (st' := [.int l3, .ref (l7 + 4)]) (by decide +kernel) rfl rfl ?_
    obtain ⟨e2, w⟩ := w
    refine ab_fin.q_eA (b := (l7 + 4 + 1 + l3.toNatClampNeg)) (pc' := 64) (by decide +kernel) (c_eA' (F.s (kF_18_4 p_l7)) (by decide) rfl e2 rfl (rE_8 F (kF_18_4 p_l7))) rfl ?_
    refine ab_fin.s2 (i := .iload 8) (k := 2) (pc' := 66) (lv' := [(0, .ref 0), (1, .ref l1), (3, .int l3), (4, .ref l4), (5, .int l5), (6, .int l6), (7, .ref l7), (8, .int l8)]) (st' := [.int l8, .ref (l7 + 4 + 1 + l3.toNatClampNeg)]) (by decide +kernel) rfl rfl ?_
    obtain ⟨e3, w⟩ := w
    refine ab_fin.q_eI (x := (σ.i (l7 + 4 + 1 + l3.toNatClampNeg) l8.toNatClampNeg)) (pc' := 67) (by decide +kernel) (c_eI' (F.s (kE_18_4 p_l7 e2.2)) e3 rfl) rfl ?_
    refine ab_fin.s2 (i := .istore 9) (k := 2) (pc' := 69) (lv' := [(9, .int (σ.i (l7 + 4 + 1 + l3.toNatClampNeg) l8.toNatClampNeg)), (0, .ref 0), (1, .ref l1), (3, .int l3), (4, .ref l4), (5, .int l5), (6, .int l6), (7, .ref l7), (8, .int l8)]) (st' := []) (by decide +kernel) rfl rfl ?_
    refine ab_fin.s1i (i := .iconst 1) (k := 1) (pc' := 70) (n := 1) (by decide +kernel) rfl (by decide +kernel) rfl ?_
    refine ab_fin.s2 (i := .istore 10) (k := 2) (pc' := 72) (lv' := [(10, .int 1), (9, .int (σ.i (l7 + 4 + 1 + l3.toNatClampNeg) l8.toNatClampNeg)), (0, .ref 0), (1, .ref l1), (3, .int l3), (4, .ref l4), (5, .int l5), (6, .int l6), (7, .ref l7), (8, .int l8)]) (st' := []) (by decide +kernel) rfl rfl ?_
    exact ab_fin.lv ⟨(List.forall_mem_cons.mpr ⟨(List.Mem.tail _ (List.Mem.tail _ (List.Mem.head _))), (List.forall_mem_cons.mpr ⟨(List.Mem.tail _ (List.Mem.tail _ (List.Mem.tail _ (List.Mem.head _)))), (List.forall_mem_cons.mpr ⟨(List.Mem.tail _ (List.Mem.tail _ (List.Mem.tail _ (List.Mem.tail _ (List.Mem.head _))))), (List.forall_mem_cons.mpr ⟨(List.Mem.tail _ (List.Mem.tail _ (List.Mem.tail _ (List.Mem.tail _ (List.Mem.tail _ (List.Mem.head _)))))), (List.forall_mem_cons.mpr ⟨(List.Mem.tail _ (List.Mem.tail _ (List.Mem.tail _ (List.Mem.tail _ (List.Mem.tail _ (List.Mem.tail _ (List.Mem.head _))))))), (List.forall_mem_cons.mpr ⟨(List.Mem.tail _ (List.Mem.tail _ (List.Mem.tail _ (List.Mem.tail _ (List.Mem.tail _ (List.Mem.tail _ (List.Mem.tail _ (List.Mem.head _)))))))), (List.forall_mem_cons.mpr ⟨(List.Mem.tail _ (List.Mem.tail _ (List.Mem.tail _ (List.Mem.tail _ (List.Mem.tail _ (List.Mem.tail _ (List.Mem.tail _ (List.Mem.tail _ (List.Mem.head _))))))))), (List.forall_mem_cons.mpr ⟨(List.Mem.tail _ (List.Mem.tail _ (List.Mem.tail _ (List.Mem.tail _ (List.Mem.tail _ (List.Mem.tail _ (List.Mem.tail _ (List.Mem.tail _ (List.Mem.tail _ (List.Mem.head _)))))))))), (List.forall_mem_cons.mpr ⟨(List.Mem.tail _ (List.Mem.head _)), (List.forall_mem_cons.mpr ⟨(List.Mem.head _), (fun _ h => absurd h List.not_mem_nil)⟩)⟩)⟩)⟩)⟩)⟩)⟩)⟩)⟩)⟩), (show ([10, 9, 0, 1, 3, 4, 5, 6, 7, 8] : List Nat).Nodup from by decide)⟩ w
theorem S_X23_joined_72 {Z : zT} {d : Nat} {σ : Sg} {l1 : Nat} {l3 : Int32} {l4 : Nat} {l5 : Int32} {l6 : Int32} {l7 : Nat} {l8 : Int32} {l9 : Int32} {l10 : Int32} {K : kS} (F : FX ΦR σ.sh σ.r) (p_l1 : sh0R[l1]? = some (Sh.obj 18)) (p_l4 : sh0R[l4]? = some (Sh.arr 0 24)) (p_l7 : sh0R[l7]? = some (Sh.obj 18)) (w : (l5 ≤ l10 → B_X23_joined_95 Z (d + 1) σ l1 l3 l4 l5 l6 l7 l8 l9 l10 K) ∧ (¬ l5 ≤ l10 → ib l10 24 ∧ (((σ.i l4 l10.toNatClampNeg) = l9 → B_X23_joined_95 Z (d + 1) σ l1 l3 l4 l5 l6 l7 l8 l9 l10 K) ∧ (¬ (σ.i l4 l10.toNatClampNeg) = l9 → B_X23_joined_72 Z (d + 1) σ l1 l3 l4 l5 l6 l7 l8 l9 (l10 + 1) K)))) : B_X23_joined_72 Z (d + 1) σ l1 l3 l4 l5 l6 l7 l8 l9 l10 K := by
  unfold B_X23_joined_72
  refine ab_fin.s2 (i := .iload 10) (k := 2) (pc' := 74) (lv' := [(0, .ref 0), (1, .ref l1), (3, .int l3), (4, .ref l4), (5, .int l5), (6, .int l6), (7, .ref l7), (8, .int l8), (9, .int l9), (10, .int l10)]) (st' := [.int l10]) (by decide +kernel) rfl rfl ?_
  refine ab_fin.s2 (i := .iload 5) (k := 2) (pc' := 76) (lv' := [(0, .ref 0), (1, .ref l1), (3, .int l3), (4, .ref l4), (5, .int l5), (6, .int l6), (7, .ref l7), (8, .int l8), (9, .int l9), (10, .int l10)]) (st' := [.int l5, .int l10]) (by decide +kernel) rfl rfl ?_
  refine ab_fin.br (c := l5 ≤ l10) (i := .if_icmp .ge 19) (off := 19) (t := 95) (pc' := 79) (r := []) (by decide +kernel) rfl (by decide +kernel) rfl (fun q => ?_) (fun q => ?_)
  · replace w := w.1 q
    exact ab_fin.lv ⟨(List.forall_mem_cons.mpr ⟨(List.Mem.head _), (List.forall_mem_cons.mpr ⟨(List.Mem.tail _ (List.Mem.head _)), (List.forall_mem_cons.mpr ⟨(List.Mem.tail _ (List.Mem.tail _ (List.Mem.head _))), (List.forall_mem_cons.mpr ⟨(List.Mem.tail _ (List.Mem.tail _ (List.Mem.tail _ (List.Mem.head _)))), (List.forall_mem_cons.mpr ⟨(List.Mem.tail _ (List.Mem.tail _ (List.Mem.tail _ (List.Mem.tail _ (List.Mem.head _))))), (List.forall_mem_cons.mpr ⟨(List.Mem.tail _ (List.Mem.tail _ (List.Mem.tail _ (List.Mem.tail _ (List.Mem.tail _ (List.Mem.head _)))))), (List.forall_mem_cons.mpr ⟨(List.Mem.tail _ (List.Mem.tail _ (List.Mem.tail _ (List.Mem.tail _ (List.Mem.tail _ (List.Mem.tail _ (List.Mem.head _))))))), (List.forall_mem_cons.mpr ⟨(List.Mem.tail _ (List.Mem.tail _ (List.Mem.tail _ (List.Mem.tail _ (List.Mem.tail _ (List.Mem.tail _ (List.Mem.tail _ (List.Mem.head _)))))))), (List.forall_mem_cons.mpr ⟨(List.Mem.tail _ (List.Mem.tail _ (List.Mem.tail _ (List.Mem.tail _ (List.Mem.tail _ (List.Mem.tail _ (List.Mem.tail _ (List.Mem.tail _ (List.Mem.head _))))))))), (List.forall_mem_cons.mpr ⟨(List.Mem.tail _ (List.Mem.tail _ (List.Mem.tail _ (List.Mem.tail _ (List.Mem.tail _ (List.Mem.tail _ (List.Mem.tail _ (List.Mem.tail _ (List.Mem.tail _ (List.Mem.head _)))))))))), (fun _ h => absurd h List.not_mem_nil)⟩)⟩)⟩)⟩)⟩)⟩)⟩)⟩)⟩)⟩), (show ([0, 1, 3, 4, 5, 6, 7, 8, 9, 10] : List Nat).Nodup from by decide)⟩ w
  · replace w := w.2 q
    refine ab_fin.s2 (i := .aload 4) (k := 2) (pc' := 81) (lv' := [(0, .ref 0), (1, .ref l1), (3, .int l3), (4, .ref l4), (5, .int l5), (6, .int l6), (7, .ref l7), (8, .int l8), (9, .int l9), (10, .int l10)]) (st' := [.ref l4]) (by decide +kernel) rfl rfl ?_
    refine ab_fin.s2 (i := .iload 10) (k := 2) (pc' := 83) (lv' := [(0, .ref 0), (1, .ref l1), (3, .int l3), (4, .ref l4), (5, .int l5), (6, .int l6), (7, .ref l7), (8, .int l8), (9, .int l9), (10, .int l10)]) (st' := [.int l10, .ref l4]) (by decide +kernel) rfl rfl ?_
    obtain ⟨e1, w⟩ := w
    refine ab_fin.q_eI (x := (σ.i l4 l10.toNatClampNeg)) (pc' := 84) (by decide +kernel) (c_eI' (F.s p_l4) e1 rfl) rfl ?_
    refine ab_fin.s2 (i := .iload 9) (k := 2) (pc' := 86) (lv' := [(0, .ref 0), (1, .ref l1), (3, .int l3), (4, .ref l4), (5, .int l5), (6, .int l6), (7, .ref l7), (8, .int l8), (9, .int l9), (10, .int l10)]) (st' := [.int l9, .int (σ.i l4 l10.toNatClampNeg)]) (by decide +kernel) rfl rfl ?_
    refine ab_fin.br (c := (σ.i l4 l10.toNatClampNeg) = l9) (i := .if_icmp .eq 9) (off := 9) (t := 95) (pc' := 89) (r := []) (by decide +kernel) rfl (by decide +kernel) rfl (fun q => ?_) (fun q => ?_)
    · replace w := w.1 q
      exact ab_fin.lv ⟨(List.forall_mem_cons.mpr ⟨(List.Mem.head _), (List.forall_mem_cons.mpr ⟨(List.Mem.tail _ (List.Mem.head _)), (List.forall_mem_cons.mpr ⟨(List.Mem.tail _ (List.Mem.tail _ (List.Mem.head _))), (List.forall_mem_cons.mpr ⟨(List.Mem.tail _ (List.Mem.tail _ (List.Mem.tail _ (List.Mem.head _)))), (List.forall_mem_cons.mpr ⟨(List.Mem.tail _ (List.Mem.tail _ (List.Mem.tail _ (List.Mem.tail _ (List.Mem.head _))))), (List.forall_mem_cons.mpr ⟨(List.Mem.tail _ (List.Mem.tail _ (List.Mem.tail _ (List.Mem.tail _ (List.Mem.tail _ (List.Mem.head _)))))), (List.forall_mem_cons.mpr ⟨(List.Mem.tail _ (List.Mem.tail _ (List.Mem.tail _ (List.Mem.tail _ (List.Mem.tail _ (List.Mem.tail _ (List.Mem.head _))))))), (List.forall_mem_cons.mpr ⟨(List.Mem.tail _ (List.Mem.tail _ (List.Mem.tail _ (List.Mem.tail _ (List.Mem.tail _ (List.Mem.tail _ (List.Mem.tail _ (List.Mem.head _)))))))), (List.forall_mem_cons.mpr ⟨(List.Mem.tail _ (List.Mem.tail _ (List.Mem.tail _ (List.Mem.tail _ (List.Mem.tail _ (List.Mem.tail _ (List.Mem.tail _ (List.Mem.tail _ (List.Mem.head _))))))))), (List.forall_mem_cons.mpr ⟨(List.Mem.tail _ (List.Mem.tail _ (List.Mem.tail _ (List.Mem.tail _ (List.Mem.tail _ (List.Mem.tail _ (List.Mem.tail _ (List.Mem.tail _ (List.Mem.tail _ (List.Mem.head _)))))))))), (fun _ h => absurd h List.not_mem_nil)⟩)⟩)⟩)⟩)⟩)⟩)⟩)⟩)⟩)⟩), (show ([0, 1, 3, 4, 5, 6, 7, 8, 9, 10] : List Nat).Nodup from by decide)⟩ w
    · replace w := w.2 q
      refine ab_fin.q_inc (n := 10) (c := 1) (pc' := 92) (lv' := [(10, .int (l10 + 1)), (0, .ref 0), (1, .ref l1), (3, .int l3), (4, .ref l4), (5, .int l5), (6, .int l6), (7, .ref l7), (8, .int l8), (9, .int l9)]) (by decide +kernel) (by decide) rfl rfl rfl rfl ?_
      refine ab_fin.s3 (i := .goto (-20)) (k := 3) (t := 72) (st' := []) (by decide +kernel) (ab_gto (by decide +kernel)) ?_
      exact ab_fin.lv ⟨(List.forall_mem_cons.mpr ⟨(List.Mem.tail _ (List.Mem.head _)), (List.forall_mem_cons.mpr ⟨(List.Mem.tail _ (List.Mem.tail _ (List.Mem.head _))), (List.forall_mem_cons.mpr ⟨(List.Mem.tail _ (List.Mem.tail _ (List.Mem.tail _ (List.Mem.head _)))), (List.forall_mem_cons.mpr ⟨(List.Mem.tail _ (List.Mem.tail _ (List.Mem.tail _ (List.Mem.tail _ (List.Mem.head _))))), (List.forall_mem_cons.mpr ⟨(List.Mem.tail _ (List.Mem.tail _ (List.Mem.tail _ (List.Mem.tail _ (List.Mem.tail _ (List.Mem.head _)))))), (List.forall_mem_cons.mpr ⟨(List.Mem.tail _ (List.Mem.tail _ (List.Mem.tail _ (List.Mem.tail _ (List.Mem.tail _ (List.Mem.tail _ (List.Mem.head _))))))), (List.forall_mem_cons.mpr ⟨(List.Mem.tail _ (List.Mem.tail _ (List.Mem.tail _ (List.Mem.tail _ (List.Mem.tail _ (List.Mem.tail _ (List.Mem.tail _ (List.Mem.head _)))))))), (List.forall_mem_cons.mpr ⟨(List.Mem.tail _ (List.Mem.tail _ (List.Mem.tail _ (List.Mem.tail _ (List.Mem.tail _ (List.Mem.tail _ (List.Mem.tail _ (List.Mem.tail _ (List.Mem.head _))))))))), (List.forall_mem_cons.mpr ⟨(List.Mem.tail _ (List.Mem.tail _ (List.Mem.tail _ (List.Mem.tail _ (List.Mem.tail _ (List.Mem.tail _ (List.Mem.tail _ (List.Mem.tail _ (List.Mem.tail _ (List.Mem.head _)))))))))), (List.forall_mem_cons.mpr ⟨(List.Mem.head _), (fun _ h => absurd h List.not_mem_nil)⟩)⟩)⟩)⟩)⟩)⟩)⟩)⟩)⟩)⟩), (show ([10, 0, 1, 3, 4, 5, 6, 7, 8, 9] : List Nat).Nodup from by decide)⟩ w
theorem S_X23_joined_95 {Z : zT} {d : Nat} {σ : Sg} {l1 : Nat} {l3 : Int32} {l4 : Nat} {l5 : Int32} {l6 : Int32} {l7 : Nat} {l8 : Int32} {l9 : Int32} {l10 : Int32} {K : kS} (F : FX ΦR σ.sh σ.r) (p_l1 : sh0R[l1]? = some (Sh.obj 18)) (p_l4 : sh0R[l4]? = some (Sh.arr 0 24)) (p_l7 : sh0R[l7]? = some (Sh.obj 18)) (w : (l5 ≤ l10 → B_X23_joined_110 Z (d + 1) σ l1 l3 l4 l5 l6 l7 l8 l9 l10 K) ∧ (¬ l5 ≤ l10 → (¬ l3 = 1 → B_X23_joined_110 Z (d + 1) σ l1 l3 l4 l5 l6 l7 l8 l9 l10 K) ∧ (l3 = 1 → B_X23_joined_45 Z (d + 1) σ l1 l3 l4 l5 l6 l7 (l8 + 1) K))) : B_X23_joined_95 Z (d + 1) σ l1 l3 l4 l5 l6 l7 l8 l9 l10 K := by
  unfold B_X23_joined_95
  refine ab_fin.s2 (i := .iload 10) (k := 2) (pc' := 97) (lv' := [(0, .ref 0), (1, .ref l1), (3, .int l3), (4, .ref l4), (5, .int l5), (6, .int l6), (7, .ref l7), (8, .int l8), (9, .int l9), (10, .int l10)]) (st' := [.int l10]) (by decide +kernel) rfl rfl ?_
  refine ab_fin.s2 (i := .iload 5) (k := 2) (pc' := 99) (lv' := [(0, .ref 0), (1, .ref l1), (3, .int l3), (4, .ref l4), (5, .int l5), (6, .int l6), (7, .ref l7), (8, .int l8), (9, .int l9), (10, .int l10)]) (st' := [.int l5, .int l10]) (by decide +kernel) rfl rfl ?_
  refine ab_fin.br (c := l5 ≤ l10) (i := .if_icmp .ge 11) (off := 11) (t := 110) (pc' := 102) (r := []) (by decide +kernel) rfl (by decide +kernel) rfl (fun q => ?_) (fun q => ?_)
  · replace w := w.1 q
    exact ab_fin.lv ⟨(List.forall_mem_cons.mpr ⟨(List.Mem.head _), (List.forall_mem_cons.mpr ⟨(List.Mem.tail _ (List.Mem.head _)), (List.forall_mem_cons.mpr ⟨(List.Mem.tail _ (List.Mem.tail _ (List.Mem.head _))), (List.forall_mem_cons.mpr ⟨(List.Mem.tail _ (List.Mem.tail _ (List.Mem.tail _ (List.Mem.head _)))), (List.forall_mem_cons.mpr ⟨(List.Mem.tail _ (List.Mem.tail _ (List.Mem.tail _ (List.Mem.tail _ (List.Mem.head _))))), (List.forall_mem_cons.mpr ⟨(List.Mem.tail _ (List.Mem.tail _ (List.Mem.tail _ (List.Mem.tail _ (List.Mem.tail _ (List.Mem.head _)))))), (List.forall_mem_cons.mpr ⟨(List.Mem.tail _ (List.Mem.tail _ (List.Mem.tail _ (List.Mem.tail _ (List.Mem.tail _ (List.Mem.tail _ (List.Mem.head _))))))), (List.forall_mem_cons.mpr ⟨(List.Mem.tail _ (List.Mem.tail _ (List.Mem.tail _ (List.Mem.tail _ (List.Mem.tail _ (List.Mem.tail _ (List.Mem.tail _ (List.Mem.head _)))))))), (List.forall_mem_cons.mpr ⟨(List.Mem.tail _ (List.Mem.tail _ (List.Mem.tail _ (List.Mem.tail _ (List.Mem.tail _ (List.Mem.tail _ (List.Mem.tail _ (List.Mem.tail _ (List.Mem.head _))))))))), (List.forall_mem_cons.mpr ⟨(List.Mem.tail _ (List.Mem.tail _ (List.Mem.tail _ (List.Mem.tail _ (List.Mem.tail _ (List.Mem.tail _ (List.Mem.tail _ (List.Mem.tail _ (List.Mem.tail _ (List.Mem.head _)))))))))), (fun _ h => absurd h List.not_mem_nil)⟩)⟩)⟩)⟩)⟩)⟩)⟩)⟩)⟩)⟩), (show ([0, 1, 3, 4, 5, 6, 7, 8, 9, 10] : List Nat).Nodup from by decide)⟩ w
  · replace w := w.2 q
    refine ab_fin.s2 (i := .iload_n 3) (k := 1) (pc' := 103) (lv' := [(0, .ref 0), (1, .ref l1), (3, .int l3), (4, .ref l4), (5, .int l5), (6, .int l6), (7, .ref l7), (8, .int l8), (9, .int l9), (10, .int l10)]) (st' := [.int l3]) (by decide +kernel) rfl rfl ?_
    refine ab_fin.s1i (i := .iconst 1) (k := 1) (pc' := 104) (n := 1) (by decide +kernel) rfl (by decide +kernel) rfl ?_
    refine ab_fin.br (c := ¬ l3 = 1) (i := .if_icmp .ne 6) (off := 6) (t := 110) (pc' := 107) (r := []) (by decide +kernel) rfl (by decide +kernel) rfl (fun q => ?_) (fun q => ?_)
    · replace w := w.1 q
      exact ab_fin.lv ⟨(List.forall_mem_cons.mpr ⟨(List.Mem.head _), (List.forall_mem_cons.mpr ⟨(List.Mem.tail _ (List.Mem.head _)), (List.forall_mem_cons.mpr ⟨(List.Mem.tail _ (List.Mem.tail _ (List.Mem.head _))), (List.forall_mem_cons.mpr ⟨(List.Mem.tail _ (List.Mem.tail _ (List.Mem.tail _ (List.Mem.head _)))), (List.forall_mem_cons.mpr ⟨(List.Mem.tail _ (List.Mem.tail _ (List.Mem.tail _ (List.Mem.tail _ (List.Mem.head _))))), (List.forall_mem_cons.mpr ⟨(List.Mem.tail _ (List.Mem.tail _ (List.Mem.tail _ (List.Mem.tail _ (List.Mem.tail _ (List.Mem.head _)))))), (List.forall_mem_cons.mpr ⟨(List.Mem.tail _ (List.Mem.tail _ (List.Mem.tail _ (List.Mem.tail _ (List.Mem.tail _ (List.Mem.tail _ (List.Mem.head _))))))), (List.forall_mem_cons.mpr ⟨(List.Mem.tail _ (List.Mem.tail _ (List.Mem.tail _ (List.Mem.tail _ (List.Mem.tail _ (List.Mem.tail _ (List.Mem.tail _ (List.Mem.head _)))))))), (List.forall_mem_cons.mpr ⟨(List.Mem.tail _ (List.Mem.tail _ (List.Mem.tail _ (List.Mem.tail _ (List.Mem.tail _ (List.Mem.tail _ (List.Mem.tail _ (List.Mem.tail _ (List.Mem.head _))))))))), (List.forall_mem_cons.mpr ⟨(List.Mem.tail _ (List.Mem.tail _ (List.Mem.tail _ (List.Mem.tail _ (List.Mem.tail _ (List.Mem.tail _ (List.Mem.tail _ (List.Mem.tail _ (List.Mem.tail _ (List.Mem.head _)))))))))), (fun _ h => absurd h List.not_mem_nil)⟩)⟩)⟩)⟩)⟩)⟩)⟩)⟩)⟩)⟩), (show ([0, 1, 3, 4, 5, 6, 7, 8, 9, 10] : List Nat).Nodup from by decide)⟩ w
    · replace w := w.2 (Decidable.of_not_not q)
      refine ab_fin.s3 (i := .goto 54) (k := 3) (t := 161) (st' := []) (by decide +kernel) (ab_gto (by decide +kernel)) ?_
      refine ab_fin.q_inc (n := 8) (c := 1) (pc' := 164) (lv' := [(8, .int (l8 + 1)), (0, .ref 0), (1, .ref l1), (3, .int l3), (4, .ref l4), (5, .int l5), (6, .int l6), (7, .ref l7), (9, .int l9), (10, .int l10)]) (by decide +kernel) (by decide) rfl rfl rfl rfl ?_
      refine ab_fin.s3 (i := .goto (-119)) (k := 3) (t := 45) (st' := []) (by decide +kernel) (ab_gto (by decide +kernel)) ?_
      exact ab_fin.lv ⟨(List.forall_mem_cons.mpr ⟨(List.Mem.tail _ (List.Mem.head _)), (List.forall_mem_cons.mpr ⟨(List.Mem.tail _ (List.Mem.tail _ (List.Mem.head _))), (List.forall_mem_cons.mpr ⟨(List.Mem.tail _ (List.Mem.tail _ (List.Mem.tail _ (List.Mem.head _)))), (List.forall_mem_cons.mpr ⟨(List.Mem.tail _ (List.Mem.tail _ (List.Mem.tail _ (List.Mem.tail _ (List.Mem.head _))))), (List.forall_mem_cons.mpr ⟨(List.Mem.tail _ (List.Mem.tail _ (List.Mem.tail _ (List.Mem.tail _ (List.Mem.tail _ (List.Mem.head _)))))), (List.forall_mem_cons.mpr ⟨(List.Mem.tail _ (List.Mem.tail _ (List.Mem.tail _ (List.Mem.tail _ (List.Mem.tail _ (List.Mem.tail _ (List.Mem.head _))))))), (List.forall_mem_cons.mpr ⟨(List.Mem.tail _ (List.Mem.tail _ (List.Mem.tail _ (List.Mem.tail _ (List.Mem.tail _ (List.Mem.tail _ (List.Mem.tail _ (List.Mem.head _)))))))), (List.forall_mem_cons.mpr ⟨(List.Mem.head _), (fun _ h => absurd h List.not_mem_nil)⟩)⟩)⟩)⟩)⟩)⟩)⟩)⟩), (show ([8, 0, 1, 3, 4, 5, 6, 7, 9, 10] : List Nat).Nodup from by decide)⟩ w
theorem S_X23_joined_110 {Z : zT} {d : Nat} {σ : Sg} {l1 : Nat} {l3 : Int32} {l4 : Nat} {l5 : Int32} {l6 : Int32} {l7 : Nat} {l8 : Int32} {l9 : Int32} {l10 : Int32} {K : kS} (F : FX ΦR σ.sh σ.r) (p_l1 : sh0R[l1]? = some (Sh.obj 18)) (p_l4 : sh0R[l4]? = some (Sh.arr 0 24)) (p_l7 : sh0R[l7]? = some (Sh.obj 18)) (w : (l5 ≤ l10 → ib l5 24 ∧ (B_X23_joined_45 Z (d + 1) (σ.wi l4 l5.toNatClampNeg l9) l1 l3 l4 (l5 + 1) l6 l7 (l8 + 1) K)) ∧ (¬ l5 ≤ l10 → B_X23_joined_121 Z (d + 1) σ l1 l3 l4 l5 l6 l7 l8 l9 l10 K)) : B_X23_joined_110 Z (d + 1) σ l1 l3 l4 l5 l6 l7 l8 l9 l10 K := by
  unfold B_X23_joined_110
  refine ab_fin.s2 (i := .iload 10) (k := 2) (pc' := 112) (lv' := [(0, .ref 0), (1, .ref l1), (3, .int l3), (4, .ref l4), (5, .int l5), (6, .int l6), (7, .ref l7), (8, .int l8), (9, .int l9), (10, .int l10)]) (st' := [.int l10]) (by decide +kernel) rfl rfl ?_
  refine ab_fin.s2 (i := .iload 5) (k := 2) (pc' := 114) (lv' := [(0, .ref 0), (1, .ref l1), (3, .int l3), (4, .ref l4), (5, .int l5), (6, .int l6), (7, .ref l7), (8, .int l8), (9, .int l9), (10, .int l10)]) (st' := [.int l5, .int l10]) (by decide +kernel) rfl rfl ?_
  refine ab_fin.br (c := l5 ≤ l10) (i := .if_icmp .ge 37) (off := 37) (t := 151) (pc' := 117) (r := []) (by decide +kernel) rfl (by decide +kernel) rfl (fun q => ?_) (fun q => ?_)
  · replace w := w.1 q
    refine ab_fin.s2 (i := .aload 4) (k := 2) (pc' := 153) (lv' := [(0, .ref 0), (1, .ref l1), (3, .int l3), (4, .ref l4), (5, .int l5), (6, .int l6), (7, .ref l7), (8, .int l8), (9, .int l9), (10, .int l10)]) (st' := [.ref l4]) (by decide +kernel) rfl rfl ?_
    refine ab_fin.s2 (i := .iload 5) (k := 2) (pc' := 155) (lv' := [(0, .ref 0), (1, .ref l1), (3, .int l3), (4, .ref l4), (5, .int l5), (6, .int l6), (7, .ref l7), (8, .int l8), (9, .int l9), (10, .int l10)]) (st' := [.int l5, .ref l4]) (by decide +kernel) rfl rfl ?_
    refine ab_fin.s2 (i := .iload 9) (k := 2) (pc' := 157) (lv' := [(0, .ref 0), (1, .ref l1), (3, .int l3), (4, .ref l4), (5, .int l5), (6, .int l6), (7, .ref l7), (8, .int l8), (9, .int l9), (10, .int l10)]) (st' := [.int l9, .int l5, .ref l4]) (by decide +kernel) rfl rfl ?_
    obtain ⟨e1, w⟩ := w
    refine ab_fin.q_sI (h1 := conc (σ.wi l4 l5.toNatClampNeg l9)) (pc' := 158) (by decide +kernel) (c_sI' (F.s p_l4) e1 rfl) rfl ?_
    refine ab_fin.q_inc (n := 5) (c := 1) (pc' := 161) (lv' := [(5, .int (l5 + 1)), (0, .ref 0), (1, .ref l1), (3, .int l3), (4, .ref l4), (6, .int l6), (7, .ref l7), (8, .int l8), (9, .int l9), (10, .int l10)]) (by decide +kernel) (by decide) rfl rfl rfl rfl ?_
    refine ab_fin.q_inc (n := 8) (c := 1) (pc' := 164) (lv' := [(8, .int (l8 + 1)), (5, .int (l5 + 1)), (0, .ref 0), (1, .ref l1), (3, .int l3), (4, .ref l4), (6, .int l6), (7, .ref l7), (9, .int l9), (10, .int l10)]) (by decide +kernel) (by decide) rfl rfl rfl rfl ?_
    refine ab_fin.s3 (i := .goto (-119)) (k := 3) (t := 45) (st' := []) (by decide +kernel) (ab_gto (by decide +kernel)) ?_
    exact ab_fin.lv ⟨(List.forall_mem_cons.mpr ⟨(List.Mem.tail _ (List.Mem.tail _ (List.Mem.head _))), (List.forall_mem_cons.mpr ⟨(List.Mem.tail _ (List.Mem.tail _ (List.Mem.tail _ (List.Mem.head _)))), (List.forall_mem_cons.mpr ⟨(List.Mem.tail _ (List.Mem.tail _ (List.Mem.tail _ (List.Mem.tail _ (List.Mem.head _))))), (List.forall_mem_cons.mpr ⟨(List.Mem.tail _ (List.Mem.tail _ (List.Mem.tail _ (List.Mem.tail _ (List.Mem.tail _ (List.Mem.head _)))))), (List.forall_mem_cons.mpr ⟨(List.Mem.tail _ (List.Mem.head _)), (List.forall_mem_cons.mpr ⟨(List.Mem.tail _ (List.Mem.tail _ (List.Mem.tail _ (List.Mem.tail _ (List.Mem.tail _ (List.Mem.tail _ (List.Mem.head _))))))), (List.forall_mem_cons.mpr ⟨(List.Mem.tail _ (List.Mem.tail _ (List.Mem.tail _ (List.Mem.tail _ (List.Mem.tail _ (List.Mem.tail _ (List.Mem.tail _ (List.Mem.head _)))))))), (List.forall_mem_cons.mpr ⟨(List.Mem.head _), (fun _ h => absurd h List.not_mem_nil)⟩)⟩)⟩)⟩)⟩)⟩)⟩)⟩), (show ([8, 5, 0, 1, 3, 4, 6, 7, 9, 10] : List Nat).Nodup from by decide)⟩ w
  · replace w := w.2 q
    refine ab_fin.s2 (i := .iload 10) (k := 2) (pc' := 119) (lv' := [(0, .ref 0), (1, .ref l1), (3, .int l3), (4, .ref l4), (5, .int l5), (6, .int l6), (7, .ref l7), (8, .int l8), (9, .int l9), (10, .int l10)]) (st' := [.int l10]) (by decide +kernel) rfl rfl ?_
    refine ab_fin.s2 (i := .istore 11) (k := 2) (pc' := 121) (lv' := [(11, .int l10), (0, .ref 0), (1, .ref l1), (3, .int l3), (4, .ref l4), (5, .int l5), (6, .int l6), (7, .ref l7), (8, .int l8), (9, .int l9), (10, .int l10)]) (st' := []) (by decide +kernel) rfl rfl ?_
    exact ab_fin.lv ⟨(List.forall_mem_cons.mpr ⟨(List.Mem.tail _ (List.Mem.head _)), (List.forall_mem_cons.mpr ⟨(List.Mem.tail _ (List.Mem.tail _ (List.Mem.head _))), (List.forall_mem_cons.mpr ⟨(List.Mem.tail _ (List.Mem.tail _ (List.Mem.tail _ (List.Mem.head _)))), (List.forall_mem_cons.mpr ⟨(List.Mem.tail _ (List.Mem.tail _ (List.Mem.tail _ (List.Mem.tail _ (List.Mem.head _))))), (List.forall_mem_cons.mpr ⟨(List.Mem.tail _ (List.Mem.tail _ (List.Mem.tail _ (List.Mem.tail _ (List.Mem.tail _ (List.Mem.head _)))))), (List.forall_mem_cons.mpr ⟨(List.Mem.tail _ (List.Mem.tail _ (List.Mem.tail _ (List.Mem.tail _ (List.Mem.tail _ (List.Mem.tail _ (List.Mem.head _))))))), (List.forall_mem_cons.mpr ⟨(List.Mem.tail _ (List.Mem.tail _ (List.Mem.tail _ (List.Mem.tail _ (List.Mem.tail _ (List.Mem.tail _ (List.Mem.tail _ (List.Mem.head _)))))))), (List.forall_mem_cons.mpr ⟨(List.Mem.tail _ (List.Mem.tail _ (List.Mem.tail _ (List.Mem.tail _ (List.Mem.tail _ (List.Mem.tail _ (List.Mem.tail _ (List.Mem.tail _ (List.Mem.head _))))))))), (List.forall_mem_cons.mpr ⟨(List.Mem.tail _ (List.Mem.tail _ (List.Mem.tail _ (List.Mem.tail _ (List.Mem.tail _ (List.Mem.tail _ (List.Mem.tail _ (List.Mem.tail _ (List.Mem.tail _ (List.Mem.head _)))))))))), (List.forall_mem_cons.mpr ⟨(List.Mem.head _), (fun _ h => absurd h List.not_mem_nil)⟩)⟩)⟩)⟩)⟩)⟩)⟩)⟩)⟩)⟩), (show ([11, 0, 1, 3, 4, 5, 6, 7, 8, 9, 10] : List Nat).Nodup from by decide)⟩ w
theorem S_X23_joined_121 {Z : zT} {d : Nat} {σ : Sg} {l1 : Nat} {l3 : Int32} {l4 : Nat} {l5 : Int32} {l6 : Int32} {l7 : Nat} {l8 : Int32} {l9 : Int32} {l11 : Int32} {K : kS} (F : FX ΦR σ.sh σ.r) (p_l1 : sh0R[l1]? = some (Sh.obj 18)) (p_l4 : sh0R[l4]? = some (Sh.arr 0 24)) (p_l7 : sh0R[l7]? = some (Sh.obj 18)) (w : (l5 ≤ (l11 + (1 : Int32)) → ib (l5 + (-1)) 24 ∧ (B_X23_joined_45 Z (d + 1) (σ.wi l4 ((l5 + (-1)).toNatClampNeg) l9) l1 l3 l4 ((l5 + (-1)) + 1) l6 l7 (l8 + 1) K)) ∧ (¬ l5 ≤ (l11 + (1 : Int32)) → ib (l11 + (1 : Int32)) 24 ∧ (ib l11 24 ∧ (B_X23_joined_121 Z (d + 1) (σ.wi l4 l11.toNatClampNeg (σ.i l4 ((l11 + (1 : Int32)).toNatClampNeg))) l1 l3 l4 l5 l6 l7 l8 l9 (l11 + 1) K)))) : B_X23_joined_121 Z (d + 1) σ l1 l3 l4 l5 l6 l7 l8 l9 l11 K := by
  unfold B_X23_joined_121
  refine ab_fin.s2 (i := .iload 11) (k := 2) (pc' := 123) (lv' := [(0, .ref 0), (1, .ref l1), (3, .int l3), (4, .ref l4), (5, .int l5), (6, .int l6), (7, .ref l7), (8, .int l8), (9, .int l9), (11, .int l11)]) (st' := [.int l11]) (by decide +kernel) rfl rfl ?_
  refine ab_fin.s1i (i := .iconst 1) (k := 1) (pc' := 124) (n := 1) (by decide +kernel) rfl (by decide +kernel) rfl ?_
  refine ab_fin.s1 (i := .iadd) (k := 1) (pc' := 125) (st' := [.int (l11 + (1 : Int32))]) (by decide +kernel) rfl rfl ?_
  refine ab_fin.s2 (i := .iload 5) (k := 2) (pc' := 127) (lv' := [(0, .ref 0), (1, .ref l1), (3, .int l3), (4, .ref l4), (5, .int l5), (6, .int l6), (7, .ref l7), (8, .int l8), (9, .int l9), (11, .int l11)]) (st' := [.int l5, .int (l11 + (1 : Int32))]) (by decide +kernel) rfl rfl ?_
  refine ab_fin.br (c := l5 ≤ (l11 + (1 : Int32))) (i := .if_icmp .ge 21) (off := 21) (t := 148) (pc' := 130) (r := []) (by decide +kernel) rfl (by decide +kernel) rfl (fun q => ?_) (fun q => ?_)
  · replace w := w.1 q
    refine ab_fin.q_inc (n := 5) (c := (-1)) (pc' := 151) (lv' := [(5, .int (l5 + (-1))), (0, .ref 0), (1, .ref l1), (3, .int l3), (4, .ref l4), (6, .int l6), (7, .ref l7), (8, .int l8), (9, .int l9), (11, .int l11)]) (by decide +kernel) (by decide) rfl rfl rfl rfl ?_
    refine ab_fin.s2 (i := .aload 4) (k := 2) (pc' := 153) (lv' := [(5, .int (l5 + (-1))), (0, .ref 0), (1, .ref l1), (3, .int l3), (4, .ref l4), (6, .int l6), (7, .ref l7), (8, .int l8), (9, .int l9), (11, .int l11)]) (st' := [.ref l4]) (by decide +kernel) rfl rfl ?_
    refine ab_fin.s2 (i := .iload 5) (k := 2) (pc' := 155) (lv' := [(5, .int (l5 + (-1))), (0, .ref 0), (1, .ref l1), (3, .int l3), (4, .ref l4), (6, .int l6), (7, .ref l7), (8, .int l8), (9, .int l9), (11, .int l11)]) (st' := [.int (l5 + (-1)), .ref l4]) (by decide +kernel) rfl rfl ?_
    refine ab_fin.s2 (i := .iload 9) (k := 2) (pc' := 157) (lv' := [(5, .int (l5 + (-1))), (0, .ref 0), (1, .ref l1), (3, .int l3), (4, .ref l4), (6, .int l6), (7, .ref l7), (8, .int l8), (9, .int l9), (11, .int l11)]) (st' := [.int l9, .int (l5 + (-1)), .ref l4]) (by decide +kernel) rfl rfl ?_
    obtain ⟨e1, w⟩ := w
    refine ab_fin.q_sI (h1 := conc (σ.wi l4 ((l5 + (-1)).toNatClampNeg) l9)) (pc' := 158) (by decide +kernel) (c_sI' (F.s p_l4) e1 rfl) rfl ?_
    refine ab_fin.q_inc (n := 5) (c := 1) (pc' := 161) (lv' := [(5, .int ((l5 + (-1)) + 1)), (0, .ref 0), (1, .ref l1), (3, .int l3), (4, .ref l4), (6, .int l6), (7, .ref l7), (8, .int l8), (9, .int l9), (11, .int l11)]) (by decide +kernel) (by decide) rfl rfl rfl rfl ?_
    refine ab_fin.q_inc (n := 8) (c := 1) (pc' := 164) (lv' := [(8, .int (l8 + 1)), (5, .int ((l5 + (-1)) + 1)), (0, .ref 0), (1, .ref l1), (3, .int l3), (4, .ref l4), (6, .int l6), (7, .ref l7), (9, .int l9), (11, .int l11)]) (by decide +kernel) (by decide) rfl rfl rfl rfl ?_
    refine ab_fin.s3 (i := .goto (-119)) (k := 3) (t := 45) (st' := []) (by decide +kernel) (ab_gto (by decide +kernel)) ?_
    exact ab_fin.lv ⟨(List.forall_mem_cons.mpr ⟨(List.Mem.tail _ (List.Mem.tail _ (List.Mem.head _))), (List.forall_mem_cons.mpr ⟨(List.Mem.tail _ (List.Mem.tail _ (List.Mem.tail _ (List.Mem.head _)))), (List.forall_mem_cons.mpr ⟨(List.Mem.tail _ (List.Mem.tail _ (List.Mem.tail _ (List.Mem.tail _ (List.Mem.head _))))), (List.forall_mem_cons.mpr ⟨(List.Mem.tail _ (List.Mem.tail _ (List.Mem.tail _ (List.Mem.tail _ (List.Mem.tail _ (List.Mem.head _)))))), (List.forall_mem_cons.mpr ⟨(List.Mem.tail _ (List.Mem.head _)), (List.forall_mem_cons.mpr ⟨(List.Mem.tail _ (List.Mem.tail _ (List.Mem.tail _ (List.Mem.tail _ (List.Mem.tail _ (List.Mem.tail _ (List.Mem.head _))))))), (List.forall_mem_cons.mpr ⟨(List.Mem.tail _ (List.Mem.tail _ (List.Mem.tail _ (List.Mem.tail _ (List.Mem.tail _ (List.Mem.tail _ (List.Mem.tail _ (List.Mem.head _)))))))), (List.forall_mem_cons.mpr ⟨(List.Mem.head _), (fun _ h => absurd h List.not_mem_nil)⟩)⟩)⟩)⟩)⟩)⟩)⟩)⟩), (show ([8, 5, 0, 1, 3, 4, 6, 7, 9, 11] : List Nat).Nodup from by decide)⟩ w
  · replace w := w.2 q
    refine ab_fin.s2 (i := .aload 4) (k := 2) (pc' := 132) (lv' := [(0, .ref 0), (1, .ref l1), (3, .int l3), (4, .ref l4), (5, .int l5), (6, .int l6), (7, .ref l7), (8, .int l8), (9, .int l9), (11, .int l11)]) (st' := [.ref l4]) (by decide +kernel) rfl rfl ?_
    refine ab_fin.s2 (i := .iload 11) (k := 2) (pc' := 134) (lv' := [(0, .ref 0), (1, .ref l1), (3, .int l3), (4, .ref l4), (5, .int l5), (6, .int l6), (7, .ref l7), (8, .int l8), (9, .int l9), (11, .int l11)]) (st' := [.int l11, .ref l4]) (by decide +kernel) rfl rfl ?_
    refine ab_fin.s2 (i := .aload 4) (k := 2) (pc' := 136) (lv' := [(0, .ref 0), (1, .ref l1), (3, .int l3), (4, .ref l4), (5, .int l5), (6, .int l6), (7, .ref l7), (8, .int l8), (9, .int l9), (11, .int l11)]) (st' := [.ref l4, .int l11, .ref l4]) (by decide +kernel) rfl rfl ?_
    refine ab_fin.s2 (i := .iload 11) (k := 2) (pc' := 138) (lv' := [(0, .ref 0), (1, .ref l1), (3, .int l3), (4, .ref l4), (5, .int l5), (6, .int l6), (7, .ref l7), (8, .int l8), (9, .int l9), (11, .int l11)]) (st' := [.int l11, .ref l4, .int l11, .ref l4]) (by decide +kernel) rfl rfl ?_
    refine ab_fin.s1i (i := .iconst 1) (k := 1) (pc' := 139) (n := 1) (by decide +kernel) rfl (by decide +kernel) rfl ?_
    refine ab_fin.s1 (i := .iadd) (k := 1) (pc' := 140) (st' := [.int (l11 + (1 : Int32)), .ref l4, .int l11, .ref l4]) (by decide +kernel) rfl rfl ?_
    obtain ⟨e2, w⟩ := w
    refine ab_fin.q_eI (x := (σ.i l4 ((l11 + (1 : Int32)).toNatClampNeg))) (pc' := 141) (by decide +kernel) (c_eI' (F.s p_l4) e2 rfl) rfl ?_
    obtain ⟨e3, w⟩ := w
    refine ab_fin.q_sI (h1 := conc (σ.wi l4 l11.toNatClampNeg (σ.i l4 ((l11 + (1 : Int32)).toNatClampNeg)))) (pc' := 142) (by decide +kernel) (c_sI' (F.s p_l4) e3 rfl) rfl ?_
    refine ab_fin.q_inc (n := 11) (c := 1) (pc' := 145) (lv' := [(11, .int (l11 + 1)), (0, .ref 0), (1, .ref l1), (3, .int l3), (4, .ref l4), (5, .int l5), (6, .int l6), (7, .ref l7), (8, .int l8), (9, .int l9)]) (by decide +kernel) (by decide) rfl rfl rfl rfl ?_
    refine ab_fin.s3 (i := .goto (-24)) (k := 3) (t := 121) (st' := []) (by decide +kernel) (ab_gto (by decide +kernel)) ?_
    exact ab_fin.lv ⟨(List.forall_mem_cons.mpr ⟨(List.Mem.tail _ (List.Mem.head _)), (List.forall_mem_cons.mpr ⟨(List.Mem.tail _ (List.Mem.tail _ (List.Mem.head _))), (List.forall_mem_cons.mpr ⟨(List.Mem.tail _ (List.Mem.tail _ (List.Mem.tail _ (List.Mem.head _)))), (List.forall_mem_cons.mpr ⟨(List.Mem.tail _ (List.Mem.tail _ (List.Mem.tail _ (List.Mem.tail _ (List.Mem.head _))))), (List.forall_mem_cons.mpr ⟨(List.Mem.tail _ (List.Mem.tail _ (List.Mem.tail _ (List.Mem.tail _ (List.Mem.tail _ (List.Mem.head _)))))), (List.forall_mem_cons.mpr ⟨(List.Mem.tail _ (List.Mem.tail _ (List.Mem.tail _ (List.Mem.tail _ (List.Mem.tail _ (List.Mem.tail _ (List.Mem.head _))))))), (List.forall_mem_cons.mpr ⟨(List.Mem.tail _ (List.Mem.tail _ (List.Mem.tail _ (List.Mem.tail _ (List.Mem.tail _ (List.Mem.tail _ (List.Mem.tail _ (List.Mem.head _)))))))), (List.forall_mem_cons.mpr ⟨(List.Mem.tail _ (List.Mem.tail _ (List.Mem.tail _ (List.Mem.tail _ (List.Mem.tail _ (List.Mem.tail _ (List.Mem.tail _ (List.Mem.tail _ (List.Mem.head _))))))))), (List.forall_mem_cons.mpr ⟨(List.Mem.tail _ (List.Mem.tail _ (List.Mem.tail _ (List.Mem.tail _ (List.Mem.tail _ (List.Mem.tail _ (List.Mem.tail _ (List.Mem.tail _ (List.Mem.tail _ (List.Mem.head _)))))))))), (List.forall_mem_cons.mpr ⟨(List.Mem.head _), (fun _ h => absurd h List.not_mem_nil)⟩)⟩)⟩)⟩)⟩)⟩)⟩)⟩)⟩)⟩), (show ([11, 0, 1, 3, 4, 5, 6, 7, 8, 9] : List Nat).Nodup from by decide)⟩ w
theorem S_X23_isLetter_0 {Z : zT} {d : Nat} {σ : Sg} {l0 : Int32} {K : kS} (F : FX ΦR σ.sh σ.r) (w : (l0 < 97 → B_X23_isLetter_12 Z (d + 1) σ l0 K) ∧ (¬ l0 < 97 → (l0 ≤ 122 → K (.inl (some (.int 1))) σ) ∧ (¬ l0 ≤ 122 → B_X23_isLetter_12 Z (d + 1) σ l0 K))) : B_X23_isLetter_0 Z (d + 1) σ l0 K := by
  unfold B_X23_isLetter_0
  refine ab_fin.s2 (i := .iload_n 0) (k := 1) (pc' := 1) (lv' := [(0, .int l0)]) (st' := [.int l0]) (by decide +kernel) rfl rfl ?_
  refine ab_fin.s1i (i := .bipush 97) (k := 2) (pc' := 3) (n := 97) (by decide +kernel) rfl (by decide +kernel) rfl ?_
  refine ab_fin.br (c := l0 < 97) (i := .if_icmp .lt 9) (off := 9) (t := 12) (pc' := 6) (r := []) (by decide +kernel) rfl (by decide +kernel) rfl (fun q => ?_) (fun q => ?_)
  · replace w := w.1 q
    exact ab_fin.lv ⟨(List.forall_mem_cons.mpr ⟨(List.Mem.head _), (fun _ h => absurd h List.not_mem_nil)⟩), (show ([0] : List Nat).Nodup from by decide)⟩ w
  · replace w := w.2 q
    refine ab_fin.s2 (i := .iload_n 0) (k := 1) (pc' := 7) (lv' := [(0, .int l0)]) (st' := [.int l0]) (by decide +kernel) rfl rfl ?_
    refine ab_fin.s1i (i := .bipush 122) (k := 2) (pc' := 9) (n := 122) (by decide +kernel) rfl (by decide +kernel) rfl ?_
    refine ab_fin.br (c := l0 ≤ 122) (i := .if_icmp .le 21) (off := 21) (t := 30) (pc' := 12) (r := []) (by decide +kernel) rfl (by decide +kernel) rfl (fun q => ?_) (fun q => ?_)
    · replace w := w.1 q
      refine ab_fin.s1i (i := .iconst 1) (k := 1) (pc' := 31) (n := 1) (by decide +kernel) rfl (by decide +kernel) rfl ?_
      refine ab_fin.s3 (i := .goto 4) (k := 3) (t := 35) (st' := [.int 1]) (by decide +kernel) (ab_gto (by decide +kernel)) ?_
      exact ab_fin.q_ret (i := .ireturn) (k := 1) (v := some (.int 1)) (by decide +kernel) rfl F w
    · replace w := w.2 q
      exact ab_fin.lv ⟨(List.forall_mem_cons.mpr ⟨(List.Mem.head _), (fun _ h => absurd h List.not_mem_nil)⟩), (show ([0] : List Nat).Nodup from by decide)⟩ w
theorem S_X23_isLetter_12 {Z : zT} {d : Nat} {σ : Sg} {l0 : Int32} {K : kS} (F : FX ΦR σ.sh σ.r) (w : (l0 < 65 → (¬ l0 = 95 → K (.inl (some (.int 0))) σ) ∧ (l0 = 95 → K (.inl (some (.int 1))) σ)) ∧ (¬ l0 < 65 → (l0 ≤ 90 → K (.inl (some (.int 1))) σ) ∧ (¬ l0 ≤ 90 → (¬ l0 = 95 → K (.inl (some (.int 0))) σ) ∧ (l0 = 95 → K (.inl (some (.int 1))) σ)))) : B_X23_isLetter_12 Z (d + 1) σ l0 K := by
  unfold B_X23_isLetter_12
  refine ab_fin.s2 (i := .iload_n 0) (k := 1) (pc' := 13) (lv' := [(0, .int l0)]) (st' := [.int l0]) (by decide +kernel) rfl rfl ?_
  refine ab_fin.s1i (i := .bipush 65) (k := 2) (pc' := 15) (n := 65) (by decide +kernel) rfl (by decide +kernel) rfl ?_
  refine ab_fin.br (c := l0 < 65) (i := .if_icmp .lt 9) (off := 9) (t := 24) (pc' := 18) (r := []) (by decide +kernel) rfl (by decide +kernel) rfl (fun q => ?_) (fun q => ?_)
  · replace w := w.1 q
    refine ab_fin.s2 (i := .iload_n 0) (k := 1) (pc' := 25) (lv' := [(0, .int l0)]) (st' := [.int l0]) (by decide +kernel) rfl rfl ?_
    refine ab_fin.s1i (i := .bipush 95) (k := 2) (pc' := 27) (n := 95) (by decide +kernel) rfl (by decide +kernel) rfl ?_
    refine ab_fin.br (c := ¬ l0 = 95) (i := .if_icmp .ne 7) (off := 7) (t := 34) (pc' := 30) (r := []) (by decide +kernel) rfl (by decide +kernel) rfl (fun q => ?_) (fun q => ?_)
    · replace w := w.1 q
      refine ab_fin.s1i (i := .iconst 0) (k := 1) (pc' := 35) (n := 0) (by decide +kernel) rfl (by decide +kernel) rfl ?_
      exact ab_fin.q_ret (i := .ireturn) (k := 1) (v := some (.int 0)) (by decide +kernel) rfl F w
    · replace w := w.2 (Decidable.of_not_not q)
      refine ab_fin.s1i (i := .iconst 1) (k := 1) (pc' := 31) (n := 1) (by decide +kernel) rfl (by decide +kernel) rfl ?_
      refine ab_fin.s3 (i := .goto 4) (k := 3) (t := 35) (st' := [.int 1]) (by decide +kernel) (ab_gto (by decide +kernel)) ?_
      exact ab_fin.q_ret (i := .ireturn) (k := 1) (v := some (.int 1)) (by decide +kernel) rfl F w
  · replace w := w.2 q
    refine ab_fin.s2 (i := .iload_n 0) (k := 1) (pc' := 19) (lv' := [(0, .int l0)]) (st' := [.int l0]) (by decide +kernel) rfl rfl ?_
    refine ab_fin.s1i (i := .bipush 90) (k := 2) (pc' := 21) (n := 90) (by decide +kernel) rfl (by decide +kernel) rfl ?_
    refine ab_fin.br (c := l0 ≤ 90) (i := .if_icmp .le 9) (off := 9) (t := 30) (pc' := 24) (r := []) (by decide +kernel) rfl (by decide +kernel) rfl (fun q => ?_) (fun q => ?_)
    · replace w := w.1 q
      refine ab_fin.s1i (i := .iconst 1) (k := 1) (pc' := 31) (n := 1) (by decide +kernel) rfl (by decide +kernel) rfl ?_
      refine ab_fin.s3 (i := .goto 4) (k := 3) (t := 35) (st' := [.int 1]) (by decide +kernel) (ab_gto (by decide +kernel)) ?_
      exact ab_fin.q_ret (i := .ireturn) (k := 1) (v := some (.int 1)) (by decide +kernel) rfl F w
    · replace w := w.2 q
      refine ab_fin.s2 (i := .iload_n 0) (k := 1) (pc' := 25) (lv' := [(0, .int l0)]) (st' := [.int l0]) (by decide +kernel) rfl rfl ?_
      refine ab_fin.s1i (i := .bipush 95) (k := 2) (pc' := 27) (n := 95) (by decide +kernel) rfl (by decide +kernel) rfl ?_
      refine ab_fin.br (c := ¬ l0 = 95) (i := .if_icmp .ne 7) (off := 7) (t := 34) (pc' := 30) (r := []) (by decide +kernel) rfl (by decide +kernel) rfl (fun q => ?_) (fun q => ?_)
      · replace w := w.1 q
        refine ab_fin.s1i (i := .iconst 0) (k := 1) (pc' := 35) (n := 0) (by decide +kernel) rfl (by decide +kernel) rfl ?_
        exact ab_fin.q_ret (i := .ireturn) (k := 1) (v := some (.int 0)) (by decide +kernel) rfl F w
      · replace w := w.2 (Decidable.of_not_not q)
        refine ab_fin.s1i (i := .iconst 1) (k := 1) (pc' := 31) (n := 1) (by decide +kernel) rfl (by decide +kernel) rfl ?_
        refine ab_fin.s3 (i := .goto 4) (k := 3) (t := 35) (st' := [.int 1]) (by decide +kernel) (ab_gto (by decide +kernel)) ?_
        exact ab_fin.q_ret (i := .ireturn) (k := 1) (v := some (.int 1)) (by decide +kernel) rfl F w
theorem S_X23_isDigit_0 {Z : zT} {d : Nat} {σ : Sg} {l0 : Int32} {K : kS} (F : FX ΦR σ.sh σ.r) (w : (l0 < 48 → K (.inl (some (.int 0))) σ) ∧ (¬ l0 < 48 → (57 < l0 → K (.inl (some (.int 0))) σ) ∧ (¬ 57 < l0 → K (.inl (some (.int 1))) σ))) : B_X23_isDigit_0 Z (d + 1) σ l0 K := by
  unfold B_X23_isDigit_0
  refine ab_fin.s2 (i := .iload_n 0) (k := 1) (pc' := 1) (lv' := [(0, .int l0)]) (st' := [.int l0]) (by decide +kernel) rfl rfl ?_
  refine ab_fin.s1i (i := .bipush 48) (k := 2) (pc' := 3) (n := 48) (by decide +kernel) rfl (by decide +kernel) rfl ?_
  refine ab_fin.br (c := l0 < 48) (i := .if_icmp .lt 13) (off := 13) (t := 16) (pc' := 6) (r := []) (by decide +kernel) rfl (by decide +kernel) rfl (fun q => ?_) (fun q => ?_)
  · replace w := w.1 q
    refine ab_fin.s1i (i := .iconst 0) (k := 1) (pc' := 17) (n := 0) (by decide +kernel) rfl (by decide +kernel) rfl ?_
    exact ab_fin.q_ret (i := .ireturn) (k := 1) (v := some (.int 0)) (by decide +kernel) rfl F w
  · replace w := w.2 q
    refine ab_fin.s2 (i := .iload_n 0) (k := 1) (pc' := 7) (lv' := [(0, .int l0)]) (st' := [.int l0]) (by decide +kernel) rfl rfl ?_
    refine ab_fin.s1i (i := .bipush 57) (k := 2) (pc' := 9) (n := 57) (by decide +kernel) rfl (by decide +kernel) rfl ?_
    refine ab_fin.br (c := 57 < l0) (i := .if_icmp .gt 7) (off := 7) (t := 16) (pc' := 12) (r := []) (by decide +kernel) rfl (by decide +kernel) rfl (fun q => ?_) (fun q => ?_)
    · replace w := w.1 q
      refine ab_fin.s1i (i := .iconst 0) (k := 1) (pc' := 17) (n := 0) (by decide +kernel) rfl (by decide +kernel) rfl ?_
      exact ab_fin.q_ret (i := .ireturn) (k := 1) (v := some (.int 0)) (by decide +kernel) rfl F w
    · replace w := w.2 q
      refine ab_fin.s1i (i := .iconst 1) (k := 1) (pc' := 13) (n := 1) (by decide +kernel) rfl (by decide +kernel) rfl ?_
      refine ab_fin.s3 (i := .goto 4) (k := 3) (t := 17) (st' := [.int 1]) (by decide +kernel) (ab_gto (by decide +kernel)) ?_
      exact ab_fin.q_ret (i := .ireturn) (k := 1) (v := some (.int 1)) (by decide +kernel) rfl F w
theorem S_X23_isHere_0 {Z : zT} {d : Nat} {σ : Sg} {l1 : Rf} {K : kS} (F : FX ΦR σ.sh σ.r) (w : ∃ j1, l1 = Rf.old j1 ∧ hb_Xt j1 = true ∧ (B_J0_length_8abf5_0 Z d σ (Rf.old j1) (yI K fun v6 τ4 => (v6 = (τ4.i 0 26) → B_X23_isHere_15 Z (d + 1) τ4 (Rf.old j1) 0 K) ∧ (¬ v6 = (τ4.i 0 26) → K (.inl (some (.int 0))) τ4)))) : B_X23_isHere_0 Z (d + 1) σ l1 K := by
  unfold B_X23_isHere_0
  refine ab_fin.ald (i := .aload_n 1) (n := 1) (k := 1) (pc' := 1) (Or.inl ⟨_, rfl, rfl, rfl⟩) (by decide +kernel) rfl (oR_rv _) rfl ?_
  obtain ⟨j1, e2, e3, w⟩ := w
  rw [show rv l1 = .retAddr j1 from by rw [e2]; rfl]
  refine ab_fin.q_yI (i := .invokevirtual 93) (k := 3) (y := 9472) (As := [.retAddr j1]) (rest := []) (M' := (mJ0_length_8abf5, [])) (lv2 := [(0, .retAddr j1)]) (pc' := 4) (X := K) (by decide +kernel) (ab_c6x rfl rfl e3 ⟨(Nat.le_of_ble_eq_true rfl), (Nat.le_of_ble_eq_true rfl)⟩ rfl) rfl (Nat.le_of_ble_eq_true rfl) rfl rfl (hY_no fun E => rfl) w (fun v6 τ4 F5 w => ?_)
  refine ab_fin.s2 (i := .aload_n 0) (k := 1) (pc' := 5) (lv' := [(0, .ref 0), (1, .retAddr j1)]) (st' := [.ref 0, .int v6]) (by decide +kernel) rfl rfl ?_
  refine ab_fin.q_rI (x := (τ4.i 0 26)) (ix := 99) (ci := 24) (k := 26) (pc' := 8) (by decide +kernel) rfl (c_rI (F5.s s0_0) rfl) rfl ?_
  refine ab_fin.br (c := v6 = (τ4.i 0 26)) (i := .if_icmp .eq 5) (off := 5) (t := 13) (pc' := 11) (r := []) (by decide +kernel) rfl (by decide +kernel) rfl (fun q => ?_) (fun q => ?_)
  · replace w := w.1 q
    refine ab_fin.s1i (i := .iconst 0) (k := 1) (pc' := 14) (n := 0) (by decide +kernel) rfl (by decide +kernel) rfl ?_
    refine ab_fin.s2 (i := .istore_n 2) (k := 1) (pc' := 15) (lv' := [(2, .int 0), (0, .ref 0), (1, .retAddr j1)]) (st' := []) (by decide +kernel) rfl rfl ?_
    exact ab_fin.lv ⟨(List.forall_mem_cons.mpr ⟨(List.Mem.tail _ (List.Mem.head _)), (List.forall_mem_cons.mpr ⟨(List.Mem.tail _ (List.Mem.tail _ (List.Mem.head _))), (List.forall_mem_cons.mpr ⟨(List.Mem.head _), (fun _ h => absurd h List.not_mem_nil)⟩)⟩)⟩), (show ([2, 0, 1] : List Nat).Nodup from by decide)⟩ w
  · replace w := w.2 q
    refine ab_fin.s1i (i := .iconst 0) (k := 1) (pc' := 12) (n := 0) (by decide +kernel) rfl (by decide +kernel) rfl ?_
    exact ab_fin.q_ret (i := .ireturn) (k := 1) (v := some (.int 0)) (by decide +kernel) rfl F5 w
theorem S_X23_isHere_15 {Z : zT} {d : Nat} {σ : Sg} {l1 : Rf} {l2 : Int32} {K : kS} (F : FX ΦR σ.sh σ.r) (w : ((σ.i 0 26) ≤ l2 → K (.inl (some (.int 1))) σ) ∧ (¬ (σ.i 0 26) ≤ l2 → ∃ j1, l1 = Rf.old j1 ∧ hb_Xt j1 = true ∧ (B_J0_charAt_5068e_0 Z d σ (Rf.old j1) l2 (yI K fun v6 τ4 => ib ((τ4.i 0 18) + l2) 8192 ∧ ((v6 = (τ4.i 37 (((τ4.i 0 18) + l2).toNatClampNeg)) → B_X23_isHere_15 Z (d + 1) τ4 (Rf.old j1) (l2 + 1) K) ∧ (¬ v6 = (τ4.i 37 (((τ4.i 0 18) + l2).toNatClampNeg)) → K (.inl (some (.int 0))) τ4)))))) : B_X23_isHere_15 Z (d + 1) σ l1 l2 K := by
  unfold B_X23_isHere_15
  refine ab_fin.s2 (i := .iload_n 2) (k := 1) (pc' := 16) (lv' := [(0, .ref 0), (1, rv l1), (2, .int l2)]) (st' := [.int l2]) (by decide +kernel) rfl rfl ?_
  refine ab_fin.s2 (i := .aload_n 0) (k := 1) (pc' := 17) (lv' := [(0, .ref 0), (1, rv l1), (2, .int l2)]) (st' := [.ref 0, .int l2]) (by decide +kernel) rfl rfl ?_
  refine ab_fin.q_rI (x := (σ.i 0 26)) (ix := 99) (ci := 24) (k := 26) (pc' := 20) (by decide +kernel) rfl (c_rI (F.s s0_0) rfl) rfl ?_
  refine ab_fin.br (c := (σ.i 0 26) ≤ l2) (i := .if_icmp .ge 30) (off := 30) (t := 50) (pc' := 23) (r := []) (by decide +kernel) rfl (by decide +kernel) rfl (fun q => ?_) (fun q => ?_)
  · replace w := w.1 q
    refine ab_fin.s1i (i := .iconst 1) (k := 1) (pc' := 51) (n := 1) (by decide +kernel) rfl (by decide +kernel) rfl ?_
    exact ab_fin.q_ret (i := .ireturn) (k := 1) (v := some (.int 1)) (by decide +kernel) rfl F w
  · replace w := w.2 q
    refine ab_fin.ald (i := .aload_n 1) (n := 1) (k := 1) (pc' := 24) (Or.inl ⟨_, rfl, rfl, rfl⟩) (by decide +kernel) rfl (oR_rv _) rfl ?_
    refine ab_fin.s2 (i := .iload_n 2) (k := 1) (pc' := 25) (lv' := [(0, .ref 0), (1, rv l1), (2, .int l2)]) (st' := [.int l2, rv l1]) (by decide +kernel) rfl rfl ?_
    obtain ⟨j1, e2, e3, w⟩ := w
    rw [show rv l1 = .retAddr j1 from by rw [e2]; rfl]
    refine ab_fin.q_yI (i := .invokevirtual 102) (k := 3) (y := 9473) (As := [.retAddr j1, .int l2]) (rest := []) (M' := (mJ0_charAt_5068e, [])) (lv2 := [(0, .retAddr j1), (1, .int l2)]) (pc' := 28) (X := K) (by decide +kernel) (ab_c6x rfl rfl e3 ⟨(Nat.le_of_ble_eq_true rfl), (Nat.le_of_ble_eq_true rfl)⟩ rfl) rfl (Nat.le_of_ble_eq_true rfl) rfl rfl (hY_no fun E => rfl) w (fun v6 τ4 F5 w => ?_)
    refine ab_fin.s2 (i := .aload_n 0) (k := 1) (pc' := 29) (lv' := [(0, .ref 0), (1, .retAddr j1), (2, .int l2)]) (st' := [.ref 0, .int v6]) (by decide +kernel) rfl rfl ?_
    refine ab_fin.q_rA (b := 37) (ix := 1) (ci := 24) (k := 14) (pc' := 32) (by decide +kernel) rfl (c_rA (F5.s s0_0) rfl (rM_14 F5)) rfl ?_
    refine ab_fin.s2 (i := .aload_n 0) (k := 1) (pc' := 33) (lv' := [(0, .ref 0), (1, .retAddr j1), (2, .int l2)]) (st' := [.ref 0, .ref 37, .int v6]) (by decide +kernel) rfl rfl ?_
    refine ab_fin.q_rI (x := (τ4.i 0 18)) (ix := 106) (ci := 24) (k := 18) (pc' := 36) (by decide +kernel) rfl (c_rI (F5.s s0_0) rfl) rfl ?_
    refine ab_fin.s2 (i := .iload_n 2) (k := 1) (pc' := 37) (lv' := [(0, .ref 0), (1, .retAddr j1), (2, .int l2)]) (st' := [.int l2, .int (τ4.i 0 18), .ref 37, .int v6]) (by decide +kernel) rfl rfl ?_
    refine ab_fin.s1 (i := .iadd) (k := 1) (pc' := 38) (st' := [.int ((τ4.i 0 18) + l2), .ref 37, .int v6]) (by decide +kernel) rfl rfl ?_
    obtain ⟨e7, w⟩ := w
    refine ab_fin.q_eB (x := (τ4.i 37 (((τ4.i 0 18) + l2).toNatClampNeg))) (pc' := 39) (by decide +kernel) (c_eB2' (F5.s s0_37) e7 rfl) rfl ?_
    refine ab_fin.br (c := v6 = (τ4.i 37 (((τ4.i 0 18) + l2).toNatClampNeg))) (i := .if_icmp .eq 5) (off := 5) (t := 44) (pc' := 42) (r := []) (by decide +kernel) rfl (by decide +kernel) rfl (fun q => ?_) (fun q => ?_)
    · replace w := w.1 q
      refine ab_fin.q_inc (n := 2) (c := 1) (pc' := 47) (lv' := [(2, .int (l2 + 1)), (0, .ref 0), (1, .retAddr j1)]) (by decide +kernel) (by decide) rfl rfl rfl rfl ?_
      refine ab_fin.s3 (i := .goto (-32)) (k := 3) (t := 15) (st' := []) (by decide +kernel) (ab_gto (by decide +kernel)) ?_
      exact ab_fin.lv ⟨(List.forall_mem_cons.mpr ⟨(List.Mem.tail _ (List.Mem.head _)), (List.forall_mem_cons.mpr ⟨(List.Mem.tail _ (List.Mem.tail _ (List.Mem.head _))), (List.forall_mem_cons.mpr ⟨(List.Mem.head _), (fun _ h => absurd h List.not_mem_nil)⟩)⟩)⟩), (show ([2, 0, 1] : List Nat).Nodup from by decide)⟩ w
    · replace w := w.2 q
      refine ab_fin.s1i (i := .iconst 0) (k := 1) (pc' := 43) (n := 0) (by decide +kernel) rfl (by decide +kernel) rfl ?_
      exact ab_fin.q_ret (i := .ireturn) (k := 1) (v := some (.int 0)) (by decide +kernel) rfl F5 w
theorem S_X23_word_0 {Z : zT} {d : Nat} {σ : Sg}  {K : kS} (F : FX ΦR σ.sh σ.r) (w : ib (σ.i 0 18) 8192 ∧ (((σ.i 37 ((σ.i 0 18).toNatClampNeg)) = 97 → B_X23_isHere_0 Z d σ (Rf.old 118) (yI K fun v4 τ2 => (v4 = 0 → B_X23_isHere_0 Z d τ2 (Rf.old 120) (yI K fun v7 τ5 => (v7 = 0 → B_X23_isHere_0 Z d τ5 (Rf.old 122) (yI K fun v10 τ8 => (v10 = 0 → B_X23_isHere_0 Z d τ8 (Rf.old 124) (yI K fun v13 τ11 => (v13 = 0 → K (.inl (some (.null))) τ11) ∧ (¬ v13 = 0 → K (.inl (some (.retAddr 124))) τ11))) ∧ (¬ v10 = 0 → K (.inl (some (.retAddr 122))) τ8))) ∧ (¬ v7 = 0 → K (.inl (some (.retAddr 120))) τ5))) ∧ (¬ v4 = 0 → K (.inl (some (.retAddr 118))) τ2))) ∧ ((σ.i 37 ((σ.i 0 18).toNatClampNeg)) = 98 → B_X23_isHere_0 Z d σ (Rf.old 126) (yI K fun v16 τ14 => (v16 = 0 → B_X23_isHere_0 Z d τ14 (Rf.old 128) (yI K fun v19 τ17 => (v19 = 0 → B_X23_isHere_0 Z d τ17 (Rf.old 130) (yI K fun v22 τ20 => (v22 = 0 → B_X23_isHere_0 Z d τ20 (Rf.old 132) (yI K fun v25 τ23 => (v25 = 0 → K (.inl (some (.null))) τ23) ∧ (¬ v25 = 0 → K (.inl (some (.retAddr 132))) τ23))) ∧ (¬ v22 = 0 → K (.inl (some (.retAddr 130))) τ20))) ∧ (¬ v19 = 0 → K (.inl (some (.retAddr 128))) τ17))) ∧ (¬ v16 = 0 → K (.inl (some (.retAddr 126))) τ14))) ∧ ((σ.i 37 ((σ.i 0 18).toNatClampNeg)) = 99 → B_X23_isHere_0 Z d σ (Rf.old 134) (yI K fun v28 τ26 => (v28 = 0 → K (.inl (some (.null))) τ26) ∧ (¬ v28 = 0 → K (.inl (some (.retAddr 134))) τ26))) ∧ ((σ.i 37 ((σ.i 0 18).toNatClampNeg)) = 100 → B_X23_isHere_0 Z d σ (Rf.old 136) (yI K fun v31 τ29 => (v31 = 0 → K (.inl (some (.null))) τ29) ∧ (¬ v31 = 0 → K (.inl (some (.retAddr 136))) τ29))) ∧ ((σ.i 37 ((σ.i 0 18).toNatClampNeg)) = 101 → B_X23_isHere_0 Z d σ (Rf.old 138) (yI K fun v34 τ32 => (v34 = 0 → B_X23_isHere_0 Z d τ32 (Rf.old 140) (yI K fun v37 τ35 => (v37 = 0 → K (.inl (some (.null))) τ35) ∧ (¬ v37 = 0 → K (.inl (some (.retAddr 140))) τ35))) ∧ (¬ v34 = 0 → K (.inl (some (.retAddr 138))) τ32))) ∧ ((σ.i 37 ((σ.i 0 18).toNatClampNeg)) = 102 → B_X23_isHere_0 Z d σ (Rf.old 142) (yI K fun v40 τ38 => (v40 = 0 → K (.inl (some (.null))) τ38) ∧ (¬ v40 = 0 → K (.inl (some (.retAddr 142))) τ38))) ∧ ((σ.i 37 ((σ.i 0 18).toNatClampNeg)) = 105 → B_X23_isHere_0 Z d σ (Rf.old 144) (yI K fun v43 τ41 => (v43 = 0 → B_X23_isHere_0 Z d τ41 (Rf.old 146) (yI K fun v46 τ44 => (v46 = 0 → B_X23_isHere_0 Z d τ44 (Rf.old 148) (yI K fun v49 τ47 => (v49 = 0 → K (.inl (some (.null))) τ47) ∧ (¬ v49 = 0 → K (.inl (some (.retAddr 148))) τ47))) ∧ (¬ v46 = 0 → K (.inl (some (.retAddr 146))) τ44))) ∧ (¬ v43 = 0 → K (.inl (some (.retAddr 144))) τ41))) ∧ ((σ.i 37 ((σ.i 0 18).toNatClampNeg)) = 107 → B_X23_isHere_0 Z d σ (Rf.old 150) (yI K fun v52 τ50 => (v52 = 0 → K (.inl (some (.null))) τ50) ∧ (¬ v52 = 0 → K (.inl (some (.retAddr 150))) τ50))) ∧ ((σ.i 37 ((σ.i 0 18).toNatClampNeg)) = 108 → B_X23_isHere_0 Z d σ (Rf.old 152) (yI K fun v55 τ53 => (v55 = 0 → B_X23_isHere_0 Z d τ53 (Rf.old 154) (yI K fun v58 τ56 => (v58 = 0 → B_X23_isHere_0 Z d τ56 (Rf.old 156) (yI K fun v61 τ59 => (v61 = 0 → B_X23_isHere_0 Z d τ59 (Rf.old 158) (yI K fun v64 τ62 => (v64 = 0 → K (.inl (some (.null))) τ62) ∧ (¬ v64 = 0 → K (.inl (some (.retAddr 158))) τ62))) ∧ (¬ v61 = 0 → K (.inl (some (.retAddr 156))) τ59))) ∧ (¬ v58 = 0 → K (.inl (some (.retAddr 154))) τ56))) ∧ (¬ v55 = 0 → K (.inl (some (.retAddr 152))) τ53))) ∧ ((σ.i 37 ((σ.i 0 18).toNatClampNeg)) = 109 → B_X23_isHere_0 Z d σ (Rf.old 160) (yI K fun v67 τ65 => (v67 = 0 → K (.inl (some (.null))) τ65) ∧ (¬ v67 = 0 → K (.inl (some (.retAddr 160))) τ65))) ∧ ((σ.i 37 ((σ.i 0 18).toNatClampNeg)) = 110 → B_X23_isHere_0 Z d σ (Rf.old 162) (yI K fun v70 τ68 => (v70 = 0 → B_X23_isHere_0 Z d τ68 (Rf.old 164) (yI K fun v73 τ71 => (v73 = 0 → B_X23_isHere_0 Z d τ71 (Rf.old 166) (yI K fun v76 τ74 => (v76 = 0 → K (.inl (some (.null))) τ74) ∧ (¬ v76 = 0 → K (.inl (some (.retAddr 166))) τ74))) ∧ (¬ v73 = 0 → K (.inl (some (.retAddr 164))) τ71))) ∧ (¬ v70 = 0 → K (.inl (some (.retAddr 162))) τ68))) ∧ ((σ.i 37 ((σ.i 0 18).toNatClampNeg)) = 111 → B_X23_isHere_0 Z d σ (Rf.old 168) (yI K fun v79 τ77 => (v79 = 0 → B_X23_isHere_0 Z d τ77 (Rf.old 170) (yI K fun v82 τ80 => (v82 = 0 → K (.inl (some (.null))) τ80) ∧ (¬ v82 = 0 → K (.inl (some (.retAddr 170))) τ80))) ∧ (¬ v79 = 0 → K (.inl (some (.retAddr 168))) τ77))) ∧ ((σ.i 37 ((σ.i 0 18).toNatClampNeg)) = 115 → B_X23_isHere_0 Z d σ (Rf.old 172) (yI K fun v85 τ83 => (v85 = 0 → B_X23_isHere_0 Z d τ83 (Rf.old 174) (yI K fun v88 τ86 => (v88 = 0 → K (.inl (some (.null))) τ86) ∧ (¬ v88 = 0 → K (.inl (some (.retAddr 174))) τ86))) ∧ (¬ v85 = 0 → K (.inl (some (.retAddr 172))) τ83))) ∧ ((σ.i 37 ((σ.i 0 18).toNatClampNeg)) = 116 → B_X23_isHere_0 Z d σ (Rf.old 176) (yI K fun v91 τ89 => (v91 = 0 → B_X23_isHere_0 Z d τ89 (Rf.old 178) (yI K fun v94 τ92 => (v94 = 0 → K (.inl (some (.null))) τ92) ∧ (¬ v94 = 0 → K (.inl (some (.retAddr 178))) τ92))) ∧ (¬ v91 = 0 → K (.inl (some (.retAddr 176))) τ89))) ∧ ((σ.i 37 ((σ.i 0 18).toNatClampNeg)) = 119 → B_X23_isHere_0 Z d σ (Rf.old 180) (yI K fun v97 τ95 => (v97 = 0 → B_X23_isHere_0 Z d τ95 (Rf.old 182) (yI K fun v100 τ98 => (v100 = 0 → K (.inl (some (.null))) τ98) ∧ (¬ v100 = 0 → K (.inl (some (.retAddr 182))) τ98))) ∧ (¬ v97 = 0 → K (.inl (some (.retAddr 180))) τ95))) ∧ (¬ (σ.i 37 ((σ.i 0 18).toNatClampNeg)) = 97 → ¬ (σ.i 37 ((σ.i 0 18).toNatClampNeg)) = 98 → ¬ (σ.i 37 ((σ.i 0 18).toNatClampNeg)) = 99 → ¬ (σ.i 37 ((σ.i 0 18).toNatClampNeg)) = 100 → ¬ (σ.i 37 ((σ.i 0 18).toNatClampNeg)) = 101 → ¬ (σ.i 37 ((σ.i 0 18).toNatClampNeg)) = 102 → ¬ (σ.i 37 ((σ.i 0 18).toNatClampNeg)) = 105 → ¬ (σ.i 37 ((σ.i 0 18).toNatClampNeg)) = 107 → ¬ (σ.i 37 ((σ.i 0 18).toNatClampNeg)) = 108 → ¬ (σ.i 37 ((σ.i 0 18).toNatClampNeg)) = 109 → ¬ (σ.i 37 ((σ.i 0 18).toNatClampNeg)) = 110 → ¬ (σ.i 37 ((σ.i 0 18).toNatClampNeg)) = 111 → ¬ (σ.i 37 ((σ.i 0 18).toNatClampNeg)) = 115 → ¬ (σ.i 37 ((σ.i 0 18).toNatClampNeg)) = 116 → ¬ (σ.i 37 ((σ.i 0 18).toNatClampNeg)) = 119 → K (.inl (some (.null))) σ))) : B_X23_word_0 Z (d + 1) σ  K := by
  unfold B_X23_word_0
  refine ab_fin.s2 (i := .aload_n 0) (k := 1) (pc' := 1) (lv' := [(0, .ref 0)]) (st' := [.ref 0]) (by decide +kernel) rfl rfl ?_
  refine ab_fin.q_rA (b := 37) (ix := 1) (ci := 24) (k := 14) (pc' := 4) (by decide +kernel) rfl (c_rA (F.s s0_0) rfl (rM_14 F)) rfl ?_
  refine ab_fin.s2 (i := .aload_n 0) (k := 1) (pc' := 5) (lv' := [(0, .ref 0)]) (st' := [.ref 0, .ref 37]) (by decide +kernel) rfl rfl ?_
  refine ab_fin.q_rI (x := (σ.i 0 18)) (ix := 106) (ci := 24) (k := 18) (pc' := 8) (by decide +kernel) rfl (c_rI (F.s s0_0) rfl) rfl ?_
  obtain ⟨e1, w⟩ := w
  refine ab_fin.q_eB (x := (σ.i 37 ((σ.i 0 18).toNatClampNeg))) (pc' := 9) (by decide +kernel) (c_eB2' (F.s s0_37) e1 rfl) rfl ?_
  by_cases q0 : (σ.i 37 ((σ.i 0 18).toNatClampNeg)) = 97
  · refine ab_fin.s3 (i := .tableswitch 599 97 119 #[107, 165, 223, 239, 255, 285, 599, 599, 301, 599, 345, 361, 419, 435, 479, 599, 599, 599, 509, 539, 599, 599, 569]) (k := 107) (t := 116) (st' := []) (by decide +kernel) (by rw [q0]; exact ab_swI (off := 107) (by decide +kernel) (by decide +kernel) (by decide +kernel)) ?_
    replace w := w.1 q0
    refine ab_fin.s2 (i := .aload_n 0) (k := 1) (pc' := 117) (lv' := [(0, .ref 0)]) (st' := [.ref 0]) (by decide +kernel) rfl rfl ?_
    refine ab_fin.s8 (i := .ldc 108) (k := 2) (pc' := 119) (st' := [.retAddr 118, .ref 0]) (by decide +kernel) rfl rfl rfl rfl ?_
    refine ab_fin.q_yI (i := .invokevirtual 110) (k := 3) (y := 5900) (As := [.ref 0, .retAddr 118]) (rest := []) (M' := (mX23_isHere, [])) (lv2 := [(0, .ref 0), (1, .retAddr 118)]) (pc' := 122) (X := K) (by decide +kernel) (ab_cv rfl rfl (conc_get (σ := σ) (F.s s0_0)) ⟨(Nat.le_of_ble_eq_true rfl), (Nat.le_of_ble_eq_true rfl)⟩ rfl) rfl (Nat.le_of_ble_eq_true rfl) rfl rfl (hY_no fun E => rfl) w (fun v4 τ2 F3 w => ?_)
    refine ab_fin.br (c := v4 = 0) (i := .ifCond .eq 8) (off := 8) (t := 130) (pc' := 125) (r := []) (by decide +kernel) rfl (by decide +kernel) rfl (fun q => ?_) (fun q => ?_)
    · replace w := w.1 q
      refine ab_fin.s2 (i := .aload_n 0) (k := 1) (pc' := 131) (lv' := [(0, .ref 0)]) (st' := [.ref 0]) (by decide +kernel) rfl rfl ?_
      refine ab_fin.s8 (i := .ldc 114) (k := 2) (pc' := 133) (st' := [.retAddr 120, .ref 0]) (by decide +kernel) rfl rfl rfl rfl ?_
      refine ab_fin.q_yI (i := .invokevirtual 110) (k := 3) (y := 5900) (As := [.ref 0, .retAddr 120]) (rest := []) (M' := (mX23_isHere, [])) (lv2 := [(0, .ref 0), (1, .retAddr 120)]) (pc' := 136) (X := K) (by decide +kernel) (ab_cv rfl rfl (conc_get (σ := τ2) (F3.s s0_0)) ⟨(Nat.le_of_ble_eq_true rfl), (Nat.le_of_ble_eq_true rfl)⟩ rfl) rfl (Nat.le_of_ble_eq_true rfl) rfl rfl (hY_no fun E => rfl) w (fun v7 τ5 F6 w => ?_)
      refine ab_fin.br (c := v7 = 0) (i := .ifCond .eq 8) (off := 8) (t := 144) (pc' := 139) (r := []) (by decide +kernel) rfl (by decide +kernel) rfl (fun q => ?_) (fun q => ?_)
      · replace w := w.1 q
        refine ab_fin.s2 (i := .aload_n 0) (k := 1) (pc' := 145) (lv' := [(0, .ref 0)]) (st' := [.ref 0]) (by decide +kernel) rfl rfl ?_
        refine ab_fin.s8 (i := .ldc 116) (k := 2) (pc' := 147) (st' := [.retAddr 122, .ref 0]) (by decide +kernel) rfl rfl rfl rfl ?_
        refine ab_fin.q_yI (i := .invokevirtual 110) (k := 3) (y := 5900) (As := [.ref 0, .retAddr 122]) (rest := []) (M' := (mX23_isHere, [])) (lv2 := [(0, .ref 0), (1, .retAddr 122)]) (pc' := 150) (X := K) (by decide +kernel) (ab_cv rfl rfl (conc_get (σ := τ5) (F6.s s0_0)) ⟨(Nat.le_of_ble_eq_true rfl), (Nat.le_of_ble_eq_true rfl)⟩ rfl) rfl (Nat.le_of_ble_eq_true rfl) rfl rfl (hY_no fun E => rfl) w (fun v10 τ8 F9 w => ?_)
        refine ab_fin.br (c := v10 = 0) (i := .ifCond .eq 8) (off := 8) (t := 158) (pc' := 153) (r := []) (by decide +kernel) rfl (by decide +kernel) rfl (fun q => ?_) (fun q => ?_)
        · replace w := w.1 q
          refine ab_fin.s2 (i := .aload_n 0) (k := 1) (pc' := 159) (lv' := [(0, .ref 0)]) (st' := [.ref 0]) (by decide +kernel) rfl rfl ?_
          refine ab_fin.s8 (i := .ldc 118) (k := 2) (pc' := 161) (st' := [.retAddr 124, .ref 0]) (by decide +kernel) rfl rfl rfl rfl ?_
          refine ab_fin.q_yI (i := .invokevirtual 110) (k := 3) (y := 5900) (As := [.ref 0, .retAddr 124]) (rest := []) (M' := (mX23_isHere, [])) (lv2 := [(0, .ref 0), (1, .retAddr 124)]) (pc' := 164) (X := K) (by decide +kernel) (ab_cv rfl rfl (conc_get (σ := τ8) (F9.s s0_0)) ⟨(Nat.le_of_ble_eq_true rfl), (Nat.le_of_ble_eq_true rfl)⟩ rfl) rfl (Nat.le_of_ble_eq_true rfl) rfl rfl (hY_no fun E => rfl) w (fun v13 τ11 F12 w => ?_)
          refine ab_fin.br (c := v13 = 0) (i := .ifCond .eq 8) (off := 8) (t := 172) (pc' := 167) (r := []) (by decide +kernel) rfl (by decide +kernel) rfl (fun q => ?_) (fun q => ?_)
          · replace w := w.1 q
            refine ab_fin.s1 (i := .aconst_null) (k := 1) (pc' := 173) (st' := [.null]) (by decide +kernel) rfl rfl ?_
            exact ab_fin.q_ret (i := .areturn) (k := 1) (v := some (.null)) (by decide +kernel) rfl F12 w
          · replace w := w.2 q
            refine ab_fin.s8 (i := .ldc 118) (k := 2) (pc' := 169) (st' := [.retAddr 124]) (by decide +kernel) rfl rfl rfl rfl ?_
            refine ab_fin.s3 (i := .goto 4) (k := 3) (t := 173) (st' := [.retAddr 124]) (by decide +kernel) (ab_gto (by decide +kernel)) ?_
            exact ab_fin.q_ret (i := .areturn) (k := 1) (v := some (.retAddr 124)) (by decide +kernel) rfl F12 w
        · replace w := w.2 q
          refine ab_fin.s8 (i := .ldc 116) (k := 2) (pc' := 155) (st' := [.retAddr 122]) (by decide +kernel) rfl rfl rfl rfl ?_
          refine ab_fin.s3 (i := .goto 18) (k := 3) (t := 173) (st' := [.retAddr 122]) (by decide +kernel) (ab_gto (by decide +kernel)) ?_
          exact ab_fin.q_ret (i := .areturn) (k := 1) (v := some (.retAddr 122)) (by decide +kernel) rfl F9 w
      · replace w := w.2 q
        refine ab_fin.s8 (i := .ldc 114) (k := 2) (pc' := 141) (st' := [.retAddr 120]) (by decide +kernel) rfl rfl rfl rfl ?_
        refine ab_fin.s3 (i := .goto 32) (k := 3) (t := 173) (st' := [.retAddr 120]) (by decide +kernel) (ab_gto (by decide +kernel)) ?_
        exact ab_fin.q_ret (i := .areturn) (k := 1) (v := some (.retAddr 120)) (by decide +kernel) rfl F6 w
    · replace w := w.2 q
      refine ab_fin.s8 (i := .ldc 108) (k := 2) (pc' := 127) (st' := [.retAddr 118]) (by decide +kernel) rfl rfl rfl rfl ?_
      refine ab_fin.s3 (i := .goto 46) (k := 3) (t := 173) (st' := [.retAddr 118]) (by decide +kernel) (ab_gto (by decide +kernel)) ?_
      exact ab_fin.q_ret (i := .areturn) (k := 1) (v := some (.retAddr 118)) (by decide +kernel) rfl F3 w
  by_cases q1 : (σ.i 37 ((σ.i 0 18).toNatClampNeg)) = 98
  · refine ab_fin.s3 (i := .tableswitch 599 97 119 #[107, 165, 223, 239, 255, 285, 599, 599, 301, 599, 345, 361, 419, 435, 479, 599, 599, 599, 509, 539, 599, 599, 569]) (k := 107) (t := 174) (st' := []) (by decide +kernel) (by rw [q1]; exact ab_swI (off := 165) (by decide +kernel) (by decide +kernel) (by decide +kernel)) ?_
    replace w := w.2.1 q1
    refine ab_fin.s2 (i := .aload_n 0) (k := 1) (pc' := 175) (lv' := [(0, .ref 0)]) (st' := [.ref 0]) (by decide +kernel) rfl rfl ?_
    refine ab_fin.s8 (i := .ldc 120) (k := 2) (pc' := 177) (st' := [.retAddr 126, .ref 0]) (by decide +kernel) rfl rfl rfl rfl ?_
    refine ab_fin.q_yI (i := .invokevirtual 110) (k := 3) (y := 5900) (As := [.ref 0, .retAddr 126]) (rest := []) (M' := (mX23_isHere, [])) (lv2 := [(0, .ref 0), (1, .retAddr 126)]) (pc' := 180) (X := K) (by decide +kernel) (ab_cv rfl rfl (conc_get (σ := σ) (F.s s0_0)) ⟨(Nat.le_of_ble_eq_true rfl), (Nat.le_of_ble_eq_true rfl)⟩ rfl) rfl (Nat.le_of_ble_eq_true rfl) rfl rfl (hY_no fun E => rfl) w (fun v16 τ14 F15 w => ?_)
    refine ab_fin.br (c := v16 = 0) (i := .ifCond .eq 8) (off := 8) (t := 188) (pc' := 183) (r := []) (by decide +kernel) rfl (by decide +kernel) rfl (fun q => ?_) (fun q => ?_)
    · replace w := w.1 q
      refine ab_fin.s2 (i := .aload_n 0) (k := 1) (pc' := 189) (lv' := [(0, .ref 0)]) (st' := [.ref 0]) (by decide +kernel) rfl rfl ?_
      refine ab_fin.s8 (i := .ldc 122) (k := 2) (pc' := 191) (st' := [.retAddr 128, .ref 0]) (by decide +kernel) rfl rfl rfl rfl ?_
      refine ab_fin.q_yI (i := .invokevirtual 110) (k := 3) (y := 5900) (As := [.ref 0, .retAddr 128]) (rest := []) (M' := (mX23_isHere, [])) (lv2 := [(0, .ref 0), (1, .retAddr 128)]) (pc' := 194) (X := K) (by decide +kernel) (ab_cv rfl rfl (conc_get (σ := τ14) (F15.s s0_0)) ⟨(Nat.le_of_ble_eq_true rfl), (Nat.le_of_ble_eq_true rfl)⟩ rfl) rfl (Nat.le_of_ble_eq_true rfl) rfl rfl (hY_no fun E => rfl) w (fun v19 τ17 F18 w => ?_)
      refine ab_fin.br (c := v19 = 0) (i := .ifCond .eq 8) (off := 8) (t := 202) (pc' := 197) (r := []) (by decide +kernel) rfl (by decide +kernel) rfl (fun q => ?_) (fun q => ?_)
      · replace w := w.1 q
        refine ab_fin.s2 (i := .aload_n 0) (k := 1) (pc' := 203) (lv' := [(0, .ref 0)]) (st' := [.ref 0]) (by decide +kernel) rfl rfl ?_
        refine ab_fin.s8 (i := .ldc 124) (k := 2) (pc' := 205) (st' := [.retAddr 130, .ref 0]) (by decide +kernel) rfl rfl rfl rfl ?_
        refine ab_fin.q_yI (i := .invokevirtual 110) (k := 3) (y := 5900) (As := [.ref 0, .retAddr 130]) (rest := []) (M' := (mX23_isHere, [])) (lv2 := [(0, .ref 0), (1, .retAddr 130)]) (pc' := 208) (X := K) (by decide +kernel) (ab_cv rfl rfl (conc_get (σ := τ17) (F18.s s0_0)) ⟨(Nat.le_of_ble_eq_true rfl), (Nat.le_of_ble_eq_true rfl)⟩ rfl) rfl (Nat.le_of_ble_eq_true rfl) rfl rfl (hY_no fun E => rfl) w (fun v22 τ20 F21 w => ?_)
        refine ab_fin.br (c := v22 = 0) (i := .ifCond .eq 8) (off := 8) (t := 216) (pc' := 211) (r := []) (by decide +kernel) rfl (by decide +kernel) rfl (fun q => ?_) (fun q => ?_)
        · replace w := w.1 q
          refine ab_fin.s2 (i := .aload_n 0) (k := 1) (pc' := 217) (lv' := [(0, .ref 0)]) (st' := [.ref 0]) (by decide +kernel) rfl rfl ?_
          refine ab_fin.s8 (i := .ldc 126) (k := 2) (pc' := 219) (st' := [.retAddr 132, .ref 0]) (by decide +kernel) rfl rfl rfl rfl ?_
          refine ab_fin.q_yI (i := .invokevirtual 110) (k := 3) (y := 5900) (As := [.ref 0, .retAddr 132]) (rest := []) (M' := (mX23_isHere, [])) (lv2 := [(0, .ref 0), (1, .retAddr 132)]) (pc' := 222) (X := K) (by decide +kernel) (ab_cv rfl rfl (conc_get (σ := τ20) (F21.s s0_0)) ⟨(Nat.le_of_ble_eq_true rfl), (Nat.le_of_ble_eq_true rfl)⟩ rfl) rfl (Nat.le_of_ble_eq_true rfl) rfl rfl (hY_no fun E => rfl) w (fun v25 τ23 F24 w => ?_)
          refine ab_fin.br (c := v25 = 0) (i := .ifCond .eq 8) (off := 8) (t := 230) (pc' := 225) (r := []) (by decide +kernel) rfl (by decide +kernel) rfl (fun q => ?_) (fun q => ?_)
          · replace w := w.1 q
            refine ab_fin.s1 (i := .aconst_null) (k := 1) (pc' := 231) (st' := [.null]) (by decide +kernel) rfl rfl ?_
            exact ab_fin.q_ret (i := .areturn) (k := 1) (v := some (.null)) (by decide +kernel) rfl F24 w
          · replace w := w.2 q
            refine ab_fin.s8 (i := .ldc 126) (k := 2) (pc' := 227) (st' := [.retAddr 132]) (by decide +kernel) rfl rfl rfl rfl ?_
            refine ab_fin.s3 (i := .goto 4) (k := 3) (t := 231) (st' := [.retAddr 132]) (by decide +kernel) (ab_gto (by decide +kernel)) ?_
            exact ab_fin.q_ret (i := .areturn) (k := 1) (v := some (.retAddr 132)) (by decide +kernel) rfl F24 w
        · replace w := w.2 q
          refine ab_fin.s8 (i := .ldc 124) (k := 2) (pc' := 213) (st' := [.retAddr 130]) (by decide +kernel) rfl rfl rfl rfl ?_
          refine ab_fin.s3 (i := .goto 18) (k := 3) (t := 231) (st' := [.retAddr 130]) (by decide +kernel) (ab_gto (by decide +kernel)) ?_
          exact ab_fin.q_ret (i := .areturn) (k := 1) (v := some (.retAddr 130)) (by decide +kernel) rfl F21 w
      · replace w := w.2 q
        refine ab_fin.s8 (i := .ldc 122) (k := 2) (pc' := 199) (st' := [.retAddr 128]) (by decide +kernel) rfl rfl rfl rfl ?_
        refine ab_fin.s3 (i := .goto 32) (k := 3) (t := 231) (st' := [.retAddr 128]) (by decide +kernel) (ab_gto (by decide +kernel)) ?_
        exact ab_fin.q_ret (i := .areturn) (k := 1) (v := some (.retAddr 128)) (by decide +kernel) rfl F18 w
    · replace w := w.2 q
      refine ab_fin.s8 (i := .ldc 120) (k := 2) (pc' := 185) (st' := [.retAddr 126]) (by decide +kernel) rfl rfl rfl rfl ?_
      refine ab_fin.s3 (i := .goto 46) (k := 3) (t := 231) (st' := [.retAddr 126]) (by decide +kernel) (ab_gto (by decide +kernel)) ?_
      exact ab_fin.q_ret (i := .areturn) (k := 1) (v := some (.retAddr 126)) (by decide +kernel) rfl F15 w
  by_cases q2 : (σ.i 37 ((σ.i 0 18).toNatClampNeg)) = 99
  · refine ab_fin.s3 (i := .tableswitch 599 97 119 #[107, 165, 223, 239, 255, 285, 599, 599, 301, 599, 345, 361, 419, 435, 479, 599, 599, 599, 509, 539, 599, 599, 569]) (k := 107) (t := 232) (st' := []) (by decide +kernel) (by rw [q2]; exact ab_swI (off := 223) (by decide +kernel) (by decide +kernel) (by decide +kernel)) ?_
    replace w := w.2.2.1 q2
    refine ab_fin.s2 (i := .aload_n 0) (k := 1) (pc' := 233) (lv' := [(0, .ref 0)]) (st' := [.ref 0]) (by decide +kernel) rfl rfl ?_
    refine ab_fin.s8 (i := .ldc 128) (k := 2) (pc' := 235) (st' := [.retAddr 134, .ref 0]) (by decide +kernel) rfl rfl rfl rfl ?_
    refine ab_fin.q_yI (i := .invokevirtual 110) (k := 3) (y := 5900) (As := [.ref 0, .retAddr 134]) (rest := []) (M' := (mX23_isHere, [])) (lv2 := [(0, .ref 0), (1, .retAddr 134)]) (pc' := 238) (X := K) (by decide +kernel) (ab_cv rfl rfl (conc_get (σ := σ) (F.s s0_0)) ⟨(Nat.le_of_ble_eq_true rfl), (Nat.le_of_ble_eq_true rfl)⟩ rfl) rfl (Nat.le_of_ble_eq_true rfl) rfl rfl (hY_no fun E => rfl) w (fun v28 τ26 F27 w => ?_)
    refine ab_fin.br (c := v28 = 0) (i := .ifCond .eq 8) (off := 8) (t := 246) (pc' := 241) (r := []) (by decide +kernel) rfl (by decide +kernel) rfl (fun q => ?_) (fun q => ?_)
    · replace w := w.1 q
      refine ab_fin.s1 (i := .aconst_null) (k := 1) (pc' := 247) (st' := [.null]) (by decide +kernel) rfl rfl ?_
      exact ab_fin.q_ret (i := .areturn) (k := 1) (v := some (.null)) (by decide +kernel) rfl F27 w
    · replace w := w.2 q
      refine ab_fin.s8 (i := .ldc 128) (k := 2) (pc' := 243) (st' := [.retAddr 134]) (by decide +kernel) rfl rfl rfl rfl ?_
      refine ab_fin.s3 (i := .goto 4) (k := 3) (t := 247) (st' := [.retAddr 134]) (by decide +kernel) (ab_gto (by decide +kernel)) ?_
      exact ab_fin.q_ret (i := .areturn) (k := 1) (v := some (.retAddr 134)) (by decide +kernel) rfl F27 w
  by_cases q3 : (σ.i 37 ((σ.i 0 18).toNatClampNeg)) = 100
  · refine ab_fin.s3 (i := .tableswitch 599 97 119 #[107, 165, 223, 239, 255, 285, 599, 599, 301, 599, 345, 361, 419, 435, 479, 599, 599, 599, 509, 539, 599, 599, 569]) (k := 107) (t := 248) (st' := []) (by decide +kernel) (by rw [q3]; exact ab_swI (off := 239) (by decide +kernel) (by decide +kernel) (by decide +kernel)) ?_
    replace w := w.2.2.2.1 q3
    refine ab_fin.s2 (i := .aload_n 0) (k := 1) (pc' := 249) (lv' := [(0, .ref 0)]) (st' := [.ref 0]) (by decide +kernel) rfl rfl ?_
    refine ab_fin.s8 (i := .ldc 130) (k := 2) (pc' := 251) (st' := [.retAddr 136, .ref 0]) (by decide +kernel) rfl rfl rfl rfl ?_
    refine ab_fin.q_yI (i := .invokevirtual 110) (k := 3) (y := 5900) (As := [.ref 0, .retAddr 136]) (rest := []) (M' := (mX23_isHere, [])) (lv2 := [(0, .ref 0), (1, .retAddr 136)]) (pc' := 254) (X := K) (by decide +kernel) (ab_cv rfl rfl (conc_get (σ := σ) (F.s s0_0)) ⟨(Nat.le_of_ble_eq_true rfl), (Nat.le_of_ble_eq_true rfl)⟩ rfl) rfl (Nat.le_of_ble_eq_true rfl) rfl rfl (hY_no fun E => rfl) w (fun v31 τ29 F30 w => ?_)
    refine ab_fin.br (c := v31 = 0) (i := .ifCond .eq 8) (off := 8) (t := 262) (pc' := 257) (r := []) (by decide +kernel) rfl (by decide +kernel) rfl (fun q => ?_) (fun q => ?_)
    · replace w := w.1 q
      refine ab_fin.s1 (i := .aconst_null) (k := 1) (pc' := 263) (st' := [.null]) (by decide +kernel) rfl rfl ?_
      exact ab_fin.q_ret (i := .areturn) (k := 1) (v := some (.null)) (by decide +kernel) rfl F30 w
    · replace w := w.2 q
      refine ab_fin.s8 (i := .ldc 130) (k := 2) (pc' := 259) (st' := [.retAddr 136]) (by decide +kernel) rfl rfl rfl rfl ?_
      refine ab_fin.s3 (i := .goto 4) (k := 3) (t := 263) (st' := [.retAddr 136]) (by decide +kernel) (ab_gto (by decide +kernel)) ?_
      exact ab_fin.q_ret (i := .areturn) (k := 1) (v := some (.retAddr 136)) (by decide +kernel) rfl F30 w
  by_cases q4 : (σ.i 37 ((σ.i 0 18).toNatClampNeg)) = 101
  · refine ab_fin.s3 (i := .tableswitch 599 97 119 #[107, 165, 223, 239, 255, 285, 599, 599, 301, 599, 345, 361, 419, 435, 479, 599, 599, 599, 509, 539, 599, 599, 569]) (k := 107) (t := 264) (st' := []) (by decide +kernel) (by rw [q4]; exact ab_swI (off := 255) (by decide +kernel) (by decide +kernel) (by decide +kernel)) ?_
    replace w := w.2.2.2.2.1 q4
    refine ab_fin.s2 (i := .aload_n 0) (k := 1) (pc' := 265) (lv' := [(0, .ref 0)]) (st' := [.ref 0]) (by decide +kernel) rfl rfl ?_
    refine ab_fin.s8 (i := .ldc 132) (k := 2) (pc' := 267) (st' := [.retAddr 138, .ref 0]) (by decide +kernel) rfl rfl rfl rfl ?_
    refine ab_fin.q_yI (i := .invokevirtual 110) (k := 3) (y := 5900) (As := [.ref 0, .retAddr 138]) (rest := []) (M' := (mX23_isHere, [])) (lv2 := [(0, .ref 0), (1, .retAddr 138)]) (pc' := 270) (X := K) (by decide +kernel) (ab_cv rfl rfl (conc_get (σ := σ) (F.s s0_0)) ⟨(Nat.le_of_ble_eq_true rfl), (Nat.le_of_ble_eq_true rfl)⟩ rfl) rfl (Nat.le_of_ble_eq_true rfl) rfl rfl (hY_no fun E => rfl) w (fun v34 τ32 F33 w => ?_)
    refine ab_fin.br (c := v34 = 0) (i := .ifCond .eq 8) (off := 8) (t := 278) (pc' := 273) (r := []) (by decide +kernel) rfl (by decide +kernel) rfl (fun q => ?_) (fun q => ?_)
    · replace w := w.1 q
      refine ab_fin.s2 (i := .aload_n 0) (k := 1) (pc' := 279) (lv' := [(0, .ref 0)]) (st' := [.ref 0]) (by decide +kernel) rfl rfl ?_
      refine ab_fin.s8 (i := .ldc 134) (k := 2) (pc' := 281) (st' := [.retAddr 140, .ref 0]) (by decide +kernel) rfl rfl rfl rfl ?_
      refine ab_fin.q_yI (i := .invokevirtual 110) (k := 3) (y := 5900) (As := [.ref 0, .retAddr 140]) (rest := []) (M' := (mX23_isHere, [])) (lv2 := [(0, .ref 0), (1, .retAddr 140)]) (pc' := 284) (X := K) (by decide +kernel) (ab_cv rfl rfl (conc_get (σ := τ32) (F33.s s0_0)) ⟨(Nat.le_of_ble_eq_true rfl), (Nat.le_of_ble_eq_true rfl)⟩ rfl) rfl (Nat.le_of_ble_eq_true rfl) rfl rfl (hY_no fun E => rfl) w (fun v37 τ35 F36 w => ?_)
      refine ab_fin.br (c := v37 = 0) (i := .ifCond .eq 8) (off := 8) (t := 292) (pc' := 287) (r := []) (by decide +kernel) rfl (by decide +kernel) rfl (fun q => ?_) (fun q => ?_)
      · replace w := w.1 q
        refine ab_fin.s1 (i := .aconst_null) (k := 1) (pc' := 293) (st' := [.null]) (by decide +kernel) rfl rfl ?_
        exact ab_fin.q_ret (i := .areturn) (k := 1) (v := some (.null)) (by decide +kernel) rfl F36 w
      · replace w := w.2 q
        refine ab_fin.s8 (i := .ldc 134) (k := 2) (pc' := 289) (st' := [.retAddr 140]) (by decide +kernel) rfl rfl rfl rfl ?_
        refine ab_fin.s3 (i := .goto 4) (k := 3) (t := 293) (st' := [.retAddr 140]) (by decide +kernel) (ab_gto (by decide +kernel)) ?_
        exact ab_fin.q_ret (i := .areturn) (k := 1) (v := some (.retAddr 140)) (by decide +kernel) rfl F36 w
    · replace w := w.2 q
      refine ab_fin.s8 (i := .ldc 132) (k := 2) (pc' := 275) (st' := [.retAddr 138]) (by decide +kernel) rfl rfl rfl rfl ?_
      refine ab_fin.s3 (i := .goto 18) (k := 3) (t := 293) (st' := [.retAddr 138]) (by decide +kernel) (ab_gto (by decide +kernel)) ?_
      exact ab_fin.q_ret (i := .areturn) (k := 1) (v := some (.retAddr 138)) (by decide +kernel) rfl F33 w
  by_cases q5 : (σ.i 37 ((σ.i 0 18).toNatClampNeg)) = 102
  · refine ab_fin.s3 (i := .tableswitch 599 97 119 #[107, 165, 223, 239, 255, 285, 599, 599, 301, 599, 345, 361, 419, 435, 479, 599, 599, 599, 509, 539, 599, 599, 569]) (k := 107) (t := 294) (st' := []) (by decide +kernel) (by rw [q5]; exact ab_swI (off := 285) (by decide +kernel) (by decide +kernel) (by decide +kernel)) ?_
    replace w := w.2.2.2.2.2.1 q5
    refine ab_fin.s2 (i := .aload_n 0) (k := 1) (pc' := 295) (lv' := [(0, .ref 0)]) (st' := [.ref 0]) (by decide +kernel) rfl rfl ?_
    refine ab_fin.s8 (i := .ldc 136) (k := 2) (pc' := 297) (st' := [.retAddr 142, .ref 0]) (by decide +kernel) rfl rfl rfl rfl ?_
    refine ab_fin.q_yI (i := .invokevirtual 110) (k := 3) (y := 5900) (As := [.ref 0, .retAddr 142]) (rest := []) (M' := (mX23_isHere, [])) (lv2 := [(0, .ref 0), (1, .retAddr 142)]) (pc' := 300) (X := K) (by decide +kernel) (ab_cv rfl rfl (conc_get (σ := σ) (F.s s0_0)) ⟨(Nat.le_of_ble_eq_true rfl), (Nat.le_of_ble_eq_true rfl)⟩ rfl) rfl (Nat.le_of_ble_eq_true rfl) rfl rfl (hY_no fun E => rfl) w (fun v40 τ38 F39 w => ?_)
    refine ab_fin.br (c := v40 = 0) (i := .ifCond .eq 8) (off := 8) (t := 308) (pc' := 303) (r := []) (by decide +kernel) rfl (by decide +kernel) rfl (fun q => ?_) (fun q => ?_)
    · replace w := w.1 q
      refine ab_fin.s1 (i := .aconst_null) (k := 1) (pc' := 309) (st' := [.null]) (by decide +kernel) rfl rfl ?_
      exact ab_fin.q_ret (i := .areturn) (k := 1) (v := some (.null)) (by decide +kernel) rfl F39 w
    · replace w := w.2 q
      refine ab_fin.s8 (i := .ldc 136) (k := 2) (pc' := 305) (st' := [.retAddr 142]) (by decide +kernel) rfl rfl rfl rfl ?_
      refine ab_fin.s3 (i := .goto 4) (k := 3) (t := 309) (st' := [.retAddr 142]) (by decide +kernel) (ab_gto (by decide +kernel)) ?_
      exact ab_fin.q_ret (i := .areturn) (k := 1) (v := some (.retAddr 142)) (by decide +kernel) rfl F39 w
  by_cases q6 : (σ.i 37 ((σ.i 0 18).toNatClampNeg)) = 105
  · refine ab_fin.s3 (i := .tableswitch 599 97 119 #[107, 165, 223, 239, 255, 285, 599, 599, 301, 599, 345, 361, 419, 435, 479, 599, 599, 599, 509, 539, 599, 599, 569]) (k := 107) (t := 310) (st' := []) (by decide +kernel) (by rw [q6]; exact ab_swI (off := 301) (by decide +kernel) (by decide +kernel) (by decide +kernel)) ?_
    replace w := w.2.2.2.2.2.2.1 q6
    refine ab_fin.s2 (i := .aload_n 0) (k := 1) (pc' := 311) (lv' := [(0, .ref 0)]) (st' := [.ref 0]) (by decide +kernel) rfl rfl ?_
    refine ab_fin.s8 (i := .ldc 138) (k := 2) (pc' := 313) (st' := [.retAddr 144, .ref 0]) (by decide +kernel) rfl rfl rfl rfl ?_
    refine ab_fin.q_yI (i := .invokevirtual 110) (k := 3) (y := 5900) (As := [.ref 0, .retAddr 144]) (rest := []) (M' := (mX23_isHere, [])) (lv2 := [(0, .ref 0), (1, .retAddr 144)]) (pc' := 316) (X := K) (by decide +kernel) (ab_cv rfl rfl (conc_get (σ := σ) (F.s s0_0)) ⟨(Nat.le_of_ble_eq_true rfl), (Nat.le_of_ble_eq_true rfl)⟩ rfl) rfl (Nat.le_of_ble_eq_true rfl) rfl rfl (hY_no fun E => rfl) w (fun v43 τ41 F42 w => ?_)
    refine ab_fin.br (c := v43 = 0) (i := .ifCond .eq 8) (off := 8) (t := 324) (pc' := 319) (r := []) (by decide +kernel) rfl (by decide +kernel) rfl (fun q => ?_) (fun q => ?_)
    · replace w := w.1 q
      refine ab_fin.s2 (i := .aload_n 0) (k := 1) (pc' := 325) (lv' := [(0, .ref 0)]) (st' := [.ref 0]) (by decide +kernel) rfl rfl ?_
      refine ab_fin.s8 (i := .ldc 140) (k := 2) (pc' := 327) (st' := [.retAddr 146, .ref 0]) (by decide +kernel) rfl rfl rfl rfl ?_
      refine ab_fin.q_yI (i := .invokevirtual 110) (k := 3) (y := 5900) (As := [.ref 0, .retAddr 146]) (rest := []) (M' := (mX23_isHere, [])) (lv2 := [(0, .ref 0), (1, .retAddr 146)]) (pc' := 330) (X := K) (by decide +kernel) (ab_cv rfl rfl (conc_get (σ := τ41) (F42.s s0_0)) ⟨(Nat.le_of_ble_eq_true rfl), (Nat.le_of_ble_eq_true rfl)⟩ rfl) rfl (Nat.le_of_ble_eq_true rfl) rfl rfl (hY_no fun E => rfl) w (fun v46 τ44 F45 w => ?_)
      refine ab_fin.br (c := v46 = 0) (i := .ifCond .eq 8) (off := 8) (t := 338) (pc' := 333) (r := []) (by decide +kernel) rfl (by decide +kernel) rfl (fun q => ?_) (fun q => ?_)
      · replace w := w.1 q
        refine ab_fin.s2 (i := .aload_n 0) (k := 1) (pc' := 339) (lv' := [(0, .ref 0)]) (st' := [.ref 0]) (by decide +kernel) rfl rfl ?_
        refine ab_fin.s8 (i := .ldc 142) (k := 2) (pc' := 341) (st' := [.retAddr 148, .ref 0]) (by decide +kernel) rfl rfl rfl rfl ?_
        refine ab_fin.q_yI (i := .invokevirtual 110) (k := 3) (y := 5900) (As := [.ref 0, .retAddr 148]) (rest := []) (M' := (mX23_isHere, [])) (lv2 := [(0, .ref 0), (1, .retAddr 148)]) (pc' := 344) (X := K) (by decide +kernel) (ab_cv rfl rfl (conc_get (σ := τ44) (F45.s s0_0)) ⟨(Nat.le_of_ble_eq_true rfl), (Nat.le_of_ble_eq_true rfl)⟩ rfl) rfl (Nat.le_of_ble_eq_true rfl) rfl rfl (hY_no fun E => rfl) w (fun v49 τ47 F48 w => ?_)
        refine ab_fin.br (c := v49 = 0) (i := .ifCond .eq 8) (off := 8) (t := 352) (pc' := 347) (r := []) (by decide +kernel) rfl (by decide +kernel) rfl (fun q => ?_) (fun q => ?_)
        · replace w := w.1 q
          refine ab_fin.s1 (i := .aconst_null) (k := 1) (pc' := 353) (st' := [.null]) (by decide +kernel) rfl rfl ?_
          exact ab_fin.q_ret (i := .areturn) (k := 1) (v := some (.null)) (by decide +kernel) rfl F48 w
        · replace w := w.2 q
          refine ab_fin.s8 (i := .ldc 142) (k := 2) (pc' := 349) (st' := [.retAddr 148]) (by decide +kernel) rfl rfl rfl rfl ?_
          refine ab_fin.s3 (i := .goto 4) (k := 3) (t := 353) (st' := [.retAddr 148]) (by decide +kernel) (ab_gto (by decide +kernel)) ?_
          exact ab_fin.q_ret (i := .areturn) (k := 1) (v := some (.retAddr 148)) (by decide +kernel) rfl F48 w
      · replace w := w.2 q
        refine ab_fin.s8 (i := .ldc 140) (k := 2) (pc' := 335) (st' := [.retAddr 146]) (by decide +kernel) rfl rfl rfl rfl ?_
        refine ab_fin.s3 (i := .goto 18) (k := 3) (t := 353) (st' := [.retAddr 146]) (by decide +kernel) (ab_gto (by decide +kernel)) ?_
        exact ab_fin.q_ret (i := .areturn) (k := 1) (v := some (.retAddr 146)) (by decide +kernel) rfl F45 w
    · replace w := w.2 q
      refine ab_fin.s8 (i := .ldc 138) (k := 2) (pc' := 321) (st' := [.retAddr 144]) (by decide +kernel) rfl rfl rfl rfl ?_
      refine ab_fin.s3 (i := .goto 32) (k := 3) (t := 353) (st' := [.retAddr 144]) (by decide +kernel) (ab_gto (by decide +kernel)) ?_
      exact ab_fin.q_ret (i := .areturn) (k := 1) (v := some (.retAddr 144)) (by decide +kernel) rfl F42 w
  by_cases q7 : (σ.i 37 ((σ.i 0 18).toNatClampNeg)) = 107
  · refine ab_fin.s3 (i := .tableswitch 599 97 119 #[107, 165, 223, 239, 255, 285, 599, 599, 301, 599, 345, 361, 419, 435, 479, 599, 599, 599, 509, 539, 599, 599, 569]) (k := 107) (t := 354) (st' := []) (by decide +kernel) (by rw [q7]; exact ab_swI (off := 345) (by decide +kernel) (by decide +kernel) (by decide +kernel)) ?_
    replace w := w.2.2.2.2.2.2.2.1 q7
    refine ab_fin.s2 (i := .aload_n 0) (k := 1) (pc' := 355) (lv' := [(0, .ref 0)]) (st' := [.ref 0]) (by decide +kernel) rfl rfl ?_
    refine ab_fin.s8 (i := .ldc 143) (k := 2) (pc' := 357) (st' := [.retAddr 150, .ref 0]) (by decide +kernel) rfl rfl rfl rfl ?_
    refine ab_fin.q_yI (i := .invokevirtual 110) (k := 3) (y := 5900) (As := [.ref 0, .retAddr 150]) (rest := []) (M' := (mX23_isHere, [])) (lv2 := [(0, .ref 0), (1, .retAddr 150)]) (pc' := 360) (X := K) (by decide +kernel) (ab_cv rfl rfl (conc_get (σ := σ) (F.s s0_0)) ⟨(Nat.le_of_ble_eq_true rfl), (Nat.le_of_ble_eq_true rfl)⟩ rfl) rfl (Nat.le_of_ble_eq_true rfl) rfl rfl (hY_no fun E => rfl) w (fun v52 τ50 F51 w => ?_)
    refine ab_fin.br (c := v52 = 0) (i := .ifCond .eq 8) (off := 8) (t := 368) (pc' := 363) (r := []) (by decide +kernel) rfl (by decide +kernel) rfl (fun q => ?_) (fun q => ?_)
    · replace w := w.1 q
      refine ab_fin.s1 (i := .aconst_null) (k := 1) (pc' := 369) (st' := [.null]) (by decide +kernel) rfl rfl ?_
      exact ab_fin.q_ret (i := .areturn) (k := 1) (v := some (.null)) (by decide +kernel) rfl F51 w
    · replace w := w.2 q
      refine ab_fin.s8 (i := .ldc 143) (k := 2) (pc' := 365) (st' := [.retAddr 150]) (by decide +kernel) rfl rfl rfl rfl ?_
      refine ab_fin.s3 (i := .goto 4) (k := 3) (t := 369) (st' := [.retAddr 150]) (by decide +kernel) (ab_gto (by decide +kernel)) ?_
      exact ab_fin.q_ret (i := .areturn) (k := 1) (v := some (.retAddr 150)) (by decide +kernel) rfl F51 w
  by_cases q8 : (σ.i 37 ((σ.i 0 18).toNatClampNeg)) = 108
  · refine ab_fin.s3 (i := .tableswitch 599 97 119 #[107, 165, 223, 239, 255, 285, 599, 599, 301, 599, 345, 361, 419, 435, 479, 599, 599, 599, 509, 539, 599, 599, 569]) (k := 107) (t := 370) (st' := []) (by decide +kernel) (by rw [q8]; exact ab_swI (off := 361) (by decide +kernel) (by decide +kernel) (by decide +kernel)) ?_
    replace w := w.2.2.2.2.2.2.2.2.1 q8
    refine ab_fin.s2 (i := .aload_n 0) (k := 1) (pc' := 371) (lv' := [(0, .ref 0)]) (st' := [.ref 0]) (by decide +kernel) rfl rfl ?_
    refine ab_fin.s8 (i := .ldc 145) (k := 2) (pc' := 373) (st' := [.retAddr 152, .ref 0]) (by decide +kernel) rfl rfl rfl rfl ?_
    refine ab_fin.q_yI (i := .invokevirtual 110) (k := 3) (y := 5900) (As := [.ref 0, .retAddr 152]) (rest := []) (M' := (mX23_isHere, [])) (lv2 := [(0, .ref 0), (1, .retAddr 152)]) (pc' := 376) (X := K) (by decide +kernel) (ab_cv rfl rfl (conc_get (σ := σ) (F.s s0_0)) ⟨(Nat.le_of_ble_eq_true rfl), (Nat.le_of_ble_eq_true rfl)⟩ rfl) rfl (Nat.le_of_ble_eq_true rfl) rfl rfl (hY_no fun E => rfl) w (fun v55 τ53 F54 w => ?_)
    refine ab_fin.br (c := v55 = 0) (i := .ifCond .eq 8) (off := 8) (t := 384) (pc' := 379) (r := []) (by decide +kernel) rfl (by decide +kernel) rfl (fun q => ?_) (fun q => ?_)
    · replace w := w.1 q
      refine ab_fin.s2 (i := .aload_n 0) (k := 1) (pc' := 385) (lv' := [(0, .ref 0)]) (st' := [.ref 0]) (by decide +kernel) rfl rfl ?_
      refine ab_fin.s8 (i := .ldc 147) (k := 2) (pc' := 387) (st' := [.retAddr 154, .ref 0]) (by decide +kernel) rfl rfl rfl rfl ?_
      refine ab_fin.q_yI (i := .invokevirtual 110) (k := 3) (y := 5900) (As := [.ref 0, .retAddr 154]) (rest := []) (M' := (mX23_isHere, [])) (lv2 := [(0, .ref 0), (1, .retAddr 154)]) (pc' := 390) (X := K) (by decide +kernel) (ab_cv rfl rfl (conc_get (σ := τ53) (F54.s s0_0)) ⟨(Nat.le_of_ble_eq_true rfl), (Nat.le_of_ble_eq_true rfl)⟩ rfl) rfl (Nat.le_of_ble_eq_true rfl) rfl rfl (hY_no fun E => rfl) w (fun v58 τ56 F57 w => ?_)
      refine ab_fin.br (c := v58 = 0) (i := .ifCond .eq 8) (off := 8) (t := 398) (pc' := 393) (r := []) (by decide +kernel) rfl (by decide +kernel) rfl (fun q => ?_) (fun q => ?_)
      · replace w := w.1 q
        refine ab_fin.s2 (i := .aload_n 0) (k := 1) (pc' := 399) (lv' := [(0, .ref 0)]) (st' := [.ref 0]) (by decide +kernel) rfl rfl ?_
        refine ab_fin.s8 (i := .ldc 149) (k := 2) (pc' := 401) (st' := [.retAddr 156, .ref 0]) (by decide +kernel) rfl rfl rfl rfl ?_
        refine ab_fin.q_yI (i := .invokevirtual 110) (k := 3) (y := 5900) (As := [.ref 0, .retAddr 156]) (rest := []) (M' := (mX23_isHere, [])) (lv2 := [(0, .ref 0), (1, .retAddr 156)]) (pc' := 404) (X := K) (by decide +kernel) (ab_cv rfl rfl (conc_get (σ := τ56) (F57.s s0_0)) ⟨(Nat.le_of_ble_eq_true rfl), (Nat.le_of_ble_eq_true rfl)⟩ rfl) rfl (Nat.le_of_ble_eq_true rfl) rfl rfl (hY_no fun E => rfl) w (fun v61 τ59 F60 w => ?_)
        refine ab_fin.br (c := v61 = 0) (i := .ifCond .eq 8) (off := 8) (t := 412) (pc' := 407) (r := []) (by decide +kernel) rfl (by decide +kernel) rfl (fun q => ?_) (fun q => ?_)
        · replace w := w.1 q
          refine ab_fin.s2 (i := .aload_n 0) (k := 1) (pc' := 413) (lv' := [(0, .ref 0)]) (st' := [.ref 0]) (by decide +kernel) rfl rfl ?_
          refine ab_fin.s8 (i := .ldc 151) (k := 2) (pc' := 415) (st' := [.retAddr 158, .ref 0]) (by decide +kernel) rfl rfl rfl rfl ?_
          refine ab_fin.q_yI (i := .invokevirtual 110) (k := 3) (y := 5900) (As := [.ref 0, .retAddr 158]) (rest := []) (M' := (mX23_isHere, [])) (lv2 := [(0, .ref 0), (1, .retAddr 158)]) (pc' := 418) (X := K) (by decide +kernel) (ab_cv rfl rfl (conc_get (σ := τ59) (F60.s s0_0)) ⟨(Nat.le_of_ble_eq_true rfl), (Nat.le_of_ble_eq_true rfl)⟩ rfl) rfl (Nat.le_of_ble_eq_true rfl) rfl rfl (hY_no fun E => rfl) w (fun v64 τ62 F63 w => ?_)
          refine ab_fin.br (c := v64 = 0) (i := .ifCond .eq 8) (off := 8) (t := 426) (pc' := 421) (r := []) (by decide +kernel) rfl (by decide +kernel) rfl (fun q => ?_) (fun q => ?_)
          · replace w := w.1 q
            refine ab_fin.s1 (i := .aconst_null) (k := 1) (pc' := 427) (st' := [.null]) (by decide +kernel) rfl rfl ?_
            exact ab_fin.q_ret (i := .areturn) (k := 1) (v := some (.null)) (by decide +kernel) rfl F63 w
          · replace w := w.2 q
            refine ab_fin.s8 (i := .ldc 151) (k := 2) (pc' := 423) (st' := [.retAddr 158]) (by decide +kernel) rfl rfl rfl rfl ?_
            refine ab_fin.s3 (i := .goto 4) (k := 3) (t := 427) (st' := [.retAddr 158]) (by decide +kernel) (ab_gto (by decide +kernel)) ?_
            exact ab_fin.q_ret (i := .areturn) (k := 1) (v := some (.retAddr 158)) (by decide +kernel) rfl F63 w
        · replace w := w.2 q
          refine ab_fin.s8 (i := .ldc 149) (k := 2) (pc' := 409) (st' := [.retAddr 156]) (by decide +kernel) rfl rfl rfl rfl ?_
          refine ab_fin.s3 (i := .goto 18) (k := 3) (t := 427) (st' := [.retAddr 156]) (by decide +kernel) (ab_gto (by decide +kernel)) ?_
          exact ab_fin.q_ret (i := .areturn) (k := 1) (v := some (.retAddr 156)) (by decide +kernel) rfl F60 w
      · replace w := w.2 q
        refine ab_fin.s8 (i := .ldc 147) (k := 2) (pc' := 395) (st' := [.retAddr 154]) (by decide +kernel) rfl rfl rfl rfl ?_
        refine ab_fin.s3 (i := .goto 32) (k := 3) (t := 427) (st' := [.retAddr 154]) (by decide +kernel) (ab_gto (by decide +kernel)) ?_
        exact ab_fin.q_ret (i := .areturn) (k := 1) (v := some (.retAddr 154)) (by decide +kernel) rfl F57 w
    · replace w := w.2 q
      refine ab_fin.s8 (i := .ldc 145) (k := 2) (pc' := 381) (st' := [.retAddr 152]) (by decide +kernel) rfl rfl rfl rfl ?_
      refine ab_fin.s3 (i := .goto 46) (k := 3) (t := 427) (st' := [.retAddr 152]) (by decide +kernel) (ab_gto (by decide +kernel)) ?_
      exact ab_fin.q_ret (i := .areturn) (k := 1) (v := some (.retAddr 152)) (by decide +kernel) rfl F54 w
  by_cases q9 : (σ.i 37 ((σ.i 0 18).toNatClampNeg)) = 109
  · refine ab_fin.s3 (i := .tableswitch 599 97 119 #[107, 165, 223, 239, 255, 285, 599, 599, 301, 599, 345, 361, 419, 435, 479, 599, 599, 599, 509, 539, 599, 599, 569]) (k := 107) (t := 428) (st' := []) (by decide +kernel) (by rw [q9]; exact ab_swI (off := 419) (by decide +kernel) (by decide +kernel) (by decide +kernel)) ?_
    replace w := w.2.2.2.2.2.2.2.2.2.1 q9
    refine ab_fin.s2 (i := .aload_n 0) (k := 1) (pc' := 429) (lv' := [(0, .ref 0)]) (st' := [.ref 0]) (by decide +kernel) rfl rfl ?_
    refine ab_fin.s8 (i := .ldc 153) (k := 2) (pc' := 431) (st' := [.retAddr 160, .ref 0]) (by decide +kernel) rfl rfl rfl rfl ?_
    refine ab_fin.q_yI (i := .invokevirtual 110) (k := 3) (y := 5900) (As := [.ref 0, .retAddr 160]) (rest := []) (M' := (mX23_isHere, [])) (lv2 := [(0, .ref 0), (1, .retAddr 160)]) (pc' := 434) (X := K) (by decide +kernel) (ab_cv rfl rfl (conc_get (σ := σ) (F.s s0_0)) ⟨(Nat.le_of_ble_eq_true rfl), (Nat.le_of_ble_eq_true rfl)⟩ rfl) rfl (Nat.le_of_ble_eq_true rfl) rfl rfl (hY_no fun E => rfl) w (fun v67 τ65 F66 w => ?_)
    refine ab_fin.br (c := v67 = 0) (i := .ifCond .eq 8) (off := 8) (t := 442) (pc' := 437) (r := []) (by decide +kernel) rfl (by decide +kernel) rfl (fun q => ?_) (fun q => ?_)
    · replace w := w.1 q
      refine ab_fin.s1 (i := .aconst_null) (k := 1) (pc' := 443) (st' := [.null]) (by decide +kernel) rfl rfl ?_
      exact ab_fin.q_ret (i := .areturn) (k := 1) (v := some (.null)) (by decide +kernel) rfl F66 w
    · replace w := w.2 q
      refine ab_fin.s8 (i := .ldc 153) (k := 2) (pc' := 439) (st' := [.retAddr 160]) (by decide +kernel) rfl rfl rfl rfl ?_
      refine ab_fin.s3 (i := .goto 4) (k := 3) (t := 443) (st' := [.retAddr 160]) (by decide +kernel) (ab_gto (by decide +kernel)) ?_
      exact ab_fin.q_ret (i := .areturn) (k := 1) (v := some (.retAddr 160)) (by decide +kernel) rfl F66 w
  by_cases q10 : (σ.i 37 ((σ.i 0 18).toNatClampNeg)) = 110
  · refine ab_fin.s3 (i := .tableswitch 599 97 119 #[107, 165, 223, 239, 255, 285, 599, 599, 301, 599, 345, 361, 419, 435, 479, 599, 599, 599, 509, 539, 599, 599, 569]) (k := 107) (t := 444) (st' := []) (by decide +kernel) (by rw [q10]; exact ab_swI (off := 435) (by decide +kernel) (by decide +kernel) (by decide +kernel)) ?_
    replace w := w.2.2.2.2.2.2.2.2.2.2.1 q10
    refine ab_fin.s2 (i := .aload_n 0) (k := 1) (pc' := 445) (lv' := [(0, .ref 0)]) (st' := [.ref 0]) (by decide +kernel) rfl rfl ?_
    refine ab_fin.s8 (i := .ldc 155) (k := 2) (pc' := 447) (st' := [.retAddr 162, .ref 0]) (by decide +kernel) rfl rfl rfl rfl ?_
    refine ab_fin.q_yI (i := .invokevirtual 110) (k := 3) (y := 5900) (As := [.ref 0, .retAddr 162]) (rest := []) (M' := (mX23_isHere, [])) (lv2 := [(0, .ref 0), (1, .retAddr 162)]) (pc' := 450) (X := K) (by decide +kernel) (ab_cv rfl rfl (conc_get (σ := σ) (F.s s0_0)) ⟨(Nat.le_of_ble_eq_true rfl), (Nat.le_of_ble_eq_true rfl)⟩ rfl) rfl (Nat.le_of_ble_eq_true rfl) rfl rfl (hY_no fun E => rfl) w (fun v70 τ68 F69 w => ?_)
    refine ab_fin.br (c := v70 = 0) (i := .ifCond .eq 8) (off := 8) (t := 458) (pc' := 453) (r := []) (by decide +kernel) rfl (by decide +kernel) rfl (fun q => ?_) (fun q => ?_)
    · replace w := w.1 q
      refine ab_fin.s2 (i := .aload_n 0) (k := 1) (pc' := 459) (lv' := [(0, .ref 0)]) (st' := [.ref 0]) (by decide +kernel) rfl rfl ?_
      refine ab_fin.s8 (i := .ldc 157) (k := 2) (pc' := 461) (st' := [.retAddr 164, .ref 0]) (by decide +kernel) rfl rfl rfl rfl ?_
      refine ab_fin.q_yI (i := .invokevirtual 110) (k := 3) (y := 5900) (As := [.ref 0, .retAddr 164]) (rest := []) (M' := (mX23_isHere, [])) (lv2 := [(0, .ref 0), (1, .retAddr 164)]) (pc' := 464) (X := K) (by decide +kernel) (ab_cv rfl rfl (conc_get (σ := τ68) (F69.s s0_0)) ⟨(Nat.le_of_ble_eq_true rfl), (Nat.le_of_ble_eq_true rfl)⟩ rfl) rfl (Nat.le_of_ble_eq_true rfl) rfl rfl (hY_no fun E => rfl) w (fun v73 τ71 F72 w => ?_)
      refine ab_fin.br (c := v73 = 0) (i := .ifCond .eq 8) (off := 8) (t := 472) (pc' := 467) (r := []) (by decide +kernel) rfl (by decide +kernel) rfl (fun q => ?_) (fun q => ?_)
      · replace w := w.1 q
        refine ab_fin.s2 (i := .aload_n 0) (k := 1) (pc' := 473) (lv' := [(0, .ref 0)]) (st' := [.ref 0]) (by decide +kernel) rfl rfl ?_
        refine ab_fin.s8 (i := .ldc 159) (k := 2) (pc' := 475) (st' := [.retAddr 166, .ref 0]) (by decide +kernel) rfl rfl rfl rfl ?_
        refine ab_fin.q_yI (i := .invokevirtual 110) (k := 3) (y := 5900) (As := [.ref 0, .retAddr 166]) (rest := []) (M' := (mX23_isHere, [])) (lv2 := [(0, .ref 0), (1, .retAddr 166)]) (pc' := 478) (X := K) (by decide +kernel) (ab_cv rfl rfl (conc_get (σ := τ71) (F72.s s0_0)) ⟨(Nat.le_of_ble_eq_true rfl), (Nat.le_of_ble_eq_true rfl)⟩ rfl) rfl (Nat.le_of_ble_eq_true rfl) rfl rfl (hY_no fun E => rfl) w (fun v76 τ74 F75 w => ?_)
        refine ab_fin.br (c := v76 = 0) (i := .ifCond .eq 8) (off := 8) (t := 486) (pc' := 481) (r := []) (by decide +kernel) rfl (by decide +kernel) rfl (fun q => ?_) (fun q => ?_)
        · replace w := w.1 q
          refine ab_fin.s1 (i := .aconst_null) (k := 1) (pc' := 487) (st' := [.null]) (by decide +kernel) rfl rfl ?_
          exact ab_fin.q_ret (i := .areturn) (k := 1) (v := some (.null)) (by decide +kernel) rfl F75 w
        · replace w := w.2 q
          refine ab_fin.s8 (i := .ldc 159) (k := 2) (pc' := 483) (st' := [.retAddr 166]) (by decide +kernel) rfl rfl rfl rfl ?_
          refine ab_fin.s3 (i := .goto 4) (k := 3) (t := 487) (st' := [.retAddr 166]) (by decide +kernel) (ab_gto (by decide +kernel)) ?_
          exact ab_fin.q_ret (i := .areturn) (k := 1) (v := some (.retAddr 166)) (by decide +kernel) rfl F75 w
      · replace w := w.2 q
        refine ab_fin.s8 (i := .ldc 157) (k := 2) (pc' := 469) (st' := [.retAddr 164]) (by decide +kernel) rfl rfl rfl rfl ?_
        refine ab_fin.s3 (i := .goto 18) (k := 3) (t := 487) (st' := [.retAddr 164]) (by decide +kernel) (ab_gto (by decide +kernel)) ?_
        exact ab_fin.q_ret (i := .areturn) (k := 1) (v := some (.retAddr 164)) (by decide +kernel) rfl F72 w
    · replace w := w.2 q
      refine ab_fin.s8 (i := .ldc 155) (k := 2) (pc' := 455) (st' := [.retAddr 162]) (by decide +kernel) rfl rfl rfl rfl ?_
      refine ab_fin.s3 (i := .goto 32) (k := 3) (t := 487) (st' := [.retAddr 162]) (by decide +kernel) (ab_gto (by decide +kernel)) ?_
      exact ab_fin.q_ret (i := .areturn) (k := 1) (v := some (.retAddr 162)) (by decide +kernel) rfl F69 w
  by_cases q11 : (σ.i 37 ((σ.i 0 18).toNatClampNeg)) = 111
  · refine ab_fin.s3 (i := .tableswitch 599 97 119 #[107, 165, 223, 239, 255, 285, 599, 599, 301, 599, 345, 361, 419, 435, 479, 599, 599, 599, 509, 539, 599, 599, 569]) (k := 107) (t := 488) (st' := []) (by decide +kernel) (by rw [q11]; exact ab_swI (off := 479) (by decide +kernel) (by decide +kernel) (by decide +kernel)) ?_
    replace w := w.2.2.2.2.2.2.2.2.2.2.2.1 q11
    refine ab_fin.s2 (i := .aload_n 0) (k := 1) (pc' := 489) (lv' := [(0, .ref 0)]) (st' := [.ref 0]) (by decide +kernel) rfl rfl ?_
    refine ab_fin.s8 (i := .ldc 161) (k := 2) (pc' := 491) (st' := [.retAddr 168, .ref 0]) (by decide +kernel) rfl rfl rfl rfl ?_
    refine ab_fin.q_yI (i := .invokevirtual 110) (k := 3) (y := 5900) (As := [.ref 0, .retAddr 168]) (rest := []) (M' := (mX23_isHere, [])) (lv2 := [(0, .ref 0), (1, .retAddr 168)]) (pc' := 494) (X := K) (by decide +kernel) (ab_cv rfl rfl (conc_get (σ := σ) (F.s s0_0)) ⟨(Nat.le_of_ble_eq_true rfl), (Nat.le_of_ble_eq_true rfl)⟩ rfl) rfl (Nat.le_of_ble_eq_true rfl) rfl rfl (hY_no fun E => rfl) w (fun v79 τ77 F78 w => ?_)
    refine ab_fin.br (c := v79 = 0) (i := .ifCond .eq 8) (off := 8) (t := 502) (pc' := 497) (r := []) (by decide +kernel) rfl (by decide +kernel) rfl (fun q => ?_) (fun q => ?_)
    · replace w := w.1 q
      refine ab_fin.s2 (i := .aload_n 0) (k := 1) (pc' := 503) (lv' := [(0, .ref 0)]) (st' := [.ref 0]) (by decide +kernel) rfl rfl ?_
      refine ab_fin.s8 (i := .ldc 163) (k := 2) (pc' := 505) (st' := [.retAddr 170, .ref 0]) (by decide +kernel) rfl rfl rfl rfl ?_
      refine ab_fin.q_yI (i := .invokevirtual 110) (k := 3) (y := 5900) (As := [.ref 0, .retAddr 170]) (rest := []) (M' := (mX23_isHere, [])) (lv2 := [(0, .ref 0), (1, .retAddr 170)]) (pc' := 508) (X := K) (by decide +kernel) (ab_cv rfl rfl (conc_get (σ := τ77) (F78.s s0_0)) ⟨(Nat.le_of_ble_eq_true rfl), (Nat.le_of_ble_eq_true rfl)⟩ rfl) rfl (Nat.le_of_ble_eq_true rfl) rfl rfl (hY_no fun E => rfl) w (fun v82 τ80 F81 w => ?_)
      refine ab_fin.br (c := v82 = 0) (i := .ifCond .eq 8) (off := 8) (t := 516) (pc' := 511) (r := []) (by decide +kernel) rfl (by decide +kernel) rfl (fun q => ?_) (fun q => ?_)
      · replace w := w.1 q
        refine ab_fin.s1 (i := .aconst_null) (k := 1) (pc' := 517) (st' := [.null]) (by decide +kernel) rfl rfl ?_
        exact ab_fin.q_ret (i := .areturn) (k := 1) (v := some (.null)) (by decide +kernel) rfl F81 w
      · replace w := w.2 q
        refine ab_fin.s8 (i := .ldc 163) (k := 2) (pc' := 513) (st' := [.retAddr 170]) (by decide +kernel) rfl rfl rfl rfl ?_
        refine ab_fin.s3 (i := .goto 4) (k := 3) (t := 517) (st' := [.retAddr 170]) (by decide +kernel) (ab_gto (by decide +kernel)) ?_
        exact ab_fin.q_ret (i := .areturn) (k := 1) (v := some (.retAddr 170)) (by decide +kernel) rfl F81 w
    · replace w := w.2 q
      refine ab_fin.s8 (i := .ldc 161) (k := 2) (pc' := 499) (st' := [.retAddr 168]) (by decide +kernel) rfl rfl rfl rfl ?_
      refine ab_fin.s3 (i := .goto 18) (k := 3) (t := 517) (st' := [.retAddr 168]) (by decide +kernel) (ab_gto (by decide +kernel)) ?_
      exact ab_fin.q_ret (i := .areturn) (k := 1) (v := some (.retAddr 168)) (by decide +kernel) rfl F78 w
  by_cases q12 : (σ.i 37 ((σ.i 0 18).toNatClampNeg)) = 115
  · refine ab_fin.s3 (i := .tableswitch 599 97 119 #[107, 165, 223, 239, 255, 285, 599, 599, 301, 599, 345, 361, 419, 435, 479, 599, 599, 599, 509, 539, 599, 599, 569]) (k := 107) (t := 518) (st' := []) (by decide +kernel) (by rw [q12]; exact ab_swI (off := 509) (by decide +kernel) (by decide +kernel) (by decide +kernel)) ?_
    replace w := w.2.2.2.2.2.2.2.2.2.2.2.2.1 q12
    refine ab_fin.s2 (i := .aload_n 0) (k := 1) (pc' := 519) (lv' := [(0, .ref 0)]) (st' := [.ref 0]) (by decide +kernel) rfl rfl ?_
    refine ab_fin.s8 (i := .ldc 165) (k := 2) (pc' := 521) (st' := [.retAddr 172, .ref 0]) (by decide +kernel) rfl rfl rfl rfl ?_
    refine ab_fin.q_yI (i := .invokevirtual 110) (k := 3) (y := 5900) (As := [.ref 0, .retAddr 172]) (rest := []) (M' := (mX23_isHere, [])) (lv2 := [(0, .ref 0), (1, .retAddr 172)]) (pc' := 524) (X := K) (by decide +kernel) (ab_cv rfl rfl (conc_get (σ := σ) (F.s s0_0)) ⟨(Nat.le_of_ble_eq_true rfl), (Nat.le_of_ble_eq_true rfl)⟩ rfl) rfl (Nat.le_of_ble_eq_true rfl) rfl rfl (hY_no fun E => rfl) w (fun v85 τ83 F84 w => ?_)
    refine ab_fin.br (c := v85 = 0) (i := .ifCond .eq 8) (off := 8) (t := 532) (pc' := 527) (r := []) (by decide +kernel) rfl (by decide +kernel) rfl (fun q => ?_) (fun q => ?_)
    · replace w := w.1 q
      refine ab_fin.s2 (i := .aload_n 0) (k := 1) (pc' := 533) (lv' := [(0, .ref 0)]) (st' := [.ref 0]) (by decide +kernel) rfl rfl ?_
      refine ab_fin.s8 (i := .ldc 167) (k := 2) (pc' := 535) (st' := [.retAddr 174, .ref 0]) (by decide +kernel) rfl rfl rfl rfl ?_
      refine ab_fin.q_yI (i := .invokevirtual 110) (k := 3) (y := 5900) (As := [.ref 0, .retAddr 174]) (rest := []) (M' := (mX23_isHere, [])) (lv2 := [(0, .ref 0), (1, .retAddr 174)]) (pc' := 538) (X := K) (by decide +kernel) (ab_cv rfl rfl (conc_get (σ := τ83) (F84.s s0_0)) ⟨(Nat.le_of_ble_eq_true rfl), (Nat.le_of_ble_eq_true rfl)⟩ rfl) rfl (Nat.le_of_ble_eq_true rfl) rfl rfl (hY_no fun E => rfl) w (fun v88 τ86 F87 w => ?_)
      refine ab_fin.br (c := v88 = 0) (i := .ifCond .eq 8) (off := 8) (t := 546) (pc' := 541) (r := []) (by decide +kernel) rfl (by decide +kernel) rfl (fun q => ?_) (fun q => ?_)
      · replace w := w.1 q
        refine ab_fin.s1 (i := .aconst_null) (k := 1) (pc' := 547) (st' := [.null]) (by decide +kernel) rfl rfl ?_
        exact ab_fin.q_ret (i := .areturn) (k := 1) (v := some (.null)) (by decide +kernel) rfl F87 w
      · replace w := w.2 q
        refine ab_fin.s8 (i := .ldc 167) (k := 2) (pc' := 543) (st' := [.retAddr 174]) (by decide +kernel) rfl rfl rfl rfl ?_
        refine ab_fin.s3 (i := .goto 4) (k := 3) (t := 547) (st' := [.retAddr 174]) (by decide +kernel) (ab_gto (by decide +kernel)) ?_
        exact ab_fin.q_ret (i := .areturn) (k := 1) (v := some (.retAddr 174)) (by decide +kernel) rfl F87 w
    · replace w := w.2 q
      refine ab_fin.s8 (i := .ldc 165) (k := 2) (pc' := 529) (st' := [.retAddr 172]) (by decide +kernel) rfl rfl rfl rfl ?_
      refine ab_fin.s3 (i := .goto 18) (k := 3) (t := 547) (st' := [.retAddr 172]) (by decide +kernel) (ab_gto (by decide +kernel)) ?_
      exact ab_fin.q_ret (i := .areturn) (k := 1) (v := some (.retAddr 172)) (by decide +kernel) rfl F84 w
  by_cases q13 : (σ.i 37 ((σ.i 0 18).toNatClampNeg)) = 116
  · refine ab_fin.s3 (i := .tableswitch 599 97 119 #[107, 165, 223, 239, 255, 285, 599, 599, 301, 599, 345, 361, 419, 435, 479, 599, 599, 599, 509, 539, 599, 599, 569]) (k := 107) (t := 548) (st' := []) (by decide +kernel) (by rw [q13]; exact ab_swI (off := 539) (by decide +kernel) (by decide +kernel) (by decide +kernel)) ?_
    replace w := w.2.2.2.2.2.2.2.2.2.2.2.2.2.1 q13
    refine ab_fin.s2 (i := .aload_n 0) (k := 1) (pc' := 549) (lv' := [(0, .ref 0)]) (st' := [.ref 0]) (by decide +kernel) rfl rfl ?_
    refine ab_fin.s8 (i := .ldc 169) (k := 2) (pc' := 551) (st' := [.retAddr 176, .ref 0]) (by decide +kernel) rfl rfl rfl rfl ?_
    refine ab_fin.q_yI (i := .invokevirtual 110) (k := 3) (y := 5900) (As := [.ref 0, .retAddr 176]) (rest := []) (M' := (mX23_isHere, [])) (lv2 := [(0, .ref 0), (1, .retAddr 176)]) (pc' := 554) (X := K) (by decide +kernel) (ab_cv rfl rfl (conc_get (σ := σ) (F.s s0_0)) ⟨(Nat.le_of_ble_eq_true rfl), (Nat.le_of_ble_eq_true rfl)⟩ rfl) rfl (Nat.le_of_ble_eq_true rfl) rfl rfl (hY_no fun E => rfl) w (fun v91 τ89 F90 w => ?_)
    refine ab_fin.br (c := v91 = 0) (i := .ifCond .eq 8) (off := 8) (t := 562) (pc' := 557) (r := []) (by decide +kernel) rfl (by decide +kernel) rfl (fun q => ?_) (fun q => ?_)
    · replace w := w.1 q
      refine ab_fin.s2 (i := .aload_n 0) (k := 1) (pc' := 563) (lv' := [(0, .ref 0)]) (st' := [.ref 0]) (by decide +kernel) rfl rfl ?_
      refine ab_fin.s8 (i := .ldc 171) (k := 2) (pc' := 565) (st' := [.retAddr 178, .ref 0]) (by decide +kernel) rfl rfl rfl rfl ?_
      refine ab_fin.q_yI (i := .invokevirtual 110) (k := 3) (y := 5900) (As := [.ref 0, .retAddr 178]) (rest := []) (M' := (mX23_isHere, [])) (lv2 := [(0, .ref 0), (1, .retAddr 178)]) (pc' := 568) (X := K) (by decide +kernel) (ab_cv rfl rfl (conc_get (σ := τ89) (F90.s s0_0)) ⟨(Nat.le_of_ble_eq_true rfl), (Nat.le_of_ble_eq_true rfl)⟩ rfl) rfl (Nat.le_of_ble_eq_true rfl) rfl rfl (hY_no fun E => rfl) w (fun v94 τ92 F93 w => ?_)
      refine ab_fin.br (c := v94 = 0) (i := .ifCond .eq 8) (off := 8) (t := 576) (pc' := 571) (r := []) (by decide +kernel) rfl (by decide +kernel) rfl (fun q => ?_) (fun q => ?_)
      · replace w := w.1 q
        refine ab_fin.s1 (i := .aconst_null) (k := 1) (pc' := 577) (st' := [.null]) (by decide +kernel) rfl rfl ?_
        exact ab_fin.q_ret (i := .areturn) (k := 1) (v := some (.null)) (by decide +kernel) rfl F93 w
      · replace w := w.2 q
        refine ab_fin.s8 (i := .ldc 171) (k := 2) (pc' := 573) (st' := [.retAddr 178]) (by decide +kernel) rfl rfl rfl rfl ?_
        refine ab_fin.s3 (i := .goto 4) (k := 3) (t := 577) (st' := [.retAddr 178]) (by decide +kernel) (ab_gto (by decide +kernel)) ?_
        exact ab_fin.q_ret (i := .areturn) (k := 1) (v := some (.retAddr 178)) (by decide +kernel) rfl F93 w
    · replace w := w.2 q
      refine ab_fin.s8 (i := .ldc 169) (k := 2) (pc' := 559) (st' := [.retAddr 176]) (by decide +kernel) rfl rfl rfl rfl ?_
      refine ab_fin.s3 (i := .goto 18) (k := 3) (t := 577) (st' := [.retAddr 176]) (by decide +kernel) (ab_gto (by decide +kernel)) ?_
      exact ab_fin.q_ret (i := .areturn) (k := 1) (v := some (.retAddr 176)) (by decide +kernel) rfl F90 w
  by_cases q14 : (σ.i 37 ((σ.i 0 18).toNatClampNeg)) = 119
  · refine ab_fin.s3 (i := .tableswitch 599 97 119 #[107, 165, 223, 239, 255, 285, 599, 599, 301, 599, 345, 361, 419, 435, 479, 599, 599, 599, 509, 539, 599, 599, 569]) (k := 107) (t := 578) (st' := []) (by decide +kernel) (by rw [q14]; exact ab_swI (off := 569) (by decide +kernel) (by decide +kernel) (by decide +kernel)) ?_
    replace w := w.2.2.2.2.2.2.2.2.2.2.2.2.2.2.1 q14
    refine ab_fin.s2 (i := .aload_n 0) (k := 1) (pc' := 579) (lv' := [(0, .ref 0)]) (st' := [.ref 0]) (by decide +kernel) rfl rfl ?_
    refine ab_fin.s8 (i := .ldc 173) (k := 2) (pc' := 581) (st' := [.retAddr 180, .ref 0]) (by decide +kernel) rfl rfl rfl rfl ?_
    refine ab_fin.q_yI (i := .invokevirtual 110) (k := 3) (y := 5900) (As := [.ref 0, .retAddr 180]) (rest := []) (M' := (mX23_isHere, [])) (lv2 := [(0, .ref 0), (1, .retAddr 180)]) (pc' := 584) (X := K) (by decide +kernel) (ab_cv rfl rfl (conc_get (σ := σ) (F.s s0_0)) ⟨(Nat.le_of_ble_eq_true rfl), (Nat.le_of_ble_eq_true rfl)⟩ rfl) rfl (Nat.le_of_ble_eq_true rfl) rfl rfl (hY_no fun E => rfl) w (fun v97 τ95 F96 w => ?_)
    refine ab_fin.br (c := v97 = 0) (i := .ifCond .eq 8) (off := 8) (t := 592) (pc' := 587) (r := []) (by decide +kernel) rfl (by decide +kernel) rfl (fun q => ?_) (fun q => ?_)
    · replace w := w.1 q
      refine ab_fin.s2 (i := .aload_n 0) (k := 1) (pc' := 593) (lv' := [(0, .ref 0)]) (st' := [.ref 0]) (by decide +kernel) rfl rfl ?_
      refine ab_fin.s8 (i := .ldc 175) (k := 2) (pc' := 595) (st' := [.retAddr 182, .ref 0]) (by decide +kernel) rfl rfl rfl rfl ?_
      refine ab_fin.q_yI (i := .invokevirtual 110) (k := 3) (y := 5900) (As := [.ref 0, .retAddr 182]) (rest := []) (M' := (mX23_isHere, [])) (lv2 := [(0, .ref 0), (1, .retAddr 182)]) (pc' := 598) (X := K) (by decide +kernel) (ab_cv rfl rfl (conc_get (σ := τ95) (F96.s s0_0)) ⟨(Nat.le_of_ble_eq_true rfl), (Nat.le_of_ble_eq_true rfl)⟩ rfl) rfl (Nat.le_of_ble_eq_true rfl) rfl rfl (hY_no fun E => rfl) w (fun v100 τ98 F99 w => ?_)
      refine ab_fin.br (c := v100 = 0) (i := .ifCond .eq 8) (off := 8) (t := 606) (pc' := 601) (r := []) (by decide +kernel) rfl (by decide +kernel) rfl (fun q => ?_) (fun q => ?_)
      · replace w := w.1 q
        refine ab_fin.s1 (i := .aconst_null) (k := 1) (pc' := 607) (st' := [.null]) (by decide +kernel) rfl rfl ?_
        exact ab_fin.q_ret (i := .areturn) (k := 1) (v := some (.null)) (by decide +kernel) rfl F99 w
      · replace w := w.2 q
        refine ab_fin.s8 (i := .ldc 175) (k := 2) (pc' := 603) (st' := [.retAddr 182]) (by decide +kernel) rfl rfl rfl rfl ?_
        refine ab_fin.s3 (i := .goto 4) (k := 3) (t := 607) (st' := [.retAddr 182]) (by decide +kernel) (ab_gto (by decide +kernel)) ?_
        exact ab_fin.q_ret (i := .areturn) (k := 1) (v := some (.retAddr 182)) (by decide +kernel) rfl F99 w
    · replace w := w.2 q
      refine ab_fin.s8 (i := .ldc 173) (k := 2) (pc' := 589) (st' := [.retAddr 180]) (by decide +kernel) rfl rfl rfl rfl ?_
      refine ab_fin.s3 (i := .goto 18) (k := 3) (t := 607) (st' := [.retAddr 180]) (by decide +kernel) (ab_gto (by decide +kernel)) ?_
      exact ab_fin.q_ret (i := .areturn) (k := 1) (v := some (.retAddr 180)) (by decide +kernel) rfl F96 w
  have hsw : ab_s3 (.tableswitch 599 97 119 #[107, 165, 223, 239, 255, 285, 599, 599, 301, 599, 345, 361, 419, 435, 479, 599, 599, 599, 509, 539, 599, 599, 569]) 107 9 (.int (σ.i 37 ((σ.i 0 18).toNatClampNeg)) :: []) = some (608, []) := by
    clear w
    by_cases g0 : (σ.i 37 ((σ.i 0 18).toNatClampNeg)) = 103
    · rw [g0]; exact ab_swI (off := 599) (by decide +kernel) (by decide +kernel) (by decide +kernel)
    by_cases g1 : (σ.i 37 ((σ.i 0 18).toNatClampNeg)) = 104
    · rw [g1]; exact ab_swI (off := 599) (by decide +kernel) (by decide +kernel) (by decide +kernel)
    by_cases g2 : (σ.i 37 ((σ.i 0 18).toNatClampNeg)) = 106
    · rw [g2]; exact ab_swI (off := 599) (by decide +kernel) (by decide +kernel) (by decide +kernel)
    by_cases g3 : (σ.i 37 ((σ.i 0 18).toNatClampNeg)) = 112
    · rw [g3]; exact ab_swI (off := 599) (by decide +kernel) (by decide +kernel) (by decide +kernel)
    by_cases g4 : (σ.i 37 ((σ.i 0 18).toNatClampNeg)) = 113
    · rw [g4]; exact ab_swI (off := 599) (by decide +kernel) (by decide +kernel) (by decide +kernel)
    by_cases g5 : (σ.i 37 ((σ.i 0 18).toNatClampNeg)) = 114
    · rw [g5]; exact ab_swI (off := 599) (by decide +kernel) (by decide +kernel) (by decide +kernel)
    by_cases g6 : (σ.i 37 ((σ.i 0 18).toNatClampNeg)) = 117
    · rw [g6]; exact ab_swI (off := 599) (by decide +kernel) (by decide +kernel) (by decide +kernel)
    by_cases g7 : (σ.i 37 ((σ.i 0 18).toNatClampNeg)) = 118
    · rw [g7]; exact ab_swI (off := 599) (by decide +kernel) (by decide +kernel) (by decide +kernel)
    have qd : Int32.toInt (σ.i 37 ((σ.i 0 18).toNatClampNeg)) < 97 ∨ 119 < Int32.toInt (σ.i 37 ((σ.i 0 18).toNatClampNeg)) := by
      simp only [← Int32.toInt_inj, show (97 : Int32).toInt = 97 from rfl, show (98 : Int32).toInt = 98 from rfl, show (99 : Int32).toInt = 99 from rfl, show (100 : Int32).toInt = 100 from rfl, show (101 : Int32).toInt = 101 from rfl, show (102 : Int32).toInt = 102 from rfl, show (105 : Int32).toInt = 105 from rfl, show (107 : Int32).toInt = 107 from rfl, show (108 : Int32).toInt = 108 from rfl, show (109 : Int32).toInt = 109 from rfl, show (110 : Int32).toInt = 110 from rfl, show (111 : Int32).toInt = 111 from rfl, show (115 : Int32).toInt = 115 from rfl, show (116 : Int32).toInt = 116 from rfl, show (119 : Int32).toInt = 119 from rfl, show (103 : Int32).toInt = 103 from rfl, show (104 : Int32).toInt = 104 from rfl, show (106 : Int32).toInt = 106 from rfl, show (112 : Int32).toInt = 112 from rfl, show (113 : Int32).toInt = 113 from rfl, show (114 : Int32).toInt = 114 from rfl, show (117 : Int32).toInt = 117 from rfl, show (118 : Int32).toInt = 118 from rfl] at q0 q1 q2 q3 q4 q5 q6 q7 q8 q9 q10 q11 q12 q13 q14 g0 g1 g2 g3 g4 g5 g6 g7
      omega
    exact ab_swD qd (by decide +kernel)
  refine ab_fin.s3 (i := .tableswitch 599 97 119 #[107, 165, 223, 239, 255, 285, 599, 599, 301, 599, 345, 361, 419, 435, 479, 599, 599, 599, 509, 539, 599, 599, 569]) (k := 107) (t := 608) (st' := []) (by decide +kernel) hsw ?_
  replace w := w.2.2.2.2.2.2.2.2.2.2.2.2.2.2.2 q0 q1 q2 q3 q4 q5 q6 q7 q8 q9 q10 q11 q12 q13 q14
  refine ab_fin.s1 (i := .aconst_null) (k := 1) (pc' := 609) (st' := [.null]) (by decide +kernel) rfl rfl ?_
  exact ab_fin.q_ret (i := .areturn) (k := 1) (v := some (.null)) (by decide +kernel) rfl F w

/-! THE REFERENCE, PIECE BY PIECE (printed by sgen.py), 2 -/
theorem S_X23_next_0 {Z : zT} {d : Nat} {σ : Sg}  {K : kS} (F : FX ΦR σ.sh σ.r) (w : ((σ.i 0 15) ≤ (σ.i 0 16) → B_X23_next_102 Z (d + 1) σ  K) ∧ (¬ (σ.i 0 15) ≤ (σ.i 0 16) → ib (σ.i 0 16) 8192 ∧ ((¬ (σ.i 37 ((σ.i 0 16).toNatClampNeg)) = 36 → ((σ.i 37 ((σ.i 0 16).toNatClampNeg)) = 9 → B_X23_next_0 Z (d + 1) (σ.wi 0 16 ((σ.i 0 16) + (1 : Int32)))  K) ∧ (¬ (σ.i 37 ((σ.i 0 16).toNatClampNeg)) = 9 → ((σ.i 37 ((σ.i 0 16).toNatClampNeg)) = 10 → B_X23_next_0 Z (d + 1) (σ.wi 0 16 ((σ.i 0 16) + (1 : Int32)))  K) ∧ (¬ (σ.i 37 ((σ.i 0 16).toNatClampNeg)) = 10 → ((σ.i 37 ((σ.i 0 16).toNatClampNeg)) = 13 → B_X23_next_0 Z (d + 1) (σ.wi 0 16 ((σ.i 0 16) + (1 : Int32)))  K) ∧ (¬ (σ.i 37 ((σ.i 0 16).toNatClampNeg)) = 13 → (¬ (σ.i 37 ((σ.i 0 16).toNatClampNeg)) = 32 → B_X23_next_102 Z (d + 1) σ  K) ∧ ((σ.i 37 ((σ.i 0 16).toNatClampNeg)) = 32 → B_X23_next_0 Z (d + 1) (σ.wi 0 16 ((σ.i 0 16) + (1 : Int32)))  K))))) ∧ ((σ.i 37 ((σ.i 0 16).toNatClampNeg)) = 36 → B_X23_next_27 Z (d + 1) σ  K)))) : B_X23_next_0 Z (d + 1) σ  K := by
  unfold B_X23_next_0
  refine ab_fin.s2 (i := .aload_n 0) (k := 1) (pc' := 1) (lv' := [(0, .ref 0)]) (st' := [.ref 0]) (by decide +kernel) rfl rfl ?_
  refine ab_fin.q_rI (x := (σ.i 0 16)) (ix := 177) (ci := 24) (k := 16) (pc' := 4) (by decide +kernel) rfl (c_rI (F.s s0_0) rfl) rfl ?_
  refine ab_fin.s2 (i := .aload_n 0) (k := 1) (pc' := 5) (lv' := [(0, .ref 0)]) (st' := [.ref 0, .int (σ.i 0 16)]) (by decide +kernel) rfl rfl ?_
  refine ab_fin.q_rI (x := (σ.i 0 15)) (ix := 180) (ci := 24) (k := 15) (pc' := 8) (by decide +kernel) rfl (c_rI (F.s s0_0) rfl) rfl ?_
  refine ab_fin.br (c := (σ.i 0 15) ≤ (σ.i 0 16)) (i := .if_icmp .ge 94) (off := 94) (t := 102) (pc' := 11) (r := []) (by decide +kernel) rfl (by decide +kernel) rfl (fun q => ?_) (fun q => ?_)
  · replace w := w.1 q
    exact ab_fin.lv ⟨(List.forall_mem_cons.mpr ⟨(List.Mem.head _), (fun _ h => absurd h List.not_mem_nil)⟩), (show ([0] : List Nat).Nodup from by decide)⟩ w
  · replace w := w.2 q
    refine ab_fin.s2 (i := .aload_n 0) (k := 1) (pc' := 12) (lv' := [(0, .ref 0)]) (st' := [.ref 0]) (by decide +kernel) rfl rfl ?_
    refine ab_fin.q_rA (b := 37) (ix := 1) (ci := 24) (k := 14) (pc' := 15) (by decide +kernel) rfl (c_rA (F.s s0_0) rfl (rM_14 F)) rfl ?_
    refine ab_fin.s2 (i := .aload_n 0) (k := 1) (pc' := 16) (lv' := [(0, .ref 0)]) (st' := [.ref 0, .ref 37]) (by decide +kernel) rfl rfl ?_
    refine ab_fin.q_rI (x := (σ.i 0 16)) (ix := 177) (ci := 24) (k := 16) (pc' := 19) (by decide +kernel) rfl (c_rI (F.s s0_0) rfl) rfl ?_
    obtain ⟨e1, w⟩ := w
    refine ab_fin.q_eB (x := (σ.i 37 ((σ.i 0 16).toNatClampNeg))) (pc' := 20) (by decide +kernel) (c_eB2' (F.s s0_37) e1 rfl) rfl ?_
    refine ab_fin.s2 (i := .istore_n 1) (k := 1) (pc' := 21) (lv' := [(1, .int (σ.i 37 ((σ.i 0 16).toNatClampNeg))), (0, .ref 0)]) (st' := []) (by decide +kernel) rfl rfl ?_
    refine ab_fin.s2 (i := .iload_n 1) (k := 1) (pc' := 22) (lv' := [(1, .int (σ.i 37 ((σ.i 0 16).toNatClampNeg))), (0, .ref 0)]) (st' := [.int (σ.i 37 ((σ.i 0 16).toNatClampNeg))]) (by decide +kernel) rfl rfl ?_
    refine ab_fin.s1i (i := .bipush 36) (k := 2) (pc' := 24) (n := 36) (by decide +kernel) rfl (by decide +kernel) rfl ?_
    refine ab_fin.br (c := ¬ (σ.i 37 ((σ.i 0 16).toNatClampNeg)) = 36) (i := .if_icmp .ne 41) (off := 41) (t := 65) (pc' := 27) (r := []) (by decide +kernel) rfl (by decide +kernel) rfl (fun q => ?_) (fun q => ?_)
    · replace w := w.1 q
      refine ab_fin.s2 (i := .iload_n 1) (k := 1) (pc' := 66) (lv' := [(1, .int (σ.i 37 ((σ.i 0 16).toNatClampNeg))), (0, .ref 0)]) (st' := [.int (σ.i 37 ((σ.i 0 16).toNatClampNeg))]) (by decide +kernel) rfl rfl ?_
      refine ab_fin.s1i (i := .bipush 9) (k := 2) (pc' := 68) (n := 9) (by decide +kernel) rfl (by decide +kernel) rfl ?_
      refine ab_fin.br (c := (σ.i 37 ((σ.i 0 16).toNatClampNeg)) = 9) (i := .if_icmp .eq 21) (off := 21) (t := 89) (pc' := 71) (r := []) (by decide +kernel) rfl (by decide +kernel) rfl (fun q => ?_) (fun q => ?_)
      · replace w := w.1 q
        refine ab_fin.s2 (i := .aload_n 0) (k := 1) (pc' := 90) (lv' := [(1, .int (σ.i 37 ((σ.i 0 16).toNatClampNeg))), (0, .ref 0)]) (st' := [.ref 0]) (by decide +kernel) rfl rfl ?_
        refine ab_fin.s1 (i := .dup) (k := 1) (pc' := 91) (st' := [.ref 0, .ref 0]) (by decide +kernel) rfl rfl ?_
        refine ab_fin.q_rI (x := (σ.i 0 16)) (ix := 177) (ci := 24) (k := 16) (pc' := 94) (by decide +kernel) rfl (c_rI (F.s s0_0) rfl) rfl ?_
        refine ab_fin.s1i (i := .iconst 1) (k := 1) (pc' := 95) (n := 1) (by decide +kernel) rfl (by decide +kernel) rfl ?_
        refine ab_fin.s1 (i := .iadd) (k := 1) (pc' := 96) (st' := [.int ((σ.i 0 16) + (1 : Int32)), .ref 0]) (by decide +kernel) rfl rfl ?_
        refine ab_fin.q_pF (ix := 177) (ci := 24) (k := 16) (h1 := conc (σ.wi 0 16 ((σ.i 0 16) + (1 : Int32)))) (pc' := 99) (by decide +kernel) rfl (c_pI (v := ((σ.i 0 16) + (1 : Int32))) (F.s s0_0) rfl) rfl rfl rfl ?_
        refine ab_fin.s3 (i := .goto (-99)) (k := 3) (t := 0) (st' := []) (by decide +kernel) (ab_gto (by decide +kernel)) ?_
        exact ab_fin.lv ⟨(List.forall_mem_cons.mpr ⟨(List.Mem.tail _ (List.Mem.head _)), (fun _ h => absurd h List.not_mem_nil)⟩), (show ([1, 0] : List Nat).Nodup from by decide)⟩ w
      · replace w := w.2 q
        refine ab_fin.s2 (i := .iload_n 1) (k := 1) (pc' := 72) (lv' := [(1, .int (σ.i 37 ((σ.i 0 16).toNatClampNeg))), (0, .ref 0)]) (st' := [.int (σ.i 37 ((σ.i 0 16).toNatClampNeg))]) (by decide +kernel) rfl rfl ?_
        refine ab_fin.s1i (i := .bipush 10) (k := 2) (pc' := 74) (n := 10) (by decide +kernel) rfl (by decide +kernel) rfl ?_
        refine ab_fin.br (c := (σ.i 37 ((σ.i 0 16).toNatClampNeg)) = 10) (i := .if_icmp .eq 15) (off := 15) (t := 89) (pc' := 77) (r := []) (by decide +kernel) rfl (by decide +kernel) rfl (fun q => ?_) (fun q => ?_)
        · replace w := w.1 q
          refine ab_fin.s2 (i := .aload_n 0) (k := 1) (pc' := 90) (lv' := [(1, .int (σ.i 37 ((σ.i 0 16).toNatClampNeg))), (0, .ref 0)]) (st' := [.ref 0]) (by decide +kernel) rfl rfl ?_
          refine ab_fin.s1 (i := .dup) (k := 1) (pc' := 91) (st' := [.ref 0, .ref 0]) (by decide +kernel) rfl rfl ?_
          refine ab_fin.q_rI (x := (σ.i 0 16)) (ix := 177) (ci := 24) (k := 16) (pc' := 94) (by decide +kernel) rfl (c_rI (F.s s0_0) rfl) rfl ?_
          refine ab_fin.s1i (i := .iconst 1) (k := 1) (pc' := 95) (n := 1) (by decide +kernel) rfl (by decide +kernel) rfl ?_
          refine ab_fin.s1 (i := .iadd) (k := 1) (pc' := 96) (st' := [.int ((σ.i 0 16) + (1 : Int32)), .ref 0]) (by decide +kernel) rfl rfl ?_
          refine ab_fin.q_pF (ix := 177) (ci := 24) (k := 16) (h1 := conc (σ.wi 0 16 ((σ.i 0 16) + (1 : Int32)))) (pc' := 99) (by decide +kernel) rfl (c_pI (v := ((σ.i 0 16) + (1 : Int32))) (F.s s0_0) rfl) rfl rfl rfl ?_
          refine ab_fin.s3 (i := .goto (-99)) (k := 3) (t := 0) (st' := []) (by decide +kernel) (ab_gto (by decide +kernel)) ?_
          exact ab_fin.lv ⟨(List.forall_mem_cons.mpr ⟨(List.Mem.tail _ (List.Mem.head _)), (fun _ h => absurd h List.not_mem_nil)⟩), (show ([1, 0] : List Nat).Nodup from by decide)⟩ w
        · replace w := w.2 q
          refine ab_fin.s2 (i := .iload_n 1) (k := 1) (pc' := 78) (lv' := [(1, .int (σ.i 37 ((σ.i 0 16).toNatClampNeg))), (0, .ref 0)]) (st' := [.int (σ.i 37 ((σ.i 0 16).toNatClampNeg))]) (by decide +kernel) rfl rfl ?_
          refine ab_fin.s1i (i := .bipush 13) (k := 2) (pc' := 80) (n := 13) (by decide +kernel) rfl (by decide +kernel) rfl ?_
          refine ab_fin.br (c := (σ.i 37 ((σ.i 0 16).toNatClampNeg)) = 13) (i := .if_icmp .eq 9) (off := 9) (t := 89) (pc' := 83) (r := []) (by decide +kernel) rfl (by decide +kernel) rfl (fun q => ?_) (fun q => ?_)
          · replace w := w.1 q
            refine ab_fin.s2 (i := .aload_n 0) (k := 1) (pc' := 90) (lv' := [(1, .int (σ.i 37 ((σ.i 0 16).toNatClampNeg))), (0, .ref 0)]) (st' := [.ref 0]) (by decide +kernel) rfl rfl ?_
            refine ab_fin.s1 (i := .dup) (k := 1) (pc' := 91) (st' := [.ref 0, .ref 0]) (by decide +kernel) rfl rfl ?_
            refine ab_fin.q_rI (x := (σ.i 0 16)) (ix := 177) (ci := 24) (k := 16) (pc' := 94) (by decide +kernel) rfl (c_rI (F.s s0_0) rfl) rfl ?_
            refine ab_fin.s1i (i := .iconst 1) (k := 1) (pc' := 95) (n := 1) (by decide +kernel) rfl (by decide +kernel) rfl ?_
            refine ab_fin.s1 (i := .iadd) (k := 1) (pc' := 96) (st' := [.int ((σ.i 0 16) + (1 : Int32)), .ref 0]) (by decide +kernel) rfl rfl ?_
            refine ab_fin.q_pF (ix := 177) (ci := 24) (k := 16) (h1 := conc (σ.wi 0 16 ((σ.i 0 16) + (1 : Int32)))) (pc' := 99) (by decide +kernel) rfl (c_pI (v := ((σ.i 0 16) + (1 : Int32))) (F.s s0_0) rfl) rfl rfl rfl ?_
            refine ab_fin.s3 (i := .goto (-99)) (k := 3) (t := 0) (st' := []) (by decide +kernel) (ab_gto (by decide +kernel)) ?_
            exact ab_fin.lv ⟨(List.forall_mem_cons.mpr ⟨(List.Mem.tail _ (List.Mem.head _)), (fun _ h => absurd h List.not_mem_nil)⟩), (show ([1, 0] : List Nat).Nodup from by decide)⟩ w
          · replace w := w.2 q
            refine ab_fin.s2 (i := .iload_n 1) (k := 1) (pc' := 84) (lv' := [(1, .int (σ.i 37 ((σ.i 0 16).toNatClampNeg))), (0, .ref 0)]) (st' := [.int (σ.i 37 ((σ.i 0 16).toNatClampNeg))]) (by decide +kernel) rfl rfl ?_
            refine ab_fin.s1i (i := .bipush 32) (k := 2) (pc' := 86) (n := 32) (by decide +kernel) rfl (by decide +kernel) rfl ?_
            refine ab_fin.br (c := ¬ (σ.i 37 ((σ.i 0 16).toNatClampNeg)) = 32) (i := .if_icmp .ne 16) (off := 16) (t := 102) (pc' := 89) (r := []) (by decide +kernel) rfl (by decide +kernel) rfl (fun q => ?_) (fun q => ?_)
            · replace w := w.1 q
              exact ab_fin.lv ⟨(List.forall_mem_cons.mpr ⟨(List.Mem.tail _ (List.Mem.head _)), (fun _ h => absurd h List.not_mem_nil)⟩), (show ([1, 0] : List Nat).Nodup from by decide)⟩ w
            · replace w := w.2 (Decidable.of_not_not q)
              refine ab_fin.s2 (i := .aload_n 0) (k := 1) (pc' := 90) (lv' := [(1, .int (σ.i 37 ((σ.i 0 16).toNatClampNeg))), (0, .ref 0)]) (st' := [.ref 0]) (by decide +kernel) rfl rfl ?_
              refine ab_fin.s1 (i := .dup) (k := 1) (pc' := 91) (st' := [.ref 0, .ref 0]) (by decide +kernel) rfl rfl ?_
              refine ab_fin.q_rI (x := (σ.i 0 16)) (ix := 177) (ci := 24) (k := 16) (pc' := 94) (by decide +kernel) rfl (c_rI (F.s s0_0) rfl) rfl ?_
              refine ab_fin.s1i (i := .iconst 1) (k := 1) (pc' := 95) (n := 1) (by decide +kernel) rfl (by decide +kernel) rfl ?_
              refine ab_fin.s1 (i := .iadd) (k := 1) (pc' := 96) (st' := [.int ((σ.i 0 16) + (1 : Int32)), .ref 0]) (by decide +kernel) rfl rfl ?_
              refine ab_fin.q_pF (ix := 177) (ci := 24) (k := 16) (h1 := conc (σ.wi 0 16 ((σ.i 0 16) + (1 : Int32)))) (pc' := 99) (by decide +kernel) rfl (c_pI (v := ((σ.i 0 16) + (1 : Int32))) (F.s s0_0) rfl) rfl rfl rfl ?_
              refine ab_fin.s3 (i := .goto (-99)) (k := 3) (t := 0) (st' := []) (by decide +kernel) (ab_gto (by decide +kernel)) ?_
              exact ab_fin.lv ⟨(List.forall_mem_cons.mpr ⟨(List.Mem.tail _ (List.Mem.head _)), (fun _ h => absurd h List.not_mem_nil)⟩), (show ([1, 0] : List Nat).Nodup from by decide)⟩ w
    · replace w := w.2 (Decidable.of_not_not q)
      exact ab_fin.lv ⟨(List.forall_mem_cons.mpr ⟨(List.Mem.tail _ (List.Mem.head _)), (fun _ h => absurd h List.not_mem_nil)⟩), (show ([1, 0] : List Nat).Nodup from by decide)⟩ w
theorem S_X23_next_27 {Z : zT} {d : Nat} {σ : Sg}  {K : kS} (F : FX ΦR σ.sh σ.r) (w : ((σ.i 0 15) ≤ (σ.i 0 16) → B_X23_next_0 Z (d + 1) σ  K) ∧ (¬ (σ.i 0 15) ≤ (σ.i 0 16) → ib (σ.i 0 16) 8192 ∧ (((σ.i 37 ((σ.i 0 16).toNatClampNeg)) = 10 → B_X23_next_0 Z (d + 1) σ  K) ∧ (¬ (σ.i 37 ((σ.i 0 16).toNatClampNeg)) = 10 → B_X23_next_27 Z (d + 1) (σ.wi 0 16 ((σ.i 0 16) + (1 : Int32)))  K)))) : B_X23_next_27 Z (d + 1) σ  K := by
  unfold B_X23_next_27
  refine ab_fin.s2 (i := .aload_n 0) (k := 1) (pc' := 28) (lv' := [(0, .ref 0)]) (st' := [.ref 0]) (by decide +kernel) rfl rfl ?_
  refine ab_fin.q_rI (x := (σ.i 0 16)) (ix := 177) (ci := 24) (k := 16) (pc' := 31) (by decide +kernel) rfl (c_rI (F.s s0_0) rfl) rfl ?_
  refine ab_fin.s2 (i := .aload_n 0) (k := 1) (pc' := 32) (lv' := [(0, .ref 0)]) (st' := [.ref 0, .int (σ.i 0 16)]) (by decide +kernel) rfl rfl ?_
  refine ab_fin.q_rI (x := (σ.i 0 15)) (ix := 180) (ci := 24) (k := 15) (pc' := 35) (by decide +kernel) rfl (c_rI (F.s s0_0) rfl) rfl ?_
  refine ab_fin.br (c := (σ.i 0 15) ≤ (σ.i 0 16)) (i := .if_icmp .ge 64) (off := 64) (t := 99) (pc' := 38) (r := []) (by decide +kernel) rfl (by decide +kernel) rfl (fun q => ?_) (fun q => ?_)
  · replace w := w.1 q
    refine ab_fin.s3 (i := .goto (-99)) (k := 3) (t := 0) (st' := []) (by decide +kernel) (ab_gto (by decide +kernel)) ?_
    exact ab_fin.lv ⟨(List.forall_mem_cons.mpr ⟨(List.Mem.head _), (fun _ h => absurd h List.not_mem_nil)⟩), (show ([0] : List Nat).Nodup from by decide)⟩ w
  · replace w := w.2 q
    refine ab_fin.s2 (i := .aload_n 0) (k := 1) (pc' := 39) (lv' := [(0, .ref 0)]) (st' := [.ref 0]) (by decide +kernel) rfl rfl ?_
    refine ab_fin.q_rA (b := 37) (ix := 1) (ci := 24) (k := 14) (pc' := 42) (by decide +kernel) rfl (c_rA (F.s s0_0) rfl (rM_14 F)) rfl ?_
    refine ab_fin.s2 (i := .aload_n 0) (k := 1) (pc' := 43) (lv' := [(0, .ref 0)]) (st' := [.ref 0, .ref 37]) (by decide +kernel) rfl rfl ?_
    refine ab_fin.q_rI (x := (σ.i 0 16)) (ix := 177) (ci := 24) (k := 16) (pc' := 46) (by decide +kernel) rfl (c_rI (F.s s0_0) rfl) rfl ?_
    obtain ⟨e1, w⟩ := w
    refine ab_fin.q_eB (x := (σ.i 37 ((σ.i 0 16).toNatClampNeg))) (pc' := 47) (by decide +kernel) (c_eB2' (F.s s0_37) e1 rfl) rfl ?_
    refine ab_fin.s1i (i := .bipush 10) (k := 2) (pc' := 49) (n := 10) (by decide +kernel) rfl (by decide +kernel) rfl ?_
    refine ab_fin.br (c := (σ.i 37 ((σ.i 0 16).toNatClampNeg)) = 10) (i := .if_icmp .eq 50) (off := 50) (t := 99) (pc' := 52) (r := []) (by decide +kernel) rfl (by decide +kernel) rfl (fun q => ?_) (fun q => ?_)
    · replace w := w.1 q
      refine ab_fin.s3 (i := .goto (-99)) (k := 3) (t := 0) (st' := []) (by decide +kernel) (ab_gto (by decide +kernel)) ?_
      exact ab_fin.lv ⟨(List.forall_mem_cons.mpr ⟨(List.Mem.head _), (fun _ h => absurd h List.not_mem_nil)⟩), (show ([0] : List Nat).Nodup from by decide)⟩ w
    · replace w := w.2 q
      refine ab_fin.s2 (i := .aload_n 0) (k := 1) (pc' := 53) (lv' := [(0, .ref 0)]) (st' := [.ref 0]) (by decide +kernel) rfl rfl ?_
      refine ab_fin.s1 (i := .dup) (k := 1) (pc' := 54) (st' := [.ref 0, .ref 0]) (by decide +kernel) rfl rfl ?_
      refine ab_fin.q_rI (x := (σ.i 0 16)) (ix := 177) (ci := 24) (k := 16) (pc' := 57) (by decide +kernel) rfl (c_rI (F.s s0_0) rfl) rfl ?_
      refine ab_fin.s1i (i := .iconst 1) (k := 1) (pc' := 58) (n := 1) (by decide +kernel) rfl (by decide +kernel) rfl ?_
      refine ab_fin.s1 (i := .iadd) (k := 1) (pc' := 59) (st' := [.int ((σ.i 0 16) + (1 : Int32)), .ref 0]) (by decide +kernel) rfl rfl ?_
      refine ab_fin.q_pF (ix := 177) (ci := 24) (k := 16) (h1 := conc (σ.wi 0 16 ((σ.i 0 16) + (1 : Int32)))) (pc' := 62) (by decide +kernel) rfl (c_pI (v := ((σ.i 0 16) + (1 : Int32))) (F.s s0_0) rfl) rfl rfl rfl ?_
      refine ab_fin.s3 (i := .goto (-35)) (k := 3) (t := 27) (st' := []) (by decide +kernel) (ab_gto (by decide +kernel)) ?_
      exact ab_fin.lv ⟨(List.forall_mem_cons.mpr ⟨(List.Mem.head _), (fun _ h => absurd h List.not_mem_nil)⟩), (show ([0] : List Nat).Nodup from by decide)⟩ w
theorem S_X23_next_102 {Z : zT} {d : Nat} {σ : Sg}  {K : kS} (F : FX ΦR σ.sh σ.r) (w : (¬ (σ.i 0 16) = (σ.i 0 15) → ib (σ.i 0 16) 8192 ∧ (B_X23_isLetter_0 Z d (σ.wi 0 18 (σ.i 0 16)) (σ.i 37 ((σ.i 0 16).toNatClampNeg)) (yI K fun v4 τ2 => (v4 = 0 → B_X23_isDigit_0 Z d τ2 (σ.i 37 ((σ.i 0 16).toNatClampNeg)) (yI K fun v7 τ5 => (v7 = 0 → ((σ.i 37 ((σ.i 0 16).toNatClampNeg)) = 61 → B_X23_next_366 Z (d + 1) τ5 (σ.i 37 ((σ.i 0 16).toNatClampNeg)) K) ∧ (¬ (σ.i 37 ((σ.i 0 16).toNatClampNeg)) = 61 → (¬ (σ.i 37 ((σ.i 0 16).toNatClampNeg)) = 60 → B_X23_next_399 Z (d + 1) τ5 (σ.i 37 ((σ.i 0 16).toNatClampNeg)) K) ∧ ((σ.i 37 ((σ.i 0 16).toNatClampNeg)) = 60 → B_X23_next_366 Z (d + 1) τ5 (σ.i 37 ((σ.i 0 16).toNatClampNeg)) K))) ∧ (¬ v7 = 0 → B_X23_next_262 Z (d + 1) τ5 0 K))) ∧ (¬ v4 = 0 → B_X23_next_144 Z (d + 1) τ2  K)))) ∧ ((σ.i 0 16) = (σ.i 0 15) → K (.inl none) ((σ.wi 0 18 (σ.i 0 16)).wi 0 17 (0 : Int32)))) : B_X23_next_102 Z (d + 1) σ  K := by
  unfold B_X23_next_102
  refine ab_fin.s2 (i := .aload_n 0) (k := 1) (pc' := 103) (lv' := [(0, .ref 0)]) (st' := [.ref 0]) (by decide +kernel) rfl rfl ?_
  refine ab_fin.s2 (i := .aload_n 0) (k := 1) (pc' := 104) (lv' := [(0, .ref 0)]) (st' := [.ref 0, .ref 0]) (by decide +kernel) rfl rfl ?_
  refine ab_fin.q_rI (x := (σ.i 0 16)) (ix := 177) (ci := 24) (k := 16) (pc' := 107) (by decide +kernel) rfl (c_rI (F.s s0_0) rfl) rfl ?_
  refine ab_fin.q_pF (ix := 106) (ci := 24) (k := 18) (h1 := conc (σ.wi 0 18 (σ.i 0 16))) (pc' := 110) (by decide +kernel) rfl (c_pI (v := (σ.i 0 16)) (F.s s0_0) rfl) rfl rfl rfl ?_
  refine ab_fin.s2 (i := .aload_n 0) (k := 1) (pc' := 111) (lv' := [(0, .ref 0)]) (st' := [.ref 0]) (by decide +kernel) rfl rfl ?_
  refine ab_fin.q_rI (x := (σ.i 0 16)) (ix := 177) (ci := 24) (k := 16) (pc' := 114) (by decide +kernel) rfl (c_rI (F.s s0_0) rfl) rfl ?_
  refine ab_fin.s2 (i := .aload_n 0) (k := 1) (pc' := 115) (lv' := [(0, .ref 0)]) (st' := [.ref 0, .int (σ.i 0 16)]) (by decide +kernel) rfl rfl ?_
  refine ab_fin.q_rI (x := (σ.i 0 15)) (ix := 180) (ci := 24) (k := 15) (pc' := 118) (by decide +kernel) rfl (c_rI (F.s s0_0) rfl) rfl ?_
  refine ab_fin.br (c := ¬ (σ.i 0 16) = (σ.i 0 15)) (i := .if_icmp .ne 9) (off := 9) (t := 127) (pc' := 121) (r := []) (by decide +kernel) rfl (by decide +kernel) rfl (fun q => ?_) (fun q => ?_)
  · replace w := w.1 q
    refine ab_fin.s2 (i := .aload_n 0) (k := 1) (pc' := 128) (lv' := [(0, .ref 0)]) (st' := [.ref 0]) (by decide +kernel) rfl rfl ?_
    refine ab_fin.q_rA (b := 37) (ix := 1) (ci := 24) (k := 14) (pc' := 131) (by decide +kernel) rfl (c_rA (F.s s0_0) rfl (rM_14 F)) rfl ?_
    refine ab_fin.s2 (i := .aload_n 0) (k := 1) (pc' := 132) (lv' := [(0, .ref 0)]) (st' := [.ref 0, .ref 37]) (by decide +kernel) rfl rfl ?_
    refine ab_fin.q_rI (x := (σ.i 0 16)) (ix := 177) (ci := 24) (k := 16) (pc' := 135) (by decide +kernel) rfl (c_rI (F.s s0_0) rfl) rfl ?_
    obtain ⟨e1, w⟩ := w
    refine ab_fin.q_eB (x := (σ.i 37 ((σ.i 0 16).toNatClampNeg))) (pc' := 136) (by decide +kernel) (c_eB2' (F.s s0_37) e1 rfl) rfl ?_
    refine ab_fin.s2 (i := .istore_n 1) (k := 1) (pc' := 137) (lv' := [(1, .int (σ.i 37 ((σ.i 0 16).toNatClampNeg))), (0, .ref 0)]) (st' := []) (by decide +kernel) rfl rfl ?_
    refine ab_fin.s2 (i := .iload_n 1) (k := 1) (pc' := 138) (lv' := [(1, .int (σ.i 37 ((σ.i 0 16).toNatClampNeg))), (0, .ref 0)]) (st' := [.int (σ.i 37 ((σ.i 0 16).toNatClampNeg))]) (by decide +kernel) rfl rfl ?_
    refine ab_fin.q_yI (i := .invokestatic 186) (k := 3) (y := 5898) (As := [.int (σ.i 37 ((σ.i 0 16).toNatClampNeg))]) (rest := []) (M' := (mX23_isLetter, [])) (lv2 := [(0, .int (σ.i 37 ((σ.i 0 16).toNatClampNeg)))]) (pc' := 141) (X := K) (by decide +kernel) (ab_cs rfl rfl ⟨(Nat.le_of_ble_eq_true rfl), (Nat.le_of_ble_eq_true rfl)⟩ rfl) rfl (Nat.le_of_ble_eq_true rfl) rfl rfl (hY_no fun E => rfl) w (fun v4 τ2 F3 w => ?_)
    refine ab_fin.br (c := v4 = 0) (i := .ifCond .eq 112) (off := 112) (t := 253) (pc' := 144) (r := []) (by decide +kernel) rfl (by decide +kernel) rfl (fun q => ?_) (fun q => ?_)
    · replace w := w.1 q
      refine ab_fin.s2 (i := .iload_n 1) (k := 1) (pc' := 254) (lv' := [(1, .int (σ.i 37 ((σ.i 0 16).toNatClampNeg))), (0, .ref 0)]) (st' := [.int (σ.i 37 ((σ.i 0 16).toNatClampNeg))]) (by decide +kernel) rfl rfl ?_
      refine ab_fin.q_yI (i := .invokestatic 190) (k := 3) (y := 5899) (As := [.int (σ.i 37 ((σ.i 0 16).toNatClampNeg))]) (rest := []) (M' := (mX23_isDigit, [])) (lv2 := [(0, .int (σ.i 37 ((σ.i 0 16).toNatClampNeg)))]) (pc' := 257) (X := K) (by decide +kernel) (ab_cs rfl rfl ⟨(Nat.le_of_ble_eq_true rfl), (Nat.le_of_ble_eq_true rfl)⟩ rfl) rfl (Nat.le_of_ble_eq_true rfl) rfl rfl (hY_no fun E => rfl) w (fun v7 τ5 F6 w => ?_)
      refine ab_fin.br (c := v7 = 0) (i := .ifCond .eq 97) (off := 97) (t := 354) (pc' := 260) (r := []) (by decide +kernel) rfl (by decide +kernel) rfl (fun q => ?_) (fun q => ?_)
      · replace w := w.1 q
        refine ab_fin.s2 (i := .iload_n 1) (k := 1) (pc' := 355) (lv' := [(1, .int (σ.i 37 ((σ.i 0 16).toNatClampNeg))), (0, .ref 0)]) (st' := [.int (σ.i 37 ((σ.i 0 16).toNatClampNeg))]) (by decide +kernel) rfl rfl ?_
        refine ab_fin.s1i (i := .bipush 61) (k := 2) (pc' := 357) (n := 61) (by decide +kernel) rfl (by decide +kernel) rfl ?_
        refine ab_fin.br (c := (σ.i 37 ((σ.i 0 16).toNatClampNeg)) = 61) (i := .if_icmp .eq 9) (off := 9) (t := 366) (pc' := 360) (r := []) (by decide +kernel) rfl (by decide +kernel) rfl (fun q => ?_) (fun q => ?_)
        · replace w := w.1 q
          exact ab_fin.lv ⟨(List.forall_mem_cons.mpr ⟨(List.Mem.tail _ (List.Mem.head _)), (List.forall_mem_cons.mpr ⟨(List.Mem.head _), (fun _ h => absurd h List.not_mem_nil)⟩)⟩), (show ([1, 0] : List Nat).Nodup from by decide)⟩ w
        · replace w := w.2 q
          refine ab_fin.s2 (i := .iload_n 1) (k := 1) (pc' := 361) (lv' := [(1, .int (σ.i 37 ((σ.i 0 16).toNatClampNeg))), (0, .ref 0)]) (st' := [.int (σ.i 37 ((σ.i 0 16).toNatClampNeg))]) (by decide +kernel) rfl rfl ?_
          refine ab_fin.s1i (i := .bipush 60) (k := 2) (pc' := 363) (n := 60) (by decide +kernel) rfl (by decide +kernel) rfl ?_
          refine ab_fin.br (c := ¬ (σ.i 37 ((σ.i 0 16).toNatClampNeg)) = 60) (i := .if_icmp .ne 36) (off := 36) (t := 399) (pc' := 366) (r := []) (by decide +kernel) rfl (by decide +kernel) rfl (fun q => ?_) (fun q => ?_)
          · replace w := w.1 q
            exact ab_fin.lv ⟨(List.forall_mem_cons.mpr ⟨(List.Mem.tail _ (List.Mem.head _)), (List.forall_mem_cons.mpr ⟨(List.Mem.head _), (fun _ h => absurd h List.not_mem_nil)⟩)⟩), (show ([1, 0] : List Nat).Nodup from by decide)⟩ w
          · replace w := w.2 (Decidable.of_not_not q)
            exact ab_fin.lv ⟨(List.forall_mem_cons.mpr ⟨(List.Mem.tail _ (List.Mem.head _)), (List.forall_mem_cons.mpr ⟨(List.Mem.head _), (fun _ h => absurd h List.not_mem_nil)⟩)⟩), (show ([1, 0] : List Nat).Nodup from by decide)⟩ w
      · replace w := w.2 q
        refine ab_fin.s1l (i := .lconst 0) (k := 1) (pc' := 261) (n := 0) (by decide +kernel) rfl (by decide +kernel) rfl ?_
        refine ab_fin.s2 (i := .lstore_n 2) (k := 1) (pc' := 262) (lv' := [(2, .long 0), (1, .int (σ.i 37 ((σ.i 0 16).toNatClampNeg))), (0, .ref 0)]) (st' := []) (by decide +kernel) rfl rfl ?_
        exact ab_fin.lv ⟨(List.forall_mem_cons.mpr ⟨(List.Mem.tail _ (List.Mem.tail _ (List.Mem.head _))), (List.forall_mem_cons.mpr ⟨(List.Mem.head _), (fun _ h => absurd h List.not_mem_nil)⟩)⟩), (show ([2, 1, 0] : List Nat).Nodup from by decide)⟩ w
    · replace w := w.2 q
      exact ab_fin.lv ⟨(List.forall_mem_cons.mpr ⟨(List.Mem.tail _ (List.Mem.head _)), (fun _ h => absurd h List.not_mem_nil)⟩), (show ([1, 0] : List Nat).Nodup from by decide)⟩ w
  · replace w := w.2 (Decidable.of_not_not q)
    refine ab_fin.s2 (i := .aload_n 0) (k := 1) (pc' := 122) (lv' := [(0, .ref 0)]) (st' := [.ref 0]) (by decide +kernel) rfl rfl ?_
    refine ab_fin.s1i (i := .iconst 0) (k := 1) (pc' := 123) (n := 0) (by decide +kernel) rfl (by decide +kernel) rfl ?_
    refine ab_fin.q_pF (ix := 183) (ci := 24) (k := 17) (h1 := conc ((σ.wi 0 18 (σ.i 0 16)).wi 0 17 (0 : Int32))) (pc' := 126) (by decide +kernel) rfl (c_pI (v := 0) (F.s s0_0) rfl) rfl rfl rfl ?_
    exact ab_fin.q_ret (i := .return_) (k := 1) (v := none) (by decide +kernel) rfl F w
theorem S_X23_next_144 {Z : zT} {d : Nat} {σ : Sg}  {K : kS} (F : FX ΦR σ.sh σ.r) (w : ((σ.i 0 15) ≤ (σ.i 0 16) → B_X23_next_198 Z (d + 1) σ  K) ∧ (¬ (σ.i 0 15) ≤ (σ.i 0 16) → ib (σ.i 0 16) 8192 ∧ (B_X23_isLetter_0 Z d σ (σ.i 37 ((σ.i 0 16).toNatClampNeg)) (yI K fun v4 τ2 => (¬ v4 = 0 → B_X23_next_144 Z (d + 1) (τ2.wi 0 16 ((τ2.i 0 16) + (1 : Int32)))  K) ∧ (v4 = 0 → ib (τ2.i 0 16) 8192 ∧ (B_X23_isDigit_0 Z d τ2 (τ2.i 37 ((τ2.i 0 16).toNatClampNeg)) (yI K fun v8 τ6 => (v8 = 0 → B_X23_next_198 Z (d + 1) τ6  K) ∧ (¬ v8 = 0 → B_X23_next_144 Z (d + 1) (τ6.wi 0 16 ((τ6.i 0 16) + (1 : Int32)))  K)))))))) : B_X23_next_144 Z (d + 1) σ  K := by
  unfold B_X23_next_144
  refine ab_fin.s2 (i := .aload_n 0) (k := 1) (pc' := 145) (lv' := [(0, .ref 0)]) (st' := [.ref 0]) (by decide +kernel) rfl rfl ?_
  refine ab_fin.q_rI (x := (σ.i 0 16)) (ix := 177) (ci := 24) (k := 16) (pc' := 148) (by decide +kernel) rfl (c_rI (F.s s0_0) rfl) rfl ?_
  refine ab_fin.s2 (i := .aload_n 0) (k := 1) (pc' := 149) (lv' := [(0, .ref 0)]) (st' := [.ref 0, .int (σ.i 0 16)]) (by decide +kernel) rfl rfl ?_
  refine ab_fin.q_rI (x := (σ.i 0 15)) (ix := 180) (ci := 24) (k := 15) (pc' := 152) (by decide +kernel) rfl (c_rI (F.s s0_0) rfl) rfl ?_
  refine ab_fin.br (c := (σ.i 0 15) ≤ (σ.i 0 16)) (i := .if_icmp .ge 46) (off := 46) (t := 198) (pc' := 155) (r := []) (by decide +kernel) rfl (by decide +kernel) rfl (fun q => ?_) (fun q => ?_)
  · replace w := w.1 q
    exact ab_fin.lv ⟨(List.forall_mem_cons.mpr ⟨(List.Mem.head _), (fun _ h => absurd h List.not_mem_nil)⟩), (show ([0] : List Nat).Nodup from by decide)⟩ w
  · replace w := w.2 q
    refine ab_fin.s2 (i := .aload_n 0) (k := 1) (pc' := 156) (lv' := [(0, .ref 0)]) (st' := [.ref 0]) (by decide +kernel) rfl rfl ?_
    refine ab_fin.q_rA (b := 37) (ix := 1) (ci := 24) (k := 14) (pc' := 159) (by decide +kernel) rfl (c_rA (F.s s0_0) rfl (rM_14 F)) rfl ?_
    refine ab_fin.s2 (i := .aload_n 0) (k := 1) (pc' := 160) (lv' := [(0, .ref 0)]) (st' := [.ref 0, .ref 37]) (by decide +kernel) rfl rfl ?_
    refine ab_fin.q_rI (x := (σ.i 0 16)) (ix := 177) (ci := 24) (k := 16) (pc' := 163) (by decide +kernel) rfl (c_rI (F.s s0_0) rfl) rfl ?_
    obtain ⟨e1, w⟩ := w
    refine ab_fin.q_eB (x := (σ.i 37 ((σ.i 0 16).toNatClampNeg))) (pc' := 164) (by decide +kernel) (c_eB2' (F.s s0_37) e1 rfl) rfl ?_
    refine ab_fin.q_yI (i := .invokestatic 186) (k := 3) (y := 5898) (As := [.int (σ.i 37 ((σ.i 0 16).toNatClampNeg))]) (rest := []) (M' := (mX23_isLetter, [])) (lv2 := [(0, .int (σ.i 37 ((σ.i 0 16).toNatClampNeg)))]) (pc' := 167) (X := K) (by decide +kernel) (ab_cs rfl rfl ⟨(Nat.le_of_ble_eq_true rfl), (Nat.le_of_ble_eq_true rfl)⟩ rfl) rfl (Nat.le_of_ble_eq_true rfl) rfl rfl (hY_no fun E => rfl) w (fun v4 τ2 F3 w => ?_)
    refine ab_fin.br (c := ¬ v4 = 0) (i := .ifCond .ne 18) (off := 18) (t := 185) (pc' := 170) (r := []) (by decide +kernel) rfl (by decide +kernel) rfl (fun q => ?_) (fun q => ?_)
    · replace w := w.1 q
      refine ab_fin.s2 (i := .aload_n 0) (k := 1) (pc' := 186) (lv' := [(0, .ref 0)]) (st' := [.ref 0]) (by decide +kernel) rfl rfl ?_
      refine ab_fin.s1 (i := .dup) (k := 1) (pc' := 187) (st' := [.ref 0, .ref 0]) (by decide +kernel) rfl rfl ?_
      refine ab_fin.q_rI (x := (τ2.i 0 16)) (ix := 177) (ci := 24) (k := 16) (pc' := 190) (by decide +kernel) rfl (c_rI (F3.s s0_0) rfl) rfl ?_
      refine ab_fin.s1i (i := .iconst 1) (k := 1) (pc' := 191) (n := 1) (by decide +kernel) rfl (by decide +kernel) rfl ?_
      refine ab_fin.s1 (i := .iadd) (k := 1) (pc' := 192) (st' := [.int ((τ2.i 0 16) + (1 : Int32)), .ref 0]) (by decide +kernel) rfl rfl ?_
      refine ab_fin.q_pF (ix := 177) (ci := 24) (k := 16) (h1 := conc (τ2.wi 0 16 ((τ2.i 0 16) + (1 : Int32)))) (pc' := 195) (by decide +kernel) rfl (c_pI (v := ((τ2.i 0 16) + (1 : Int32))) (F3.s s0_0) rfl) rfl rfl rfl ?_
      refine ab_fin.s3 (i := .goto (-51)) (k := 3) (t := 144) (st' := []) (by decide +kernel) (ab_gto (by decide +kernel)) ?_
      exact ab_fin.lv ⟨(List.forall_mem_cons.mpr ⟨(List.Mem.head _), (fun _ h => absurd h List.not_mem_nil)⟩), (show ([0] : List Nat).Nodup from by decide)⟩ w
    · replace w := w.2 (Decidable.of_not_not q)
      refine ab_fin.s2 (i := .aload_n 0) (k := 1) (pc' := 171) (lv' := [(0, .ref 0)]) (st' := [.ref 0]) (by decide +kernel) rfl rfl ?_
      refine ab_fin.q_rA (b := 37) (ix := 1) (ci := 24) (k := 14) (pc' := 174) (by decide +kernel) rfl (c_rA (F3.s s0_0) rfl (rM_14 F3)) rfl ?_
      refine ab_fin.s2 (i := .aload_n 0) (k := 1) (pc' := 175) (lv' := [(0, .ref 0)]) (st' := [.ref 0, .ref 37]) (by decide +kernel) rfl rfl ?_
      refine ab_fin.q_rI (x := (τ2.i 0 16)) (ix := 177) (ci := 24) (k := 16) (pc' := 178) (by decide +kernel) rfl (c_rI (F3.s s0_0) rfl) rfl ?_
      obtain ⟨e5, w⟩ := w
      refine ab_fin.q_eB (x := (τ2.i 37 ((τ2.i 0 16).toNatClampNeg))) (pc' := 179) (by decide +kernel) (c_eB2' (F3.s s0_37) e5 rfl) rfl ?_
      refine ab_fin.q_yI (i := .invokestatic 190) (k := 3) (y := 5899) (As := [.int (τ2.i 37 ((τ2.i 0 16).toNatClampNeg))]) (rest := []) (M' := (mX23_isDigit, [])) (lv2 := [(0, .int (τ2.i 37 ((τ2.i 0 16).toNatClampNeg)))]) (pc' := 182) (X := K) (by decide +kernel) (ab_cs rfl rfl ⟨(Nat.le_of_ble_eq_true rfl), (Nat.le_of_ble_eq_true rfl)⟩ rfl) rfl (Nat.le_of_ble_eq_true rfl) rfl rfl (hY_no fun E => rfl) w (fun v8 τ6 F7 w => ?_)
      refine ab_fin.br (c := v8 = 0) (i := .ifCond .eq 16) (off := 16) (t := 198) (pc' := 185) (r := []) (by decide +kernel) rfl (by decide +kernel) rfl (fun q => ?_) (fun q => ?_)
      · replace w := w.1 q
        exact ab_fin.lv ⟨(List.forall_mem_cons.mpr ⟨(List.Mem.head _), (fun _ h => absurd h List.not_mem_nil)⟩), (show ([0] : List Nat).Nodup from by decide)⟩ w
      · replace w := w.2 q
        refine ab_fin.s2 (i := .aload_n 0) (k := 1) (pc' := 186) (lv' := [(0, .ref 0)]) (st' := [.ref 0]) (by decide +kernel) rfl rfl ?_
        refine ab_fin.s1 (i := .dup) (k := 1) (pc' := 187) (st' := [.ref 0, .ref 0]) (by decide +kernel) rfl rfl ?_
        refine ab_fin.q_rI (x := (τ6.i 0 16)) (ix := 177) (ci := 24) (k := 16) (pc' := 190) (by decide +kernel) rfl (c_rI (F7.s s0_0) rfl) rfl ?_
        refine ab_fin.s1i (i := .iconst 1) (k := 1) (pc' := 191) (n := 1) (by decide +kernel) rfl (by decide +kernel) rfl ?_
        refine ab_fin.s1 (i := .iadd) (k := 1) (pc' := 192) (st' := [.int ((τ6.i 0 16) + (1 : Int32)), .ref 0]) (by decide +kernel) rfl rfl ?_
        refine ab_fin.q_pF (ix := 177) (ci := 24) (k := 16) (h1 := conc (τ6.wi 0 16 ((τ6.i 0 16) + (1 : Int32)))) (pc' := 195) (by decide +kernel) rfl (c_pI (v := ((τ6.i 0 16) + (1 : Int32))) (F7.s s0_0) rfl) rfl rfl rfl ?_
        refine ab_fin.s3 (i := .goto (-51)) (k := 3) (t := 144) (st' := []) (by decide +kernel) (ab_gto (by decide +kernel)) ?_
        exact ab_fin.lv ⟨(List.forall_mem_cons.mpr ⟨(List.Mem.head _), (fun _ h => absurd h List.not_mem_nil)⟩), (show ([0] : List Nat).Nodup from by decide)⟩ w
theorem S_X23_next_198 {Z : zT} {d : Nat} {σ : Sg}  {K : kS} (F : FX ΦR σ.sh σ.r) (w : (((σ.i 0 16) - (σ.i 0 18)) ≤ 16 → B_X23_word_0 Z d ((σ.wi 0 17 (5 : Int32)).wi 0 26 ((σ.i 0 16) - (σ.i 0 18)))  (yW K fun v3 τ1 => (v3 = Rf.nul → K (.inl none) ((τ1.wr 0 25 v3).wi 0 17 (2 : Int32))) ∧ (¬ v3 = Rf.nul → K (.inl none) ((τ1.wr 0 25 v3).wi 0 17 (1 : Int32))))) ∧ (¬ ((σ.i 0 16) - (σ.i 0 18)) ≤ 16 → K (.inl none) ((σ.wi 0 17 (5 : Int32)).wi 0 26 ((σ.i 0 16) - (σ.i 0 18))))) : B_X23_next_198 Z (d + 1) σ  K := by
  unfold B_X23_next_198
  refine ab_fin.s2 (i := .aload_n 0) (k := 1) (pc' := 199) (lv' := [(0, .ref 0)]) (st' := [.ref 0]) (by decide +kernel) rfl rfl ?_
  refine ab_fin.s1i (i := .iconst 5) (k := 1) (pc' := 200) (n := 5) (by decide +kernel) rfl (by decide +kernel) rfl ?_
  refine ab_fin.q_pF (ix := 183) (ci := 24) (k := 17) (h1 := conc (σ.wi 0 17 (5 : Int32))) (pc' := 203) (by decide +kernel) rfl (c_pI (v := 5) (F.s s0_0) rfl) rfl rfl rfl ?_
  refine ab_fin.s2 (i := .aload_n 0) (k := 1) (pc' := 204) (lv' := [(0, .ref 0)]) (st' := [.ref 0]) (by decide +kernel) rfl rfl ?_
  refine ab_fin.s2 (i := .aload_n 0) (k := 1) (pc' := 205) (lv' := [(0, .ref 0)]) (st' := [.ref 0, .ref 0]) (by decide +kernel) rfl rfl ?_
  refine ab_fin.q_rI (x := (σ.i 0 16)) (ix := 177) (ci := 24) (k := 16) (pc' := 208) (by decide +kernel) rfl (c_rI (F.s s0_0) rfl) rfl ?_
  refine ab_fin.s2 (i := .aload_n 0) (k := 1) (pc' := 209) (lv' := [(0, .ref 0)]) (st' := [.ref 0, .int (σ.i 0 16), .ref 0]) (by decide +kernel) rfl rfl ?_
  refine ab_fin.q_rI (x := (σ.i 0 18)) (ix := 106) (ci := 24) (k := 18) (pc' := 212) (by decide +kernel) rfl (c_rI (F.s s0_0) rfl) rfl ?_
  refine ab_fin.s1 (i := .isub) (k := 1) (pc' := 213) (st' := [.int ((σ.i 0 16) - (σ.i 0 18)), .ref 0]) (by decide +kernel) rfl rfl ?_
  refine ab_fin.q_pF (ix := 99) (ci := 24) (k := 26) (h1 := conc ((σ.wi 0 17 (5 : Int32)).wi 0 26 ((σ.i 0 16) - (σ.i 0 18)))) (pc' := 216) (by decide +kernel) rfl (c_pI (v := ((σ.i 0 16) - (σ.i 0 18))) (F.s s0_0) rfl) rfl rfl rfl ?_
  refine ab_fin.s2 (i := .aload_n 0) (k := 1) (pc' := 217) (lv' := [(0, .ref 0)]) (st' := [.ref 0]) (by decide +kernel) rfl rfl ?_
  refine ab_fin.q_rI (x := ((σ.i 0 16) - (σ.i 0 18))) (ix := 99) (ci := 24) (k := 26) (pc' := 220) (by decide +kernel) rfl (c_rI (F.s s0_0) rfl) rfl ?_
  refine ab_fin.s1i (i := .bipush 16) (k := 2) (pc' := 222) (n := 16) (by decide +kernel) rfl (by decide +kernel) rfl ?_
  refine ab_fin.br (c := ((σ.i 0 16) - (σ.i 0 18)) ≤ 16) (i := .if_icmp .le 4) (off := 4) (t := 226) (pc' := 225) (r := []) (by decide +kernel) rfl (by decide +kernel) rfl (fun q => ?_) (fun q => ?_)
  · replace w := w.1 q
    refine ab_fin.s2 (i := .aload_n 0) (k := 1) (pc' := 227) (lv' := [(0, .ref 0)]) (st' := [.ref 0]) (by decide +kernel) rfl rfl ?_
    refine ab_fin.s2 (i := .aload_n 0) (k := 1) (pc' := 228) (lv' := [(0, .ref 0)]) (st' := [.ref 0, .ref 0]) (by decide +kernel) rfl rfl ?_
    refine ab_fin.q_yW (i := .invokevirtual 193) (k := 3) (y := 5901) (As := [.ref 0]) (rest := [.ref 0]) (M' := (mX23_word, [])) (lv2 := [(0, .ref 0)]) (pc' := 231) (X := K) (by decide +kernel) (ab_cv rfl rfl (conc_get (σ := ((σ.wi 0 17 (5 : Int32)).wi 0 26 ((σ.i 0 16) - (σ.i 0 18)))) (F.s s0_0)) ⟨(Nat.le_of_ble_eq_true rfl), (Nat.le_of_ble_eq_true rfl)⟩ rfl) rfl (Nat.le_of_ble_eq_true rfl) rfl rfl (hY_no fun E => rfl) w (fun v3 τ1 F2 w => ?_)
    have F4 := FX.w (Φ := ΦR) (a := 0) (k := 25) (v := v3) F2 (cM_25)
    refine ab_fin.q_pF (ix := 197) (ci := 24) (k := 25) (h1 := conc (τ1.wr 0 25 v3)) (pc' := 234) (by decide +kernel) rfl (c_pR (v := v3) (F2.s s0_0) rfl) nRv_n nRv_f rfl ?_
    refine ab_fin.s2 (i := .aload_n 0) (k := 1) (pc' := 235) (lv' := [(0, .ref 0)]) (st' := [.ref 0]) (by decide +kernel) rfl rfl ?_
    refine ab_fin.s2 (i := .aload_n 0) (k := 1) (pc' := 236) (lv' := [(0, .ref 0)]) (st' := [.ref 0, .ref 0]) (by decide +kernel) rfl rfl ?_
    refine ab_fin.q_rV (v := rv v3) (ix := 197) (ci := 24) (k := 25) (pc' := 239) (by decide +kernel) rfl (c_rV (F4.s s0_0) rfl) rfl ?_
    refine ab_fin.q_nul (off := 7) (t := 246) (pc' := 242) (by decide +kernel) (oR_rv _) (by decide +kernel) rfl (fun q => ?_) (fun q => ?_)
    · replace w := w.1 (rv_null.mp q)
      refine ab_fin.s1i (i := .iconst 2) (k := 1) (pc' := 247) (n := 2) (by decide +kernel) rfl (by decide +kernel) rfl ?_
      refine ab_fin.q_pF (ix := 183) (ci := 24) (k := 17) (h1 := conc ((τ1.wr 0 25 v3).wi 0 17 (2 : Int32))) (pc' := 250) (by decide +kernel) rfl (c_pI (v := 2) (F4.s s0_0) rfl) rfl rfl rfl ?_
      refine ab_fin.s3 (i := .goto 211) (k := 3) (t := 461) (st' := []) (by decide +kernel) (ab_gto (by decide +kernel)) ?_
      exact ab_fin.q_ret (i := .return_) (k := 1) (v := none) (by decide +kernel) rfl F4 w
    · replace w := w.2 (fun z => q (rv_null.mpr z))
      refine ab_fin.s1i (i := .iconst 1) (k := 1) (pc' := 243) (n := 1) (by decide +kernel) rfl (by decide +kernel) rfl ?_
      refine ab_fin.s3 (i := .goto 4) (k := 3) (t := 247) (st' := [.int 1, .ref 0]) (by decide +kernel) (ab_gto (by decide +kernel)) ?_
      refine ab_fin.q_pF (ix := 183) (ci := 24) (k := 17) (h1 := conc ((τ1.wr 0 25 v3).wi 0 17 (1 : Int32))) (pc' := 250) (by decide +kernel) rfl (c_pI (v := 1) (F4.s s0_0) rfl) rfl rfl rfl ?_
      refine ab_fin.s3 (i := .goto 211) (k := 3) (t := 461) (st' := []) (by decide +kernel) (ab_gto (by decide +kernel)) ?_
      exact ab_fin.q_ret (i := .return_) (k := 1) (v := none) (by decide +kernel) rfl F4 w
  · replace w := w.2 q
    exact ab_fin.q_ret (i := .return_) (k := 1) (v := none) (by decide +kernel) rfl F w
theorem S_X23_next_262 {Z : zT} {d : Nat} {σ : Sg} {l2 : Int64} {K : kS} (F : FX ΦR σ.sh σ.r) (w : ((σ.i 0 15) ≤ (σ.i 0 16) → B_X23_next_328 Z (d + 1) σ l2 K) ∧ (¬ (σ.i 0 15) ≤ (σ.i 0 16) → ib (σ.i 0 16) 8192 ∧ (B_X23_isDigit_0 Z d σ (σ.i 37 ((σ.i 0 16).toNatClampNeg)) (yI K fun v4 τ2 => (v4 = 0 → B_X23_next_328 Z (d + 1) τ2 l2 K) ∧ (¬ v4 = 0 → ib (τ2.i 0 16) 8192 ∧ (B_X23_next_262 Z (d + 1) (τ2.wi 0 16 ((τ2.i 0 16) + (1 : Int32))) (if (1099511627776 : Int64) < ((((10 : Int64) * l2) + ((Int32.toInt64 (τ2.i 37 ((τ2.i 0 16).toNatClampNeg))))) - (48 : Int64)) then (1099511627776 : Int64) else ((((10 : Int64) * l2) + ((Int32.toInt64 (τ2.i 37 ((τ2.i 0 16).toNatClampNeg))))) - (48 : Int64))) K)))))) : B_X23_next_262 Z (d + 1) σ l2 K := by
  unfold B_X23_next_262
  refine ab_fin.s2 (i := .aload_n 0) (k := 1) (pc' := 263) (lv' := [(0, .ref 0), (2, .long l2)]) (st' := [.ref 0]) (by decide +kernel) rfl rfl ?_
  refine ab_fin.q_rI (x := (σ.i 0 16)) (ix := 177) (ci := 24) (k := 16) (pc' := 266) (by decide +kernel) rfl (c_rI (F.s s0_0) rfl) rfl ?_
  refine ab_fin.s2 (i := .aload_n 0) (k := 1) (pc' := 267) (lv' := [(0, .ref 0), (2, .long l2)]) (st' := [.ref 0, .int (σ.i 0 16)]) (by decide +kernel) rfl rfl ?_
  refine ab_fin.q_rI (x := (σ.i 0 15)) (ix := 180) (ci := 24) (k := 15) (pc' := 270) (by decide +kernel) rfl (c_rI (F.s s0_0) rfl) rfl ?_
  refine ab_fin.br (c := (σ.i 0 15) ≤ (σ.i 0 16)) (i := .if_icmp .ge 58) (off := 58) (t := 328) (pc' := 273) (r := []) (by decide +kernel) rfl (by decide +kernel) rfl (fun q => ?_) (fun q => ?_)
  · replace w := w.1 q
    exact ab_fin.lv ⟨(List.forall_mem_cons.mpr ⟨(List.Mem.head _), (List.forall_mem_cons.mpr ⟨(List.Mem.tail _ (List.Mem.head _)), (fun _ h => absurd h List.not_mem_nil)⟩)⟩), (show ([0, 2] : List Nat).Nodup from by decide)⟩ w
  · replace w := w.2 q
    refine ab_fin.s2 (i := .aload_n 0) (k := 1) (pc' := 274) (lv' := [(0, .ref 0), (2, .long l2)]) (st' := [.ref 0]) (by decide +kernel) rfl rfl ?_
    refine ab_fin.q_rA (b := 37) (ix := 1) (ci := 24) (k := 14) (pc' := 277) (by decide +kernel) rfl (c_rA (F.s s0_0) rfl (rM_14 F)) rfl ?_
    refine ab_fin.s2 (i := .aload_n 0) (k := 1) (pc' := 278) (lv' := [(0, .ref 0), (2, .long l2)]) (st' := [.ref 0, .ref 37]) (by decide +kernel) rfl rfl ?_
    refine ab_fin.q_rI (x := (σ.i 0 16)) (ix := 177) (ci := 24) (k := 16) (pc' := 281) (by decide +kernel) rfl (c_rI (F.s s0_0) rfl) rfl ?_
    obtain ⟨e1, w⟩ := w
    refine ab_fin.q_eB (x := (σ.i 37 ((σ.i 0 16).toNatClampNeg))) (pc' := 282) (by decide +kernel) (c_eB2' (F.s s0_37) e1 rfl) rfl ?_
    refine ab_fin.q_yI (i := .invokestatic 190) (k := 3) (y := 5899) (As := [.int (σ.i 37 ((σ.i 0 16).toNatClampNeg))]) (rest := []) (M' := (mX23_isDigit, [])) (lv2 := [(0, .int (σ.i 37 ((σ.i 0 16).toNatClampNeg)))]) (pc' := 285) (X := K) (by decide +kernel) (ab_cs rfl rfl ⟨(Nat.le_of_ble_eq_true rfl), (Nat.le_of_ble_eq_true rfl)⟩ rfl) rfl (Nat.le_of_ble_eq_true rfl) rfl rfl (hY_no fun E => rfl) w (fun v4 τ2 F3 w => ?_)
    refine ab_fin.br (c := v4 = 0) (i := .ifCond .eq 43) (off := 43) (t := 328) (pc' := 288) (r := []) (by decide +kernel) rfl (by decide +kernel) rfl (fun q => ?_) (fun q => ?_)
    · replace w := w.1 q
      exact ab_fin.lv ⟨(List.forall_mem_cons.mpr ⟨(List.Mem.head _), (List.forall_mem_cons.mpr ⟨(List.Mem.tail _ (List.Mem.head _)), (fun _ h => absurd h List.not_mem_nil)⟩)⟩), (show ([0, 2] : List Nat).Nodup from by decide)⟩ w
    · replace w := w.2 q
      refine ab_fin.s7 (i := .ldc2_w 201) (k := 3) (pc' := 291) (st' := [.long 10]) (by decide +kernel) rfl rfl ?_
      refine ab_fin.s2 (i := .lload_n 2) (k := 1) (pc' := 292) (lv' := [(0, .ref 0), (2, .long l2)]) (st' := [.long l2, .long 10]) (by decide +kernel) rfl rfl ?_
      refine ab_fin.s1 (i := .lmul) (k := 1) (pc' := 293) (st' := [.long ((10 : Int64) * l2)]) (by decide +kernel) rfl rfl ?_
      refine ab_fin.s2 (i := .aload_n 0) (k := 1) (pc' := 294) (lv' := [(0, .ref 0), (2, .long l2)]) (st' := [.ref 0, .long ((10 : Int64) * l2)]) (by decide +kernel) rfl rfl ?_
      refine ab_fin.q_rA (b := 37) (ix := 1) (ci := 24) (k := 14) (pc' := 297) (by decide +kernel) rfl (c_rA (F3.s s0_0) rfl (rM_14 F3)) rfl ?_
      refine ab_fin.s2 (i := .aload_n 0) (k := 1) (pc' := 298) (lv' := [(0, .ref 0), (2, .long l2)]) (st' := [.ref 0, .ref 37, .long ((10 : Int64) * l2)]) (by decide +kernel) rfl rfl ?_
      refine ab_fin.q_rI (x := (τ2.i 0 16)) (ix := 177) (ci := 24) (k := 16) (pc' := 301) (by decide +kernel) rfl (c_rI (F3.s s0_0) rfl) rfl ?_
      obtain ⟨e5, w⟩ := w
      refine ab_fin.q_eB (x := (τ2.i 37 ((τ2.i 0 16).toNatClampNeg))) (pc' := 302) (by decide +kernel) (c_eB2' (F3.s s0_37) e5 rfl) rfl ?_
      refine ab_fin.s1 (i := .i2l) (k := 1) (pc' := 303) (st' := [.long ((Int32.toInt64 (τ2.i 37 ((τ2.i 0 16).toNatClampNeg)))), .long ((10 : Int64) * l2)]) (by decide +kernel) rfl rfl ?_
      refine ab_fin.s1 (i := .ladd) (k := 1) (pc' := 304) (st' := [.long (((10 : Int64) * l2) + ((Int32.toInt64 (τ2.i 37 ((τ2.i 0 16).toNatClampNeg)))))]) (by decide +kernel) rfl rfl ?_
      refine ab_fin.s7 (i := .ldc2_w 203) (k := 3) (pc' := 307) (st' := [.long 48, .long (((10 : Int64) * l2) + ((Int32.toInt64 (τ2.i 37 ((τ2.i 0 16).toNatClampNeg)))))]) (by decide +kernel) rfl rfl ?_
      refine ab_fin.s1 (i := .lsub) (k := 1) (pc' := 308) (st' := [.long ((((10 : Int64) * l2) + ((Int32.toInt64 (τ2.i 37 ((τ2.i 0 16).toNatClampNeg))))) - (48 : Int64))]) (by decide +kernel) rfl rfl ?_
      refine ab_fin.s7 (i := .ldc2_w 205) (k := 3) (pc' := 311) (st' := [.long 1099511627776, .long ((((10 : Int64) * l2) + ((Int32.toInt64 (τ2.i 37 ((τ2.i 0 16).toNatClampNeg))))) - (48 : Int64))]) (by decide +kernel) rfl rfl ?_
      refine ab_fin.cpy (i := .invokestatic 207) (k := 3) (pc' := 314) (h1 := conc τ2) (st' := [.long (if (1099511627776 : Int64) < ((((10 : Int64) * l2) + ((Int32.toInt64 (τ2.i 37 ((τ2.i 0 16).toNatClampNeg))))) - (48 : Int64)) then (1099511627776 : Int64) else ((((10 : Int64) * l2) + ((Int32.toInt64 (τ2.i 37 ((τ2.i 0 16).toNatClampNeg))))) - (48 : Int64)))]) (by decide +kernel) rfl rfl ?_
      refine ab_fin.s2 (i := .lstore_n 2) (k := 1) (pc' := 315) (lv' := [(2, .long (if (1099511627776 : Int64) < ((((10 : Int64) * l2) + ((Int32.toInt64 (τ2.i 37 ((τ2.i 0 16).toNatClampNeg))))) - (48 : Int64)) then (1099511627776 : Int64) else ((((10 : Int64) * l2) + ((Int32.toInt64 (τ2.i 37 ((τ2.i 0 16).toNatClampNeg))))) - (48 : Int64)))), (0, .ref 0)]) (st' := []) (by decide +kernel) rfl rfl ?_
      refine ab_fin.s2 (i := .aload_n 0) (k := 1) (pc' := 316) (lv' := [(2, .long (if (1099511627776 : Int64) < ((((10 : Int64) * l2) + ((Int32.toInt64 (τ2.i 37 ((τ2.i 0 16).toNatClampNeg))))) - (48 : Int64)) then (1099511627776 : Int64) else ((((10 : Int64) * l2) + ((Int32.toInt64 (τ2.i 37 ((τ2.i 0 16).toNatClampNeg))))) - (48 : Int64)))), (0, .ref 0)]) (st' := [.ref 0]) (by decide +kernel) rfl rfl ?_
      refine ab_fin.s1 (i := .dup) (k := 1) (pc' := 317) (st' := [.ref 0, .ref 0]) (by decide +kernel) rfl rfl ?_
      refine ab_fin.q_rI (x := (τ2.i 0 16)) (ix := 177) (ci := 24) (k := 16) (pc' := 320) (by decide +kernel) rfl (c_rI (F3.s s0_0) rfl) rfl ?_
      refine ab_fin.s1i (i := .iconst 1) (k := 1) (pc' := 321) (n := 1) (by decide +kernel) rfl (by decide +kernel) rfl ?_
      refine ab_fin.s1 (i := .iadd) (k := 1) (pc' := 322) (st' := [.int ((τ2.i 0 16) + (1 : Int32)), .ref 0]) (by decide +kernel) rfl rfl ?_
      refine ab_fin.q_pF (ix := 177) (ci := 24) (k := 16) (h1 := conc (τ2.wi 0 16 ((τ2.i 0 16) + (1 : Int32)))) (pc' := 325) (by decide +kernel) rfl (c_pI (v := ((τ2.i 0 16) + (1 : Int32))) (F3.s s0_0) rfl) rfl rfl rfl ?_
      refine ab_fin.s3 (i := .goto (-63)) (k := 3) (t := 262) (st' := []) (by decide +kernel) (ab_gto (by decide +kernel)) ?_
      exact ab_fin.lv ⟨(List.forall_mem_cons.mpr ⟨(List.Mem.tail _ (List.Mem.head _)), (List.forall_mem_cons.mpr ⟨(List.Mem.head _), (fun _ h => absurd h List.not_mem_nil)⟩)⟩), (show ([2, 0] : List Nat).Nodup from by decide)⟩ w
theorem S_X23_next_328 {Z : zT} {d : Nat} {σ : Sg} {l2 : Int64} {K : kS} (F : FX ΦR σ.sh σ.r) (w : ((lg_cmp l2 (2147483647 : Int64)) ≤ 0 → K (.inl none) ((σ.wi 0 19 ((Int64.toInt32 l2))).wi 0 17 (3 : Int32))) ∧ (¬ (lg_cmp l2 (2147483647 : Int64)) ≤ 0 → K (.inl none) ((σ.wi 0 19 ((Int64.toInt32 l2))).wi 0 17 (5 : Int32)))) : B_X23_next_328 Z (d + 1) σ l2 K := by
  unfold B_X23_next_328
  refine ab_fin.s2 (i := .aload_n 0) (k := 1) (pc' := 329) (lv' := [(0, .ref 0), (2, .long l2)]) (st' := [.ref 0]) (by decide +kernel) rfl rfl ?_
  refine ab_fin.s2 (i := .lload_n 2) (k := 1) (pc' := 330) (lv' := [(0, .ref 0), (2, .long l2)]) (st' := [.long l2, .ref 0]) (by decide +kernel) rfl rfl ?_
  refine ab_fin.s1 (i := .l2i) (k := 1) (pc' := 331) (st' := [.int ((Int64.toInt32 l2)), .ref 0]) (by decide +kernel) rfl rfl ?_
  refine ab_fin.q_pF (ix := 213) (ci := 24) (k := 19) (h1 := conc (σ.wi 0 19 ((Int64.toInt32 l2)))) (pc' := 334) (by decide +kernel) rfl (c_pI (v := ((Int64.toInt32 l2))) (F.s s0_0) rfl) rfl rfl rfl ?_
  refine ab_fin.s2 (i := .aload_n 0) (k := 1) (pc' := 335) (lv' := [(0, .ref 0), (2, .long l2)]) (st' := [.ref 0]) (by decide +kernel) rfl rfl ?_
  refine ab_fin.s2 (i := .lload_n 2) (k := 1) (pc' := 336) (lv' := [(0, .ref 0), (2, .long l2)]) (st' := [.long l2, .ref 0]) (by decide +kernel) rfl rfl ?_
  refine ab_fin.s7 (i := .ldc2_w 216) (k := 3) (pc' := 339) (st' := [.long 2147483647, .long l2, .ref 0]) (by decide +kernel) rfl rfl ?_
  refine ab_fin.s1 (i := .lcmp) (k := 1) (pc' := 340) (st' := [.int (lg_cmp l2 (2147483647 : Int64)), .ref 0]) (by decide +kernel) rfl rfl ?_
  refine ab_fin.br (c := (lg_cmp l2 (2147483647 : Int64)) ≤ 0) (i := .ifCond .le 7) (off := 7) (t := 347) (pc' := 343) (r := [.ref 0]) (by decide +kernel) rfl (by decide +kernel) rfl (fun q => ?_) (fun q => ?_)
  · replace w := w.1 q
    refine ab_fin.s1i (i := .iconst 3) (k := 1) (pc' := 348) (n := 3) (by decide +kernel) rfl (by decide +kernel) rfl ?_
    refine ab_fin.q_pF (ix := 183) (ci := 24) (k := 17) (h1 := conc ((σ.wi 0 19 ((Int64.toInt32 l2))).wi 0 17 (3 : Int32))) (pc' := 351) (by decide +kernel) rfl (c_pI (v := 3) (F.s s0_0) rfl) rfl rfl rfl ?_
    refine ab_fin.s3 (i := .goto 110) (k := 3) (t := 461) (st' := []) (by decide +kernel) (ab_gto (by decide +kernel)) ?_
    exact ab_fin.q_ret (i := .return_) (k := 1) (v := none) (by decide +kernel) rfl F w
  · replace w := w.2 q
    refine ab_fin.s1i (i := .iconst 5) (k := 1) (pc' := 344) (n := 5) (by decide +kernel) rfl (by decide +kernel) rfl ?_
    refine ab_fin.s3 (i := .goto 4) (k := 3) (t := 348) (st' := [.int 5, .ref 0]) (by decide +kernel) (ab_gto (by decide +kernel)) ?_
    refine ab_fin.q_pF (ix := 183) (ci := 24) (k := 17) (h1 := conc ((σ.wi 0 19 ((Int64.toInt32 l2))).wi 0 17 (5 : Int32))) (pc' := 351) (by decide +kernel) rfl (c_pI (v := 5) (F.s s0_0) rfl) rfl rfl rfl ?_
    refine ab_fin.s3 (i := .goto 110) (k := 3) (t := 461) (st' := []) (by decide +kernel) (ab_gto (by decide +kernel)) ?_
    exact ab_fin.q_ret (i := .return_) (k := 1) (v := none) (by decide +kernel) rfl F w
theorem S_X23_next_366 {Z : zT} {d : Nat} {σ : Sg} {l1 : Int32} {K : kS} (F : FX ΦR σ.sh σ.r) (w : ((σ.i 0 15) ≤ ((σ.i 0 16) + (1 : Int32)) → B_X23_next_399 Z (d + 1) σ l1 K) ∧ (¬ (σ.i 0 15) ≤ ((σ.i 0 16) + (1 : Int32)) → ib ((σ.i 0 16) + (1 : Int32)) 8192 ∧ ((¬ (σ.i 37 (((σ.i 0 16) + (1 : Int32)).toNatClampNeg)) = 61 → B_X23_next_399 Z (d + 1) σ l1 K) ∧ ((σ.i 37 (((σ.i 0 16) + (1 : Int32)).toNatClampNeg)) = 61 → B_X23_next_400 Z (d + 1) σ l1 1 K)))) : B_X23_next_366 Z (d + 1) σ l1 K := by
  unfold B_X23_next_366
  refine ab_fin.s2 (i := .aload_n 0) (k := 1) (pc' := 367) (lv' := [(0, .ref 0), (1, .int l1)]) (st' := [.ref 0]) (by decide +kernel) rfl rfl ?_
  refine ab_fin.q_rI (x := (σ.i 0 16)) (ix := 177) (ci := 24) (k := 16) (pc' := 370) (by decide +kernel) rfl (c_rI (F.s s0_0) rfl) rfl ?_
  refine ab_fin.s1i (i := .iconst 1) (k := 1) (pc' := 371) (n := 1) (by decide +kernel) rfl (by decide +kernel) rfl ?_
  refine ab_fin.s1 (i := .iadd) (k := 1) (pc' := 372) (st' := [.int ((σ.i 0 16) + (1 : Int32))]) (by decide +kernel) rfl rfl ?_
  refine ab_fin.s2 (i := .aload_n 0) (k := 1) (pc' := 373) (lv' := [(0, .ref 0), (1, .int l1)]) (st' := [.ref 0, .int ((σ.i 0 16) + (1 : Int32))]) (by decide +kernel) rfl rfl ?_
  refine ab_fin.q_rI (x := (σ.i 0 15)) (ix := 180) (ci := 24) (k := 15) (pc' := 376) (by decide +kernel) rfl (c_rI (F.s s0_0) rfl) rfl ?_
  refine ab_fin.br (c := (σ.i 0 15) ≤ ((σ.i 0 16) + (1 : Int32))) (i := .if_icmp .ge 23) (off := 23) (t := 399) (pc' := 379) (r := []) (by decide +kernel) rfl (by decide +kernel) rfl (fun q => ?_) (fun q => ?_)
  · replace w := w.1 q
    exact ab_fin.lv ⟨(List.forall_mem_cons.mpr ⟨(List.Mem.head _), (List.forall_mem_cons.mpr ⟨(List.Mem.tail _ (List.Mem.head _)), (fun _ h => absurd h List.not_mem_nil)⟩)⟩), (show ([0, 1] : List Nat).Nodup from by decide)⟩ w
  · replace w := w.2 q
    refine ab_fin.s2 (i := .aload_n 0) (k := 1) (pc' := 380) (lv' := [(0, .ref 0), (1, .int l1)]) (st' := [.ref 0]) (by decide +kernel) rfl rfl ?_
    refine ab_fin.q_rA (b := 37) (ix := 1) (ci := 24) (k := 14) (pc' := 383) (by decide +kernel) rfl (c_rA (F.s s0_0) rfl (rM_14 F)) rfl ?_
    refine ab_fin.s2 (i := .aload_n 0) (k := 1) (pc' := 384) (lv' := [(0, .ref 0), (1, .int l1)]) (st' := [.ref 0, .ref 37]) (by decide +kernel) rfl rfl ?_
    refine ab_fin.q_rI (x := (σ.i 0 16)) (ix := 177) (ci := 24) (k := 16) (pc' := 387) (by decide +kernel) rfl (c_rI (F.s s0_0) rfl) rfl ?_
    refine ab_fin.s1i (i := .iconst 1) (k := 1) (pc' := 388) (n := 1) (by decide +kernel) rfl (by decide +kernel) rfl ?_
    refine ab_fin.s1 (i := .iadd) (k := 1) (pc' := 389) (st' := [.int ((σ.i 0 16) + (1 : Int32)), .ref 37]) (by decide +kernel) rfl rfl ?_
    obtain ⟨e1, w⟩ := w
    refine ab_fin.q_eB (x := (σ.i 37 (((σ.i 0 16) + (1 : Int32)).toNatClampNeg))) (pc' := 390) (by decide +kernel) (c_eB2' (F.s s0_37) e1 rfl) rfl ?_
    refine ab_fin.s1i (i := .bipush 61) (k := 2) (pc' := 392) (n := 61) (by decide +kernel) rfl (by decide +kernel) rfl ?_
    refine ab_fin.br (c := ¬ (σ.i 37 (((σ.i 0 16) + (1 : Int32)).toNatClampNeg)) = 61) (i := .if_icmp .ne 7) (off := 7) (t := 399) (pc' := 395) (r := []) (by decide +kernel) rfl (by decide +kernel) rfl (fun q => ?_) (fun q => ?_)
    · replace w := w.1 q
      exact ab_fin.lv ⟨(List.forall_mem_cons.mpr ⟨(List.Mem.head _), (List.forall_mem_cons.mpr ⟨(List.Mem.tail _ (List.Mem.head _)), (fun _ h => absurd h List.not_mem_nil)⟩)⟩), (show ([0, 1] : List Nat).Nodup from by decide)⟩ w
    · replace w := w.2 (Decidable.of_not_not q)
      refine ab_fin.s1i (i := .iconst 1) (k := 1) (pc' := 396) (n := 1) (by decide +kernel) rfl (by decide +kernel) rfl ?_
      refine ab_fin.s3 (i := .goto 4) (k := 3) (t := 400) (st' := [.int 1]) (by decide +kernel) (ab_gto (by decide +kernel)) ?_
      exact ab_fin.lv ⟨(List.forall_mem_cons.mpr ⟨(List.Mem.head _), (List.forall_mem_cons.mpr ⟨(List.Mem.tail _ (List.Mem.head _)), (fun _ h => absurd h List.not_mem_nil)⟩)⟩), (show ([0, 1] : List Nat).Nodup from by decide)⟩ w
theorem S_X23_next_399 {Z : zT} {d : Nat} {σ : Sg} {l1 : Int32} {K : kS} (F : FX ΦR σ.sh σ.r) (w : B_X23_next_400 Z (d + 1) σ l1 0 K) : B_X23_next_399 Z (d + 1) σ l1 K := by
  unfold B_X23_next_399
  refine ab_fin.s1i (i := .iconst 0) (k := 1) (pc' := 400) (n := 0) (by decide +kernel) rfl (by decide +kernel) rfl ?_
  exact ab_fin.lv ⟨(List.forall_mem_cons.mpr ⟨(List.Mem.head _), (List.forall_mem_cons.mpr ⟨(List.Mem.tail _ (List.Mem.head _)), (fun _ h => absurd h List.not_mem_nil)⟩)⟩), (show ([0, 1] : List Nat).Nodup from by decide)⟩ w
theorem S_X23_next_400 {Z : zT} {d : Nat} {σ : Sg} {l1 : Int32} {s0 : Int32} {K : kS} (F : FX ΦR σ.sh σ.r) (w : (s0 = 0 → B_X23_next_415 Z (d + 1) σ l1 s0 (σ.i 0 16) 1 K) ∧ (¬ s0 = 0 → B_X23_next_415 Z (d + 1) σ l1 s0 (σ.i 0 16) 2 K)) : B_X23_next_400 Z (d + 1) σ l1 s0 K := by
  unfold B_X23_next_400
  refine ab_fin.s2 (i := .istore_n 2) (k := 1) (pc' := 401) (lv' := [(2, .int s0), (0, .ref 0), (1, .int l1)]) (st' := []) (by decide +kernel) rfl rfl ?_
  refine ab_fin.s2 (i := .aload_n 0) (k := 1) (pc' := 402) (lv' := [(2, .int s0), (0, .ref 0), (1, .int l1)]) (st' := [.ref 0]) (by decide +kernel) rfl rfl ?_
  refine ab_fin.s1 (i := .dup) (k := 1) (pc' := 403) (st' := [.ref 0, .ref 0]) (by decide +kernel) rfl rfl ?_
  refine ab_fin.q_rI (x := (σ.i 0 16)) (ix := 177) (ci := 24) (k := 16) (pc' := 406) (by decide +kernel) rfl (c_rI (F.s s0_0) rfl) rfl ?_
  refine ab_fin.s2 (i := .iload_n 2) (k := 1) (pc' := 407) (lv' := [(2, .int s0), (0, .ref 0), (1, .int l1)]) (st' := [.int s0, .int (σ.i 0 16), .ref 0]) (by decide +kernel) rfl rfl ?_
  refine ab_fin.br (c := s0 = 0) (i := .ifCond .eq 7) (off := 7) (t := 414) (pc' := 410) (r := [.int (σ.i 0 16), .ref 0]) (by decide +kernel) rfl (by decide +kernel) rfl (fun q => ?_) (fun q => ?_)
  · replace w := w.1 q
    refine ab_fin.s1i (i := .iconst 1) (k := 1) (pc' := 415) (n := 1) (by decide +kernel) rfl (by decide +kernel) rfl ?_
    exact ab_fin.lv ⟨(List.forall_mem_cons.mpr ⟨(List.Mem.tail _ (List.Mem.head _)), (List.forall_mem_cons.mpr ⟨(List.Mem.tail _ (List.Mem.tail _ (List.Mem.head _))), (List.forall_mem_cons.mpr ⟨(List.Mem.head _), (fun _ h => absurd h List.not_mem_nil)⟩)⟩)⟩), (show ([2, 0, 1] : List Nat).Nodup from by decide)⟩ w
  · replace w := w.2 q
    refine ab_fin.s1i (i := .iconst 2) (k := 1) (pc' := 411) (n := 2) (by decide +kernel) rfl (by decide +kernel) rfl ?_
    refine ab_fin.s3 (i := .goto 4) (k := 3) (t := 415) (st' := [.int 2, .int (σ.i 0 16), .ref 0]) (by decide +kernel) (ab_gto (by decide +kernel)) ?_
    exact ab_fin.lv ⟨(List.forall_mem_cons.mpr ⟨(List.Mem.tail _ (List.Mem.head _)), (List.forall_mem_cons.mpr ⟨(List.Mem.tail _ (List.Mem.tail _ (List.Mem.head _))), (List.forall_mem_cons.mpr ⟨(List.Mem.head _), (fun _ h => absurd h List.not_mem_nil)⟩)⟩)⟩), (show ([2, 0, 1] : List Nat).Nodup from by decide)⟩ w
theorem S_X23_next_415 {Z : zT} {d : Nat} {σ : Sg} {l1 : Int32} {l2 : Int32} {s1 : Int32} {s2 : Int32} {K : kS} (F : FX ΦR σ.sh σ.r) (w : (l2 = 0 → B_X23_next_433 Z (d + 1) (σ.wi 0 16 (s1 + s2)) l1 l1 K) ∧ (¬ l2 = 0 → B_X23_next_433 Z (d + 1) (σ.wi 0 16 (s1 + s2)) l1 ((256 : Int32) + l1) K)) : B_X23_next_415 Z (d + 1) σ l1 l2 s1 s2 K := by
  unfold B_X23_next_415
  refine ab_fin.s1 (i := .iadd) (k := 1) (pc' := 416) (st' := [.int (s1 + s2), .ref 0]) (by decide +kernel) rfl rfl ?_
  refine ab_fin.q_pF (ix := 177) (ci := 24) (k := 16) (h1 := conc (σ.wi 0 16 (s1 + s2))) (pc' := 419) (by decide +kernel) rfl (c_pI (v := (s1 + s2)) (F.s s0_0) rfl) rfl rfl rfl ?_
  refine ab_fin.s2 (i := .aload_n 0) (k := 1) (pc' := 420) (lv' := [(0, .ref 0), (1, .int l1), (2, .int l2)]) (st' := [.ref 0]) (by decide +kernel) rfl rfl ?_
  refine ab_fin.s2 (i := .iload_n 2) (k := 1) (pc' := 421) (lv' := [(0, .ref 0), (1, .int l1), (2, .int l2)]) (st' := [.int l2, .ref 0]) (by decide +kernel) rfl rfl ?_
  refine ab_fin.br (c := l2 = 0) (i := .ifCond .eq 11) (off := 11) (t := 432) (pc' := 424) (r := [.ref 0]) (by decide +kernel) rfl (by decide +kernel) rfl (fun q => ?_) (fun q => ?_)
  · replace w := w.1 q
    refine ab_fin.s2 (i := .iload_n 1) (k := 1) (pc' := 433) (lv' := [(0, .ref 0), (1, .int l1), (2, .int l2)]) (st' := [.int l1, .ref 0]) (by decide +kernel) rfl rfl ?_
    exact ab_fin.lv ⟨(List.forall_mem_cons.mpr ⟨(List.Mem.head _), (List.forall_mem_cons.mpr ⟨(List.Mem.tail _ (List.Mem.head _)), (fun _ h => absurd h List.not_mem_nil)⟩)⟩), (show ([0, 1, 2] : List Nat).Nodup from by decide)⟩ w
  · replace w := w.2 q
    refine ab_fin.s1i (i := .sipush 256) (k := 3) (pc' := 427) (n := 256) (by decide +kernel) rfl (by decide +kernel) rfl ?_
    refine ab_fin.s2 (i := .iload_n 1) (k := 1) (pc' := 428) (lv' := [(0, .ref 0), (1, .int l1), (2, .int l2)]) (st' := [.int l1, .int 256, .ref 0]) (by decide +kernel) rfl rfl ?_
    refine ab_fin.s1 (i := .iadd) (k := 1) (pc' := 429) (st' := [.int ((256 : Int32) + l1), .ref 0]) (by decide +kernel) rfl rfl ?_
    refine ab_fin.s3 (i := .goto 4) (k := 3) (t := 433) (st' := [.int ((256 : Int32) + l1), .ref 0]) (by decide +kernel) (ab_gto (by decide +kernel)) ?_
    exact ab_fin.lv ⟨(List.forall_mem_cons.mpr ⟨(List.Mem.head _), (List.forall_mem_cons.mpr ⟨(List.Mem.tail _ (List.Mem.head _)), (fun _ h => absurd h List.not_mem_nil)⟩)⟩), (show ([0, 1, 2] : List Nat).Nodup from by decide)⟩ w
theorem S_X23_next_433 {Z : zT} {d : Nat} {σ : Sg} {l1 : Int32} {s1 : Int32} {K : kS} (F : FX ΦR σ.sh σ.r) (w : (l1 ≤ 32 → K (.inl none) ((σ.wi 0 19 s1).wi 0 17 (5 : Int32))) ∧ (¬ l1 ≤ 32 → B_J0_indexOf_0f7a4_0 Z d (σ.wi 0 19 s1) (Rf.old 184) (((Int32.toUInt32 l1) % 65536).toInt32) (yI K fun v3 τ1 => (v3 < 0 → K (.inl none) (τ1.wi 0 17 (5 : Int32))) ∧ (¬ v3 < 0 → K (.inl none) (τ1.wi 0 17 (4 : Int32)))))) : B_X23_next_433 Z (d + 1) σ l1 s1 K := by
  unfold B_X23_next_433
  refine ab_fin.q_pF (ix := 213) (ci := 24) (k := 19) (h1 := conc (σ.wi 0 19 s1)) (pc' := 436) (by decide +kernel) rfl (c_pI (v := s1) (F.s s0_0) rfl) rfl rfl rfl ?_
  refine ab_fin.s2 (i := .aload_n 0) (k := 1) (pc' := 437) (lv' := [(0, .ref 0), (1, .int l1)]) (st' := [.ref 0]) (by decide +kernel) rfl rfl ?_
  refine ab_fin.s2 (i := .iload_n 1) (k := 1) (pc' := 438) (lv' := [(0, .ref 0), (1, .int l1)]) (st' := [.int l1, .ref 0]) (by decide +kernel) rfl rfl ?_
  refine ab_fin.s1i (i := .bipush 32) (k := 2) (pc' := 440) (n := 32) (by decide +kernel) rfl (by decide +kernel) rfl ?_
  refine ab_fin.br (c := l1 ≤ 32) (i := .if_icmp .le 17) (off := 17) (t := 457) (pc' := 443) (r := [.ref 0]) (by decide +kernel) rfl (by decide +kernel) rfl (fun q => ?_) (fun q => ?_)
  · replace w := w.1 q
    refine ab_fin.s1i (i := .iconst 5) (k := 1) (pc' := 458) (n := 5) (by decide +kernel) rfl (by decide +kernel) rfl ?_
    refine ab_fin.q_pF (ix := 183) (ci := 24) (k := 17) (h1 := conc ((σ.wi 0 19 s1).wi 0 17 (5 : Int32))) (pc' := 461) (by decide +kernel) rfl (c_pI (v := 5) (F.s s0_0) rfl) rfl rfl rfl ?_
    exact ab_fin.q_ret (i := .return_) (k := 1) (v := none) (by decide +kernel) rfl F w
  · replace w := w.2 q
    refine ab_fin.s8 (i := .ldc 218) (k := 2) (pc' := 445) (st' := [.retAddr 184, .ref 0]) (by decide +kernel) rfl rfl rfl rfl ?_
    refine ab_fin.s2 (i := .iload_n 1) (k := 1) (pc' := 446) (lv' := [(0, .ref 0), (1, .int l1)]) (st' := [.int l1, .retAddr 184, .ref 0]) (by decide +kernel) rfl rfl ?_
    refine ab_fin.s1 (i := .i2c) (k := 1) (pc' := 447) (st' := [.int (((Int32.toUInt32 l1) % 65536).toInt32), .retAddr 184, .ref 0]) (by decide +kernel) rfl rfl ?_
    refine ab_fin.q_yI (i := .invokevirtual 220) (k := 3) (y := 9475) (As := [.retAddr 184, .int (((Int32.toUInt32 l1) % 65536).toInt32)]) (rest := [.ref 0]) (M' := (mJ0_indexOf_0f7a4, [])) (lv2 := [(0, .retAddr 184), (1, .int (((Int32.toUInt32 l1) % 65536).toInt32))]) (pc' := 450) (X := K) (by decide +kernel) (ab_c6x rfl rfl rfl ⟨(Nat.le_of_ble_eq_true rfl), (Nat.le_of_ble_eq_true rfl)⟩ rfl) rfl (Nat.le_of_ble_eq_true rfl) rfl rfl (hY_no fun E => rfl) w (fun v3 τ1 F2 w => ?_)
    refine ab_fin.br (c := v3 < 0) (i := .ifCond .lt 7) (off := 7) (t := 457) (pc' := 453) (r := [.ref 0]) (by decide +kernel) rfl (by decide +kernel) rfl (fun q => ?_) (fun q => ?_)
    · replace w := w.1 q
      refine ab_fin.s1i (i := .iconst 5) (k := 1) (pc' := 458) (n := 5) (by decide +kernel) rfl (by decide +kernel) rfl ?_
      refine ab_fin.q_pF (ix := 183) (ci := 24) (k := 17) (h1 := conc (τ1.wi 0 17 (5 : Int32))) (pc' := 461) (by decide +kernel) rfl (c_pI (v := 5) (F2.s s0_0) rfl) rfl rfl rfl ?_
      exact ab_fin.q_ret (i := .return_) (k := 1) (v := none) (by decide +kernel) rfl F2 w
    · replace w := w.2 q
      refine ab_fin.s1i (i := .iconst 4) (k := 1) (pc' := 454) (n := 4) (by decide +kernel) rfl (by decide +kernel) rfl ?_
      refine ab_fin.s3 (i := .goto 4) (k := 3) (t := 458) (st' := [.int 4, .ref 0]) (by decide +kernel) (ab_gto (by decide +kernel)) ?_
      refine ab_fin.q_pF (ix := 183) (ci := 24) (k := 17) (h1 := conc (τ1.wi 0 17 (4 : Int32))) (pc' := 461) (by decide +kernel) rfl (c_pI (v := 4) (F2.s s0_0) rfl) rfl rfl rfl ?_
      exact ab_fin.q_ret (i := .return_) (k := 1) (v := none) (by decide +kernel) rfl F2 w
theorem S_X23_no_0 {Z : zT} {d : Nat} {σ : Sg}  {K : kS} (F : FX ΦR σ.sh σ.r) (w : B_X22_init_0 Z d (σ.al (Sh.obj 23)) σ.sh.length ((σ.al (Sh.obj 23)).i 0 18) (yN y0 fun τ2 => K (.inl (some (.ref σ.sh.length))) τ2)) : B_X23_no_0 Z (d + 1) σ  K := by
  unfold B_X23_no_0
  have F1 := FX.al (s := Sh.obj 23) hΦR (σ := σ) F
  refine ab_fin.newO (ix := 223) (n := σ.sh.length) (h1 := conc (σ.al (Sh.obj 23))) (pc' := 3) (by decide +kernel) rfl (conc_len _) (by rw [conc_al]; rfl) rfl ?_
  refine ab_fin.s1 (i := .dup) (k := 1) (pc' := 4) (st' := [.ref σ.sh.length, .ref σ.sh.length]) (by decide +kernel) rfl rfl ?_
  refine ab_fin.s2 (i := .aload_n 0) (k := 1) (pc' := 5) (lv' := [(0, .ref 0)]) (st' := [.ref 0, .ref σ.sh.length, .ref σ.sh.length]) (by decide +kernel) rfl rfl ?_
  refine ab_fin.q_rI (x := ((σ.al (Sh.obj 23)).i 0 18)) (ix := 106) (ci := 24) (k := 18) (pc' := 8) (by decide +kernel) rfl (c_rI (F1.s s0_0) rfl) rfl ?_
  refine ab_fin.q_yN (i := .invokespecial 225) (k := 3) (y := 5632) (As := [.ref σ.sh.length, .int ((σ.al (Sh.obj 23)).i 0 18)]) (rest := [.ref σ.sh.length]) (M' := (mX22_init, [])) (lv2 := [(0, .ref σ.sh.length), (1, .int ((σ.al (Sh.obj 23)).i 0 18))]) (pc' := 11) (X := y0) (by decide +kernel) (ab_ci (Or.inl rfl) rfl rfl ⟨(Nat.le_of_ble_eq_true rfl), (Nat.le_of_ble_eq_true rfl)⟩ rfl) rfl (Nat.le_of_ble_eq_true rfl) rfl rfl hY_0 w (fun τ2 F3 w => ?_)
  exact ab_fin.q_ret (i := .areturn) (k := 1) (v := some (.ref σ.sh.length)) (by decide +kernel) rfl F3 w
theorem S_X23_is_0 {Z : zT} {d : Nat} {σ : Sg} {l1 : Int32} {K : kS} (F : FX ΦR σ.sh σ.r) (w : (¬ (σ.i 0 17) = 4 → K (.inl (some (.int 0))) σ) ∧ ((σ.i 0 17) = 4 → (¬ (σ.i 0 19) = l1 → K (.inl (some (.int 0))) σ) ∧ ((σ.i 0 19) = l1 → K (.inl (some (.int 1))) σ))) : B_X23_is_0 Z (d + 1) σ l1 K := by
  unfold B_X23_is_0
  refine ab_fin.s2 (i := .aload_n 0) (k := 1) (pc' := 1) (lv' := [(0, .ref 0), (1, .int l1)]) (st' := [.ref 0]) (by decide +kernel) rfl rfl ?_
  refine ab_fin.q_rI (x := (σ.i 0 17)) (ix := 183) (ci := 24) (k := 17) (pc' := 4) (by decide +kernel) rfl (c_rI (F.s s0_0) rfl) rfl ?_
  refine ab_fin.s1i (i := .iconst 4) (k := 1) (pc' := 5) (n := 4) (by decide +kernel) rfl (by decide +kernel) rfl ?_
  refine ab_fin.br (c := ¬ (σ.i 0 17) = 4) (i := .if_icmp .ne 15) (off := 15) (t := 20) (pc' := 8) (r := []) (by decide +kernel) rfl (by decide +kernel) rfl (fun q => ?_) (fun q => ?_)
  · replace w := w.1 q
    refine ab_fin.s1i (i := .iconst 0) (k := 1) (pc' := 21) (n := 0) (by decide +kernel) rfl (by decide +kernel) rfl ?_
    exact ab_fin.q_ret (i := .ireturn) (k := 1) (v := some (.int 0)) (by decide +kernel) rfl F w
  · replace w := w.2 (Decidable.of_not_not q)
    refine ab_fin.s2 (i := .aload_n 0) (k := 1) (pc' := 9) (lv' := [(0, .ref 0), (1, .int l1)]) (st' := [.ref 0]) (by decide +kernel) rfl rfl ?_
    refine ab_fin.q_rI (x := (σ.i 0 19)) (ix := 213) (ci := 24) (k := 19) (pc' := 12) (by decide +kernel) rfl (c_rI (F.s s0_0) rfl) rfl ?_
    refine ab_fin.s2 (i := .iload_n 1) (k := 1) (pc' := 13) (lv' := [(0, .ref 0), (1, .int l1)]) (st' := [.int l1, .int (σ.i 0 19)]) (by decide +kernel) rfl rfl ?_
    refine ab_fin.br (c := ¬ (σ.i 0 19) = l1) (i := .if_icmp .ne 7) (off := 7) (t := 20) (pc' := 16) (r := []) (by decide +kernel) rfl (by decide +kernel) rfl (fun q => ?_) (fun q => ?_)
    · replace w := w.1 q
      refine ab_fin.s1i (i := .iconst 0) (k := 1) (pc' := 21) (n := 0) (by decide +kernel) rfl (by decide +kernel) rfl ?_
      exact ab_fin.q_ret (i := .ireturn) (k := 1) (v := some (.int 0)) (by decide +kernel) rfl F w
    · replace w := w.2 (Decidable.of_not_not q)
      refine ab_fin.s1i (i := .iconst 1) (k := 1) (pc' := 17) (n := 1) (by decide +kernel) rfl (by decide +kernel) rfl ?_
      refine ab_fin.s3 (i := .goto 4) (k := 3) (t := 21) (st' := [.int 1]) (by decide +kernel) (ab_gto (by decide +kernel)) ?_
      exact ab_fin.q_ret (i := .ireturn) (k := 1) (v := some (.int 1)) (by decide +kernel) rfl F w
theorem S_X23_is__0 {Z : zT} {d : Nat} {σ : Sg} {l1 : Rf} {K : kS} (F : FX ΦR σ.sh σ.r) (w : (¬ (σ.i 0 17) = 1 → K (.inl (some (.int 0))) σ) ∧ ((σ.i 0 17) = 1 → ∃ j1, (σ.r 0 25) = Rf.old j1 ∧ hb_Xt j1 = true ∧ (B_J0_equals_9ea2d_0 Z d σ (Rf.old j1) l1 (yI K fun v6 τ4 => (v6 = 0 → K (.inl (some (.int 0))) τ4) ∧ (¬ v6 = 0 → K (.inl (some (.int 1))) τ4))))) : B_X23_is__0 Z (d + 1) σ l1 K := by
  unfold B_X23_is__0
  refine ab_fin.s2 (i := .aload_n 0) (k := 1) (pc' := 1) (lv' := [(0, .ref 0), (1, rv l1)]) (st' := [.ref 0]) (by decide +kernel) rfl rfl ?_
  refine ab_fin.q_rI (x := (σ.i 0 17)) (ix := 183) (ci := 24) (k := 17) (pc' := 4) (by decide +kernel) rfl (c_rI (F.s s0_0) rfl) rfl ?_
  refine ab_fin.s1i (i := .iconst 1) (k := 1) (pc' := 5) (n := 1) (by decide +kernel) rfl (by decide +kernel) rfl ?_
  refine ab_fin.br (c := ¬ (σ.i 0 17) = 1) (i := .if_icmp .ne 18) (off := 18) (t := 23) (pc' := 8) (r := []) (by decide +kernel) rfl (by decide +kernel) rfl (fun q => ?_) (fun q => ?_)
  · replace w := w.1 q
    refine ab_fin.s1i (i := .iconst 0) (k := 1) (pc' := 24) (n := 0) (by decide +kernel) rfl (by decide +kernel) rfl ?_
    exact ab_fin.q_ret (i := .ireturn) (k := 1) (v := some (.int 0)) (by decide +kernel) rfl F w
  · replace w := w.2 (Decidable.of_not_not q)
    refine ab_fin.s2 (i := .aload_n 0) (k := 1) (pc' := 9) (lv' := [(0, .ref 0), (1, rv l1)]) (st' := [.ref 0]) (by decide +kernel) rfl rfl ?_
    refine ab_fin.q_rV (v := rv (σ.r 0 25)) (ix := 197) (ci := 24) (k := 25) (pc' := 12) (by decide +kernel) rfl (c_rV (F.s s0_0) rfl) rfl ?_
    refine ab_fin.ald (i := .aload_n 1) (n := 1) (k := 1) (pc' := 13) (Or.inl ⟨_, rfl, rfl, rfl⟩) (by decide +kernel) rfl (oR_rv _) rfl ?_
    obtain ⟨j1, e2, e3, w⟩ := w
    rw [show rv (σ.r 0 25) = .retAddr j1 from by rw [e2]; rfl]
    refine ab_fin.q_yI (i := .invokevirtual 229) (k := 3) (y := 9474) (As := [.retAddr j1, rv l1]) (rest := []) (M' := (mJ0_equals_9ea2d, [])) (lv2 := [(0, .retAddr j1), (1, rv l1)]) (pc' := 16) (X := K) (by decide +kernel) (ab_c6x rfl rfl e3 ⟨(Nat.le_of_ble_eq_true rfl), (Nat.le_of_ble_eq_true rfl)⟩ rfl) rfl (by rw [lg_cnt]; simp only [List.map_cons, List.map_nil, cI, cL, cR1, cN1, cX1, cA (oR_rv _)]; exact Nat.le_of_ble_eq_true rfl) (by rw [lvA (v := .retAddr j1) rfl, lvA (oR_rv _), lvN]) rfl (hY_no fun E => rfl) w (fun v6 τ4 F5 w => ?_)
    refine ab_fin.br (c := v6 = 0) (i := .ifCond .eq 7) (off := 7) (t := 23) (pc' := 19) (r := []) (by decide +kernel) rfl (by decide +kernel) rfl (fun q => ?_) (fun q => ?_)
    · replace w := w.1 q
      refine ab_fin.s1i (i := .iconst 0) (k := 1) (pc' := 24) (n := 0) (by decide +kernel) rfl (by decide +kernel) rfl ?_
      exact ab_fin.q_ret (i := .ireturn) (k := 1) (v := some (.int 0)) (by decide +kernel) rfl F5 w
    · replace w := w.2 q
      refine ab_fin.s1i (i := .iconst 1) (k := 1) (pc' := 20) (n := 1) (by decide +kernel) rfl (by decide +kernel) rfl ?_
      refine ab_fin.s3 (i := .goto 4) (k := 3) (t := 24) (st' := [.int 1]) (by decide +kernel) (ab_gto (by decide +kernel)) ?_
      exact ab_fin.q_ret (i := .ireturn) (k := 1) (v := some (.int 1)) (by decide +kernel) rfl F5 w
theorem S_X23_want_0 {Z : zT} {d : Nat} {σ : Sg} {l1 : Int32} {K : kS} (F : FX ΦR σ.sh σ.r) (w : B_X23_is_0 Z d σ l1 (yI K fun v3 τ1 => (¬ v3 = 0 → B_X23_next_0 Z d τ1  (yN K fun τ4 => K (.inl none) τ4)) ∧ (v3 = 0 → B_X23_no_0 Z d τ1  (yR K fun v8 τ6 => ∃ x10, aT τ6 v8 x10 ∧ K (.inr (x10, v8)) τ6)))) : B_X23_want_0 Z (d + 1) σ l1 K := by
  unfold B_X23_want_0
  refine ab_fin.s2 (i := .aload_n 0) (k := 1) (pc' := 1) (lv' := [(0, .ref 0), (1, .int l1)]) (st' := [.ref 0]) (by decide +kernel) rfl rfl ?_
  refine ab_fin.s2 (i := .iload_n 1) (k := 1) (pc' := 2) (lv' := [(0, .ref 0), (1, .int l1)]) (st' := [.int l1, .ref 0]) (by decide +kernel) rfl rfl ?_
  refine ab_fin.q_yI (i := .invokevirtual 233) (k := 3) (y := 5904) (As := [.ref 0, .int l1]) (rest := []) (M' := (mX23_is, [])) (lv2 := [(0, .ref 0), (1, .int l1)]) (pc' := 5) (X := K) (by decide +kernel) (ab_cv rfl rfl (conc_get (σ := σ) (F.s s0_0)) ⟨(Nat.le_of_ble_eq_true rfl), (Nat.le_of_ble_eq_true rfl)⟩ rfl) rfl (Nat.le_of_ble_eq_true rfl) rfl rfl (hY_no fun E => rfl) w (fun v3 τ1 F2 w => ?_)
  refine ab_fin.br (c := ¬ v3 = 0) (i := .ifCond .ne 8) (off := 8) (t := 13) (pc' := 8) (r := []) (by decide +kernel) rfl (by decide +kernel) rfl (fun q => ?_) (fun q => ?_)
  · replace w := w.1 q
    refine ab_fin.s2 (i := .aload_n 0) (k := 1) (pc' := 14) (lv' := [(0, .ref 0), (1, .int l1)]) (st' := [.ref 0]) (by decide +kernel) rfl rfl ?_
    refine ab_fin.q_yN (i := .invokevirtual 239) (k := 3) (y := 5902) (As := [.ref 0]) (rest := []) (M' := (mX23_next, [])) (lv2 := [(0, .ref 0)]) (pc' := 17) (X := K) (by decide +kernel) (ab_cv rfl rfl (conc_get (σ := τ1) (F2.s s0_0)) ⟨(Nat.le_of_ble_eq_true rfl), (Nat.le_of_ble_eq_true rfl)⟩ rfl) rfl (Nat.le_of_ble_eq_true rfl) rfl rfl (hY_no fun E => rfl) w (fun τ4 F5 w => ?_)
    exact ab_fin.q_ret (i := .return_) (k := 1) (v := none) (by decide +kernel) rfl F5 w
  · replace w := w.2 (Decidable.of_not_not q)
    refine ab_fin.s2 (i := .aload_n 0) (k := 1) (pc' := 9) (lv' := [(0, .ref 0), (1, .int l1)]) (st' := [.ref 0]) (by decide +kernel) rfl rfl ?_
    refine ab_fin.q_yR (i := .invokevirtual 235) (k := 3) (y := 5903) (As := [.ref 0]) (rest := []) (M' := (mX23_no, [])) (lv2 := [(0, .ref 0)]) (pc' := 12) (X := K) (by decide +kernel) (ab_cv rfl rfl (conc_get (σ := τ1) (F2.s s0_0)) ⟨(Nat.le_of_ble_eq_true rfl), (Nat.le_of_ble_eq_true rfl)⟩ rfl) rfl (Nat.le_of_ble_eq_true rfl) rfl rfl (hY_no fun E => rfl) w (fun v8 τ6 F7 w => ?_)
    obtain ⟨x10, e9, w⟩ := w
    exact ab_fin.q_ath (X := fun r h => ∃ τ, h = conc τ ∧ FX ΦR τ.sh τ.r ∧ K r τ) (by decide +kernel) (aT_ok e9) (fun p h ⟨τ, q, f, z⟩ => by subst q; exact ((hY_no fun E => rfl) : hY ΦR _ _ _ _ _ _ _ _ _ _) p τ f z) ⟨_, rfl, F7, w⟩
theorem S_X23_want__0 {Z : zT} {d : Nat} {σ : Sg} {l1 : Rf} {K : kS} (F : FX ΦR σ.sh σ.r) (w : B_X23_is__0 Z d σ l1 (yI K fun v3 τ1 => (¬ v3 = 0 → B_X23_next_0 Z d τ1  (yN K fun τ4 => K (.inl none) τ4)) ∧ (v3 = 0 → B_X23_no_0 Z d τ1  (yR K fun v8 τ6 => ∃ x10, aT τ6 v8 x10 ∧ K (.inr (x10, v8)) τ6)))) : B_X23_want__0 Z (d + 1) σ l1 K := by
  unfold B_X23_want__0
  refine ab_fin.s2 (i := .aload_n 0) (k := 1) (pc' := 1) (lv' := [(0, .ref 0), (1, rv l1)]) (st' := [.ref 0]) (by decide +kernel) rfl rfl ?_
  refine ab_fin.ald (i := .aload_n 1) (n := 1) (k := 1) (pc' := 2) (Or.inl ⟨_, rfl, rfl, rfl⟩) (by decide +kernel) rfl (oR_rv _) rfl ?_
  refine ab_fin.q_yI (i := .invokevirtual 242) (k := 3) (y := 5905) (As := [.ref 0, rv l1]) (rest := []) (M' := (mX23_is_, [])) (lv2 := [(0, .ref 0), (1, rv l1)]) (pc' := 5) (X := K) (by decide +kernel) (ab_cv rfl rfl (conc_get (σ := σ) (F.s s0_0)) ⟨(Nat.le_of_ble_eq_true rfl), (Nat.le_of_ble_eq_true rfl)⟩ rfl) rfl (by rw [lg_cnt]; simp only [List.map_cons, List.map_nil, cI, cL, cR1, cN1, cX1, cA (oR_rv _)]; exact Nat.le_of_ble_eq_true rfl) (by rw [lvA (v := .ref 0) rfl, lvA (oR_rv _), lvN]) rfl (hY_no fun E => rfl) w (fun v3 τ1 F2 w => ?_)
  refine ab_fin.br (c := ¬ v3 = 0) (i := .ifCond .ne 8) (off := 8) (t := 13) (pc' := 8) (r := []) (by decide +kernel) rfl (by decide +kernel) rfl (fun q => ?_) (fun q => ?_)
  · replace w := w.1 q
    refine ab_fin.s2 (i := .aload_n 0) (k := 1) (pc' := 14) (lv' := [(0, .ref 0), (1, rv l1)]) (st' := [.ref 0]) (by decide +kernel) rfl rfl ?_
    refine ab_fin.q_yN (i := .invokevirtual 239) (k := 3) (y := 5902) (As := [.ref 0]) (rest := []) (M' := (mX23_next, [])) (lv2 := [(0, .ref 0)]) (pc' := 17) (X := K) (by decide +kernel) (ab_cv rfl rfl (conc_get (σ := τ1) (F2.s s0_0)) ⟨(Nat.le_of_ble_eq_true rfl), (Nat.le_of_ble_eq_true rfl)⟩ rfl) rfl (Nat.le_of_ble_eq_true rfl) rfl rfl (hY_no fun E => rfl) w (fun τ4 F5 w => ?_)
    exact ab_fin.q_ret (i := .return_) (k := 1) (v := none) (by decide +kernel) rfl F5 w
  · replace w := w.2 (Decidable.of_not_not q)
    refine ab_fin.s2 (i := .aload_n 0) (k := 1) (pc' := 9) (lv' := [(0, .ref 0), (1, rv l1)]) (st' := [.ref 0]) (by decide +kernel) rfl rfl ?_
    refine ab_fin.q_yR (i := .invokevirtual 235) (k := 3) (y := 5903) (As := [.ref 0]) (rest := []) (M' := (mX23_no, [])) (lv2 := [(0, .ref 0)]) (pc' := 12) (X := K) (by decide +kernel) (ab_cv rfl rfl (conc_get (σ := τ1) (F2.s s0_0)) ⟨(Nat.le_of_ble_eq_true rfl), (Nat.le_of_ble_eq_true rfl)⟩ rfl) rfl (Nat.le_of_ble_eq_true rfl) rfl rfl (hY_no fun E => rfl) w (fun v8 τ6 F7 w => ?_)
    obtain ⟨x10, e9, w⟩ := w
    exact ab_fin.q_ath (X := fun r h => ∃ τ, h = conc τ ∧ FX ΦR τ.sh τ.r ∧ K r τ) (by decide +kernel) (aT_ok e9) (fun p h ⟨τ, q, f, z⟩ => by subst q; exact ((hY_no fun E => rfl) : hY ΦR _ _ _ _ _ _ _ _ _ _) p τ f z) ⟨_, rfl, F7, w⟩
theorem S_X23_skip_0 {Z : zT} {d : Nat} {σ : Sg} {l1 : Rf} {K : kS} (F : FX ΦR σ.sh σ.r) (w : B_X23_is__0 Z d σ l1 (yI K fun v3 τ1 => (¬ v3 = 0 → B_X23_next_0 Z d τ1  (yN K fun τ4 => K (.inl (some (.int 1))) τ4)) ∧ (v3 = 0 → K (.inl (some (.int 0))) τ1))) : B_X23_skip_0 Z (d + 1) σ l1 K := by
  unfold B_X23_skip_0
  refine ab_fin.s2 (i := .aload_n 0) (k := 1) (pc' := 1) (lv' := [(0, .ref 0), (1, rv l1)]) (st' := [.ref 0]) (by decide +kernel) rfl rfl ?_
  refine ab_fin.ald (i := .aload_n 1) (n := 1) (k := 1) (pc' := 2) (Or.inl ⟨_, rfl, rfl, rfl⟩) (by decide +kernel) rfl (oR_rv _) rfl ?_
  refine ab_fin.q_yI (i := .invokevirtual 242) (k := 3) (y := 5905) (As := [.ref 0, rv l1]) (rest := []) (M' := (mX23_is_, [])) (lv2 := [(0, .ref 0), (1, rv l1)]) (pc' := 5) (X := K) (by decide +kernel) (ab_cv rfl rfl (conc_get (σ := σ) (F.s s0_0)) ⟨(Nat.le_of_ble_eq_true rfl), (Nat.le_of_ble_eq_true rfl)⟩ rfl) rfl (by rw [lg_cnt]; simp only [List.map_cons, List.map_nil, cI, cL, cR1, cN1, cX1, cA (oR_rv _)]; exact Nat.le_of_ble_eq_true rfl) (by rw [lvA (v := .ref 0) rfl, lvA (oR_rv _), lvN]) rfl (hY_no fun E => rfl) w (fun v3 τ1 F2 w => ?_)
  refine ab_fin.br (c := ¬ v3 = 0) (i := .ifCond .ne 5) (off := 5) (t := 10) (pc' := 8) (r := []) (by decide +kernel) rfl (by decide +kernel) rfl (fun q => ?_) (fun q => ?_)
  · replace w := w.1 q
    refine ab_fin.s2 (i := .aload_n 0) (k := 1) (pc' := 11) (lv' := [(0, .ref 0), (1, rv l1)]) (st' := [.ref 0]) (by decide +kernel) rfl rfl ?_
    refine ab_fin.q_yN (i := .invokevirtual 239) (k := 3) (y := 5902) (As := [.ref 0]) (rest := []) (M' := (mX23_next, [])) (lv2 := [(0, .ref 0)]) (pc' := 14) (X := K) (by decide +kernel) (ab_cv rfl rfl (conc_get (σ := τ1) (F2.s s0_0)) ⟨(Nat.le_of_ble_eq_true rfl), (Nat.le_of_ble_eq_true rfl)⟩ rfl) rfl (Nat.le_of_ble_eq_true rfl) rfl rfl (hY_no fun E => rfl) w (fun τ4 F5 w => ?_)
    refine ab_fin.s1i (i := .iconst 1) (k := 1) (pc' := 15) (n := 1) (by decide +kernel) rfl (by decide +kernel) rfl ?_
    exact ab_fin.q_ret (i := .ireturn) (k := 1) (v := some (.int 1)) (by decide +kernel) rfl F5 w
  · replace w := w.2 (Decidable.of_not_not q)
    refine ab_fin.s1i (i := .iconst 0) (k := 1) (pc' := 9) (n := 0) (by decide +kernel) rfl (by decide +kernel) rfl ?_
    exact ab_fin.q_ret (i := .ireturn) (k := 1) (v := some (.int 0)) (by decide +kernel) rfl F2 w
theorem S_X23_name_0 {Z : zT} {d : Nat} {σ : Sg}  {K : kS} (F : FX ΦR σ.sh σ.r) (w : ((σ.i 0 17) = 2 → B_X23_next_0 Z d σ  (yN K fun τ1 => K (.inl (some (.int (((σ.i 0 18) <<< ((5 : Int32) &&& 31)) ||| (σ.i 0 26))))) τ1)) ∧ (¬ (σ.i 0 17) = 2 → B_X23_no_0 Z d σ  (yR K fun v5 τ3 => ∃ x7, aT τ3 v5 x7 ∧ K (.inr (x7, v5)) τ3))) : B_X23_name_0 Z (d + 1) σ  K := by
  unfold B_X23_name_0
  refine ab_fin.s2 (i := .aload_n 0) (k := 1) (pc' := 1) (lv' := [(0, .ref 0)]) (st' := [.ref 0]) (by decide +kernel) rfl rfl ?_
  refine ab_fin.q_rI (x := (σ.i 0 17)) (ix := 183) (ci := 24) (k := 17) (pc' := 4) (by decide +kernel) rfl (c_rI (F.s s0_0) rfl) rfl ?_
  refine ab_fin.s1i (i := .iconst 2) (k := 1) (pc' := 5) (n := 2) (by decide +kernel) rfl (by decide +kernel) rfl ?_
  refine ab_fin.br (c := (σ.i 0 17) = 2) (i := .if_icmp .eq 8) (off := 8) (t := 13) (pc' := 8) (r := []) (by decide +kernel) rfl (by decide +kernel) rfl (fun q => ?_) (fun q => ?_)
  · replace w := w.1 q
    refine ab_fin.s2 (i := .aload_n 0) (k := 1) (pc' := 14) (lv' := [(0, .ref 0)]) (st' := [.ref 0]) (by decide +kernel) rfl rfl ?_
    refine ab_fin.q_rI (x := (σ.i 0 18)) (ix := 106) (ci := 24) (k := 18) (pc' := 17) (by decide +kernel) rfl (c_rI (F.s s0_0) rfl) rfl ?_
    refine ab_fin.s1i (i := .iconst 5) (k := 1) (pc' := 18) (n := 5) (by decide +kernel) rfl (by decide +kernel) rfl ?_
    refine ab_fin.s1 (i := .ishl) (k := 1) (pc' := 19) (st' := [.int ((σ.i 0 18) <<< ((5 : Int32) &&& 31))]) (by decide +kernel) rfl rfl ?_
    refine ab_fin.s2 (i := .aload_n 0) (k := 1) (pc' := 20) (lv' := [(0, .ref 0)]) (st' := [.ref 0, .int ((σ.i 0 18) <<< ((5 : Int32) &&& 31))]) (by decide +kernel) rfl rfl ?_
    refine ab_fin.q_rI (x := (σ.i 0 26)) (ix := 99) (ci := 24) (k := 26) (pc' := 23) (by decide +kernel) rfl (c_rI (F.s s0_0) rfl) rfl ?_
    refine ab_fin.s1 (i := .ior) (k := 1) (pc' := 24) (st' := [.int (((σ.i 0 18) <<< ((5 : Int32) &&& 31)) ||| (σ.i 0 26))]) (by decide +kernel) rfl rfl ?_
    refine ab_fin.s2 (i := .istore_n 1) (k := 1) (pc' := 25) (lv' := [(1, .int (((σ.i 0 18) <<< ((5 : Int32) &&& 31)) ||| (σ.i 0 26))), (0, .ref 0)]) (st' := []) (by decide +kernel) rfl rfl ?_
    refine ab_fin.s2 (i := .aload_n 0) (k := 1) (pc' := 26) (lv' := [(1, .int (((σ.i 0 18) <<< ((5 : Int32) &&& 31)) ||| (σ.i 0 26))), (0, .ref 0)]) (st' := [.ref 0]) (by decide +kernel) rfl rfl ?_
    refine ab_fin.q_yN (i := .invokevirtual 239) (k := 3) (y := 5902) (As := [.ref 0]) (rest := []) (M' := (mX23_next, [])) (lv2 := [(0, .ref 0)]) (pc' := 29) (X := K) (by decide +kernel) (ab_cv rfl rfl (conc_get (σ := σ) (F.s s0_0)) ⟨(Nat.le_of_ble_eq_true rfl), (Nat.le_of_ble_eq_true rfl)⟩ rfl) rfl (Nat.le_of_ble_eq_true rfl) rfl rfl (hY_no fun E => rfl) w (fun τ1 F2 w => ?_)
    refine ab_fin.s2 (i := .iload_n 1) (k := 1) (pc' := 30) (lv' := [(1, .int (((σ.i 0 18) <<< ((5 : Int32) &&& 31)) ||| (σ.i 0 26))), (0, .ref 0)]) (st' := [.int (((σ.i 0 18) <<< ((5 : Int32) &&& 31)) ||| (σ.i 0 26))]) (by decide +kernel) rfl rfl ?_
    exact ab_fin.q_ret (i := .ireturn) (k := 1) (v := some (.int (((σ.i 0 18) <<< ((5 : Int32) &&& 31)) ||| (σ.i 0 26)))) (by decide +kernel) rfl F2 w
  · replace w := w.2 q
    refine ab_fin.s2 (i := .aload_n 0) (k := 1) (pc' := 9) (lv' := [(0, .ref 0)]) (st' := [.ref 0]) (by decide +kernel) rfl rfl ?_
    refine ab_fin.q_yR (i := .invokevirtual 235) (k := 3) (y := 5903) (As := [.ref 0]) (rest := []) (M' := (mX23_no, [])) (lv2 := [(0, .ref 0)]) (pc' := 12) (X := K) (by decide +kernel) (ab_cv rfl rfl (conc_get (σ := σ) (F.s s0_0)) ⟨(Nat.le_of_ble_eq_true rfl), (Nat.le_of_ble_eq_true rfl)⟩ rfl) rfl (Nat.le_of_ble_eq_true rfl) rfl rfl (hY_no fun E => rfl) w (fun v5 τ3 F4 w => ?_)
    obtain ⟨x7, e6, w⟩ := w
    exact ab_fin.q_ath (X := fun r h => ∃ τ, h = conc τ ∧ FX ΦR τ.sh τ.r ∧ K r τ) (by decide +kernel) (aT_ok e6) (fun p h ⟨τ, q, f, z⟩ => by subst q; exact ((hY_no fun E => rfl) : hY ΦR _ _ _ _ _ _ _ _ _ _) p τ f z) ⟨_, rfl, F4, w⟩
theorem S_X23_breaks_0 {Z : zT} {d : Nat} {σ : Sg} {l1 : Int32} {l2 : Int32} {K : kS} (F : FX ΦR σ.sh σ.r) (w : ((σ.i 0 23) < 0 → K (.inl none) (((σ.wi 0 27 ((σ.i 0 27) + (1 : Int32))).wi 0 23 l2).wi 0 24 l1)) ∧ (¬ (σ.i 0 23) < 0 → ((σ.i 0 23) < l2 → K (.inl none) (σ.wi 0 27 ((σ.i 0 27) + (1 : Int32)))) ∧ (¬ (σ.i 0 23) < l2 → (¬ l2 = (σ.i 0 23) → K (.inl none) (((σ.wi 0 27 ((σ.i 0 27) + (1 : Int32))).wi 0 23 l2).wi 0 24 l1)) ∧ (l2 = (σ.i 0 23) → (l1 < (σ.i 0 24) → K (.inl none) (((σ.wi 0 27 ((σ.i 0 27) + (1 : Int32))).wi 0 23 l2).wi 0 24 l1)) ∧ (¬ l1 < (σ.i 0 24) → K (.inl none) (σ.wi 0 27 ((σ.i 0 27) + (1 : Int32)))))))) : B_X23_breaks_0 Z (d + 1) σ l1 l2 K := by
  unfold B_X23_breaks_0
  refine ab_fin.s2 (i := .aload_n 0) (k := 1) (pc' := 1) (lv' := [(0, .ref 0), (1, .int l1), (2, .int l2)]) (st' := [.ref 0]) (by decide +kernel) rfl rfl ?_
  refine ab_fin.s1 (i := .dup) (k := 1) (pc' := 2) (st' := [.ref 0, .ref 0]) (by decide +kernel) rfl rfl ?_
  refine ab_fin.q_rI (x := (σ.i 0 27)) (ix := 244) (ci := 24) (k := 27) (pc' := 5) (by decide +kernel) rfl (c_rI (F.s s0_0) rfl) rfl ?_
  refine ab_fin.s1i (i := .iconst 1) (k := 1) (pc' := 6) (n := 1) (by decide +kernel) rfl (by decide +kernel) rfl ?_
  refine ab_fin.s1 (i := .iadd) (k := 1) (pc' := 7) (st' := [.int ((σ.i 0 27) + (1 : Int32)), .ref 0]) (by decide +kernel) rfl rfl ?_
  refine ab_fin.q_pF (ix := 244) (ci := 24) (k := 27) (h1 := conc (σ.wi 0 27 ((σ.i 0 27) + (1 : Int32)))) (pc' := 10) (by decide +kernel) rfl (c_pI (v := ((σ.i 0 27) + (1 : Int32))) (F.s s0_0) rfl) rfl rfl rfl ?_
  refine ab_fin.s2 (i := .aload_n 0) (k := 1) (pc' := 11) (lv' := [(0, .ref 0), (1, .int l1), (2, .int l2)]) (st' := [.ref 0]) (by decide +kernel) rfl rfl ?_
  refine ab_fin.q_rI (x := (σ.i 0 23)) (ix := 247) (ci := 24) (k := 23) (pc' := 14) (by decide +kernel) rfl (c_rI (F.s s0_0) rfl) rfl ?_
  refine ab_fin.br (c := (σ.i 0 23) < 0) (i := .ifCond .lt 28) (off := 28) (t := 42) (pc' := 17) (r := []) (by decide +kernel) rfl (by decide +kernel) rfl (fun q => ?_) (fun q => ?_)
  · replace w := w.1 q
    refine ab_fin.s2 (i := .aload_n 0) (k := 1) (pc' := 43) (lv' := [(0, .ref 0), (1, .int l1), (2, .int l2)]) (st' := [.ref 0]) (by decide +kernel) rfl rfl ?_
    refine ab_fin.s2 (i := .iload_n 2) (k := 1) (pc' := 44) (lv' := [(0, .ref 0), (1, .int l1), (2, .int l2)]) (st' := [.int l2, .ref 0]) (by decide +kernel) rfl rfl ?_
    refine ab_fin.q_pF (ix := 247) (ci := 24) (k := 23) (h1 := conc ((σ.wi 0 27 ((σ.i 0 27) + (1 : Int32))).wi 0 23 l2)) (pc' := 47) (by decide +kernel) rfl (c_pI (v := l2) (F.s s0_0) rfl) rfl rfl rfl ?_
    refine ab_fin.s2 (i := .aload_n 0) (k := 1) (pc' := 48) (lv' := [(0, .ref 0), (1, .int l1), (2, .int l2)]) (st' := [.ref 0]) (by decide +kernel) rfl rfl ?_
    refine ab_fin.s2 (i := .iload_n 1) (k := 1) (pc' := 49) (lv' := [(0, .ref 0), (1, .int l1), (2, .int l2)]) (st' := [.int l1, .ref 0]) (by decide +kernel) rfl rfl ?_
    refine ab_fin.q_pF (ix := 250) (ci := 24) (k := 24) (h1 := conc (((σ.wi 0 27 ((σ.i 0 27) + (1 : Int32))).wi 0 23 l2).wi 0 24 l1)) (pc' := 52) (by decide +kernel) rfl (c_pI (v := l1) (F.s s0_0) rfl) rfl rfl rfl ?_
    exact ab_fin.q_ret (i := .return_) (k := 1) (v := none) (by decide +kernel) rfl F w
  · replace w := w.2 q
    refine ab_fin.s2 (i := .iload_n 2) (k := 1) (pc' := 18) (lv' := [(0, .ref 0), (1, .int l1), (2, .int l2)]) (st' := [.int l2]) (by decide +kernel) rfl rfl ?_
    refine ab_fin.s2 (i := .aload_n 0) (k := 1) (pc' := 19) (lv' := [(0, .ref 0), (1, .int l1), (2, .int l2)]) (st' := [.ref 0, .int l2]) (by decide +kernel) rfl rfl ?_
    refine ab_fin.q_rI (x := (σ.i 0 23)) (ix := 247) (ci := 24) (k := 23) (pc' := 22) (by decide +kernel) rfl (c_rI (F.s s0_0) rfl) rfl ?_
    refine ab_fin.br (c := (σ.i 0 23) < l2) (i := .if_icmp .gt 19) (off := 19) (t := 41) (pc' := 25) (r := []) (by decide +kernel) rfl (by decide +kernel) rfl (fun q => ?_) (fun q => ?_)
    · replace w := w.1 q
      exact ab_fin.q_ret (i := .return_) (k := 1) (v := none) (by decide +kernel) rfl F w
    · replace w := w.2 q
      refine ab_fin.s2 (i := .iload_n 2) (k := 1) (pc' := 26) (lv' := [(0, .ref 0), (1, .int l1), (2, .int l2)]) (st' := [.int l2]) (by decide +kernel) rfl rfl ?_
      refine ab_fin.s2 (i := .aload_n 0) (k := 1) (pc' := 27) (lv' := [(0, .ref 0), (1, .int l1), (2, .int l2)]) (st' := [.ref 0, .int l2]) (by decide +kernel) rfl rfl ?_
      refine ab_fin.q_rI (x := (σ.i 0 23)) (ix := 247) (ci := 24) (k := 23) (pc' := 30) (by decide +kernel) rfl (c_rI (F.s s0_0) rfl) rfl ?_
      refine ab_fin.br (c := ¬ l2 = (σ.i 0 23)) (i := .if_icmp .ne 12) (off := 12) (t := 42) (pc' := 33) (r := []) (by decide +kernel) rfl (by decide +kernel) rfl (fun q => ?_) (fun q => ?_)
      · replace w := w.1 q
        refine ab_fin.s2 (i := .aload_n 0) (k := 1) (pc' := 43) (lv' := [(0, .ref 0), (1, .int l1), (2, .int l2)]) (st' := [.ref 0]) (by decide +kernel) rfl rfl ?_
        refine ab_fin.s2 (i := .iload_n 2) (k := 1) (pc' := 44) (lv' := [(0, .ref 0), (1, .int l1), (2, .int l2)]) (st' := [.int l2, .ref 0]) (by decide +kernel) rfl rfl ?_
        refine ab_fin.q_pF (ix := 247) (ci := 24) (k := 23) (h1 := conc ((σ.wi 0 27 ((σ.i 0 27) + (1 : Int32))).wi 0 23 l2)) (pc' := 47) (by decide +kernel) rfl (c_pI (v := l2) (F.s s0_0) rfl) rfl rfl rfl ?_
        refine ab_fin.s2 (i := .aload_n 0) (k := 1) (pc' := 48) (lv' := [(0, .ref 0), (1, .int l1), (2, .int l2)]) (st' := [.ref 0]) (by decide +kernel) rfl rfl ?_
        refine ab_fin.s2 (i := .iload_n 1) (k := 1) (pc' := 49) (lv' := [(0, .ref 0), (1, .int l1), (2, .int l2)]) (st' := [.int l1, .ref 0]) (by decide +kernel) rfl rfl ?_
        refine ab_fin.q_pF (ix := 250) (ci := 24) (k := 24) (h1 := conc (((σ.wi 0 27 ((σ.i 0 27) + (1 : Int32))).wi 0 23 l2).wi 0 24 l1)) (pc' := 52) (by decide +kernel) rfl (c_pI (v := l1) (F.s s0_0) rfl) rfl rfl rfl ?_
        exact ab_fin.q_ret (i := .return_) (k := 1) (v := none) (by decide +kernel) rfl F w
      · replace w := w.2 (Decidable.of_not_not q)
        refine ab_fin.s2 (i := .iload_n 1) (k := 1) (pc' := 34) (lv' := [(0, .ref 0), (1, .int l1), (2, .int l2)]) (st' := [.int l1]) (by decide +kernel) rfl rfl ?_
        refine ab_fin.s2 (i := .aload_n 0) (k := 1) (pc' := 35) (lv' := [(0, .ref 0), (1, .int l1), (2, .int l2)]) (st' := [.ref 0, .int l1]) (by decide +kernel) rfl rfl ?_
        refine ab_fin.q_rI (x := (σ.i 0 24)) (ix := 250) (ci := 24) (k := 24) (pc' := 38) (by decide +kernel) rfl (c_rI (F.s s0_0) rfl) rfl ?_
        refine ab_fin.br (c := l1 < (σ.i 0 24)) (i := .if_icmp .lt 4) (off := 4) (t := 42) (pc' := 41) (r := []) (by decide +kernel) rfl (by decide +kernel) rfl (fun q => ?_) (fun q => ?_)
        · replace w := w.1 q
          refine ab_fin.s2 (i := .aload_n 0) (k := 1) (pc' := 43) (lv' := [(0, .ref 0), (1, .int l1), (2, .int l2)]) (st' := [.ref 0]) (by decide +kernel) rfl rfl ?_
          refine ab_fin.s2 (i := .iload_n 2) (k := 1) (pc' := 44) (lv' := [(0, .ref 0), (1, .int l1), (2, .int l2)]) (st' := [.int l2, .ref 0]) (by decide +kernel) rfl rfl ?_
          refine ab_fin.q_pF (ix := 247) (ci := 24) (k := 23) (h1 := conc ((σ.wi 0 27 ((σ.i 0 27) + (1 : Int32))).wi 0 23 l2)) (pc' := 47) (by decide +kernel) rfl (c_pI (v := l2) (F.s s0_0) rfl) rfl rfl rfl ?_
          refine ab_fin.s2 (i := .aload_n 0) (k := 1) (pc' := 48) (lv' := [(0, .ref 0), (1, .int l1), (2, .int l2)]) (st' := [.ref 0]) (by decide +kernel) rfl rfl ?_
          refine ab_fin.s2 (i := .iload_n 1) (k := 1) (pc' := 49) (lv' := [(0, .ref 0), (1, .int l1), (2, .int l2)]) (st' := [.int l1, .ref 0]) (by decide +kernel) rfl rfl ?_
          refine ab_fin.q_pF (ix := 250) (ci := 24) (k := 24) (h1 := conc (((σ.wi 0 27 ((σ.i 0 27) + (1 : Int32))).wi 0 23 l2).wi 0 24 l1)) (pc' := 52) (by decide +kernel) rfl (c_pI (v := l1) (F.s s0_0) rfl) rfl rfl rfl ?_
          exact ab_fin.q_ret (i := .return_) (k := 1) (v := none) (by decide +kernel) rfl F w
        · replace w := w.2 q
          exact ab_fin.q_ret (i := .return_) (k := 1) (v := none) (by decide +kernel) rfl F w
theorem S_X23_into_0 {Z : zT} {d : Nat} {σ : Sg}  {K : kS} (F : FX ΦR σ.sh σ.r) (w : (¬ (σ.i 0 20) = 12 → K (.inl none) (σ.wi 0 20 ((σ.i 0 20) + (1 : Int32)))) ∧ ((σ.i 0 20) = 12 → B_X23_no_0 Z d σ  (yR K fun v3 τ1 => ∃ x5, aT τ1 v3 x5 ∧ K (.inr (x5, v3)) τ1))) : B_X23_into_0 Z (d + 1) σ  K := by
  unfold B_X23_into_0
  refine ab_fin.s2 (i := .aload_n 0) (k := 1) (pc' := 1) (lv' := [(0, .ref 0)]) (st' := [.ref 0]) (by decide +kernel) rfl rfl ?_
  refine ab_fin.q_rI (x := (σ.i 0 20)) (ix := 253) (ci := 24) (k := 20) (pc' := 4) (by decide +kernel) rfl (c_rI (F.s s0_0) rfl) rfl ?_
  refine ab_fin.s1i (i := .bipush 12) (k := 2) (pc' := 6) (n := 12) (by decide +kernel) rfl (by decide +kernel) rfl ?_
  refine ab_fin.br (c := ¬ (σ.i 0 20) = 12) (i := .if_icmp .ne 8) (off := 8) (t := 14) (pc' := 9) (r := []) (by decide +kernel) rfl (by decide +kernel) rfl (fun q => ?_) (fun q => ?_)
  · replace w := w.1 q
    refine ab_fin.s2 (i := .aload_n 0) (k := 1) (pc' := 15) (lv' := [(0, .ref 0)]) (st' := [.ref 0]) (by decide +kernel) rfl rfl ?_
    refine ab_fin.s1 (i := .dup) (k := 1) (pc' := 16) (st' := [.ref 0, .ref 0]) (by decide +kernel) rfl rfl ?_
    refine ab_fin.q_rI (x := (σ.i 0 20)) (ix := 253) (ci := 24) (k := 20) (pc' := 19) (by decide +kernel) rfl (c_rI (F.s s0_0) rfl) rfl ?_
    refine ab_fin.s1i (i := .iconst 1) (k := 1) (pc' := 20) (n := 1) (by decide +kernel) rfl (by decide +kernel) rfl ?_
    refine ab_fin.s1 (i := .iadd) (k := 1) (pc' := 21) (st' := [.int ((σ.i 0 20) + (1 : Int32)), .ref 0]) (by decide +kernel) rfl rfl ?_
    refine ab_fin.q_pF (ix := 253) (ci := 24) (k := 20) (h1 := conc (σ.wi 0 20 ((σ.i 0 20) + (1 : Int32)))) (pc' := 24) (by decide +kernel) rfl (c_pI (v := ((σ.i 0 20) + (1 : Int32))) (F.s s0_0) rfl) rfl rfl rfl ?_
    exact ab_fin.q_ret (i := .return_) (k := 1) (v := none) (by decide +kernel) rfl F w
  · replace w := w.2 (Decidable.of_not_not q)
    refine ab_fin.s2 (i := .aload_n 0) (k := 1) (pc' := 10) (lv' := [(0, .ref 0)]) (st' := [.ref 0]) (by decide +kernel) rfl rfl ?_
    refine ab_fin.q_yR (i := .invokevirtual 235) (k := 3) (y := 5903) (As := [.ref 0]) (rest := []) (M' := (mX23_no, [])) (lv2 := [(0, .ref 0)]) (pc' := 13) (X := K) (by decide +kernel) (ab_cv rfl rfl (conc_get (σ := σ) (F.s s0_0)) ⟨(Nat.le_of_ble_eq_true rfl), (Nat.le_of_ble_eq_true rfl)⟩ rfl) rfl (Nat.le_of_ble_eq_true rfl) rfl rfl (hY_no fun E => rfl) w (fun v3 τ1 F2 w => ?_)
    obtain ⟨x5, e4, w⟩ := w
    exact ab_fin.q_ath (X := fun r h => ∃ τ, h = conc τ ∧ FX ΦR τ.sh τ.r ∧ K r τ) (by decide +kernel) (aT_ok e4) (fun p h ⟨τ, q, f, z⟩ => by subst q; exact ((hY_no fun E => rfl) : hY ΦR _ _ _ _ _ _ _ _ _ _) p τ f z) ⟨_, rfl, F2, w⟩
theorem S_X23_counted_0 {Z : zT} {d : Nat} {σ : Sg} {l1 : Int32} {K : kS} (F : FX ΦR σ.sh σ.r) (w : (¬ (σ.i 0 21) = 300 → K (.inl none) (σ.wi 0 21 ((σ.i 0 21) + (1 : Int32)))) ∧ ((σ.i 0 21) = 300 → B_X23_breaks_0 Z d σ 7 l1 (yN K fun τ1 => K (.inl none) (τ1.wi 0 21 ((τ1.i 0 21) + (1 : Int32)))))) : B_X23_counted_0 Z (d + 1) σ l1 K := by
  unfold B_X23_counted_0
  refine ab_fin.s2 (i := .aload_n 0) (k := 1) (pc' := 1) (lv' := [(0, .ref 0), (1, .int l1)]) (st' := [.ref 0]) (by decide +kernel) rfl rfl ?_
  refine ab_fin.q_rI (x := (σ.i 0 21)) (ix := 256) (ci := 24) (k := 21) (pc' := 4) (by decide +kernel) rfl (c_rI (F.s s0_0) rfl) rfl ?_
  refine ab_fin.s1i (i := .sipush 300) (k := 3) (pc' := 7) (n := 300) (by decide +kernel) rfl (by decide +kernel) rfl ?_
  refine ab_fin.br (c := ¬ (σ.i 0 21) = 300) (i := .if_icmp .ne 10) (off := 10) (t := 17) (pc' := 10) (r := []) (by decide +kernel) rfl (by decide +kernel) rfl (fun q => ?_) (fun q => ?_)
  · replace w := w.1 q
    refine ab_fin.s2 (i := .aload_n 0) (k := 1) (pc' := 18) (lv' := [(0, .ref 0), (1, .int l1)]) (st' := [.ref 0]) (by decide +kernel) rfl rfl ?_
    refine ab_fin.s1 (i := .dup) (k := 1) (pc' := 19) (st' := [.ref 0, .ref 0]) (by decide +kernel) rfl rfl ?_
    refine ab_fin.q_rI (x := (σ.i 0 21)) (ix := 256) (ci := 24) (k := 21) (pc' := 22) (by decide +kernel) rfl (c_rI (F.s s0_0) rfl) rfl ?_
    refine ab_fin.s1i (i := .iconst 1) (k := 1) (pc' := 23) (n := 1) (by decide +kernel) rfl (by decide +kernel) rfl ?_
    refine ab_fin.s1 (i := .iadd) (k := 1) (pc' := 24) (st' := [.int ((σ.i 0 21) + (1 : Int32)), .ref 0]) (by decide +kernel) rfl rfl ?_
    refine ab_fin.q_pF (ix := 256) (ci := 24) (k := 21) (h1 := conc (σ.wi 0 21 ((σ.i 0 21) + (1 : Int32)))) (pc' := 27) (by decide +kernel) rfl (c_pI (v := ((σ.i 0 21) + (1 : Int32))) (F.s s0_0) rfl) rfl rfl rfl ?_
    exact ab_fin.q_ret (i := .return_) (k := 1) (v := none) (by decide +kernel) rfl F w
  · replace w := w.2 (Decidable.of_not_not q)
    refine ab_fin.s2 (i := .aload_n 0) (k := 1) (pc' := 11) (lv' := [(0, .ref 0), (1, .int l1)]) (st' := [.ref 0]) (by decide +kernel) rfl rfl ?_
    refine ab_fin.s1i (i := .bipush 7) (k := 2) (pc' := 13) (n := 7) (by decide +kernel) rfl (by decide +kernel) rfl ?_
    refine ab_fin.s2 (i := .iload_n 1) (k := 1) (pc' := 14) (lv' := [(0, .ref 0), (1, .int l1)]) (st' := [.int l1, .int 7, .ref 0]) (by decide +kernel) rfl rfl ?_
    refine ab_fin.q_yN (i := .invokevirtual 259) (k := 3) (y := 5910) (As := [.ref 0, .int 7, .int l1]) (rest := []) (M' := (mX23_breaks, [])) (lv2 := [(0, .ref 0), (1, .int 7), (2, .int l1)]) (pc' := 17) (X := K) (by decide +kernel) (ab_cv rfl rfl (conc_get (σ := σ) (F.s s0_0)) ⟨(Nat.le_of_ble_eq_true rfl), (Nat.le_of_ble_eq_true rfl)⟩ rfl) rfl (Nat.le_of_ble_eq_true rfl) rfl rfl (hY_no fun E => rfl) w (fun τ1 F2 w => ?_)
    refine ab_fin.s2 (i := .aload_n 0) (k := 1) (pc' := 18) (lv' := [(0, .ref 0), (1, .int l1)]) (st' := [.ref 0]) (by decide +kernel) rfl rfl ?_
    refine ab_fin.s1 (i := .dup) (k := 1) (pc' := 19) (st' := [.ref 0, .ref 0]) (by decide +kernel) rfl rfl ?_
    refine ab_fin.q_rI (x := (τ1.i 0 21)) (ix := 256) (ci := 24) (k := 21) (pc' := 22) (by decide +kernel) rfl (c_rI (F2.s s0_0) rfl) rfl ?_
    refine ab_fin.s1i (i := .iconst 1) (k := 1) (pc' := 23) (n := 1) (by decide +kernel) rfl (by decide +kernel) rfl ?_
    refine ab_fin.s1 (i := .iadd) (k := 1) (pc' := 24) (st' := [.int ((τ1.i 0 21) + (1 : Int32)), .ref 0]) (by decide +kernel) rfl rfl ?_
    refine ab_fin.q_pF (ix := 256) (ci := 24) (k := 21) (h1 := conc (τ1.wi 0 21 ((τ1.i 0 21) + (1 : Int32)))) (pc' := 27) (by decide +kernel) rfl (c_pI (v := ((τ1.i 0 21) + (1 : Int32))) (F2.s s0_0) rfl) rfl rfl rfl ?_
    exact ab_fin.q_ret (i := .return_) (k := 1) (v := none) (by decide +kernel) rfl F2 w
theorem S_X23_readText_0 {Z : zT} {d : Nat} {σ : Sg}  {K : kS} (F : FX ΦR σ.sh σ.r) (w : B_X23_start_0 Z d σ  (yN K fun τ1 => B_X23_readText_4 Z (d + 1) τ1  K)) : B_X23_readText_0 Z (d + 1) σ  K := by
  unfold B_X23_readText_0
  refine ab_fin.s2 (i := .aload_n 0) (k := 1) (pc' := 1) (lv' := [(0, .ref 0)]) (st' := [.ref 0]) (by decide +kernel) rfl rfl ?_
  refine ab_fin.q_yN (i := .invokevirtual 263) (k := 3) (y := 5914) (As := [.ref 0]) (rest := []) (M' := (mX23_start, [])) (lv2 := [(0, .ref 0)]) (pc' := 4) (X := K) (by decide +kernel) (ab_cv rfl rfl (conc_get (σ := σ) (F.s s0_0)) ⟨(Nat.le_of_ble_eq_true rfl), (Nat.le_of_ble_eq_true rfl)⟩ rfl) rfl (Nat.le_of_ble_eq_true rfl) rfl rfl (hY_no fun E => rfl) w (fun τ1 F2 w => ?_)
  exact ab_fin.lv ⟨(List.forall_mem_cons.mpr ⟨(List.Mem.head _), (fun _ h => absurd h List.not_mem_nil)⟩), (show ([0] : List Nat).Nodup from by decide)⟩ w
theorem S_X23_readText_4 {Z : zT} {d : Nat} {σ : Sg}  {K : kS} (F : FX ΦR σ.sh σ.r) (w : B_X23_skip_0 Z d σ (Rf.old 150) (yI K fun v3 τ1 => (v3 = 0 → B_X23_skip_0 Z d τ1 (Rf.old 134) (yI K fun v6 τ4 => (v6 = 0 → B_X23_skip_0 Z d τ4 (Rf.old 152) (yI K fun v9 τ7 => (v9 = 0 → B_X23_skip_0 Z d τ7 (Rf.old 160) (yI K fun v12 τ10 => (v12 = 0 → B_X23_no_0 Z d τ10  (yR K fun v15 τ13 => ∃ x17, aT τ13 v15 x17 ∧ K (.inr (x17, v15)) τ13)) ∧ (¬ v12 = 0 → B_X23_method_0 Z d τ10  (yN K fun τ18 => (¬ (τ18.i 0 17) = 0 → B_X23_readText_4 Z (d + 1) τ18  K) ∧ ((τ18.i 0 17) = 0 → K (.inl none) τ18))))) ∧ (¬ v9 = 0 → B_X23_layer_0 Z d τ7  (yN K fun τ20 => (¬ (τ20.i 0 17) = 0 → B_X23_readText_4 Z (d + 1) τ20  K) ∧ ((τ20.i 0 17) = 0 → K (.inl none) τ20))))) ∧ (¬ v6 = 0 → B_X23_call_0 Z d τ4  (yN K fun τ22 => (¬ (τ22.i 0 17) = 0 → B_X23_readText_4 Z (d + 1) τ22  K) ∧ ((τ22.i 0 17) = 0 → K (.inl none) τ22))))) ∧ (¬ v3 = 0 → B_X23_kind_0 Z d τ1  (yN K fun τ24 => (¬ (τ24.i 0 17) = 0 → B_X23_readText_4 Z (d + 1) τ24  K) ∧ ((τ24.i 0 17) = 0 → K (.inl none) τ24))))) : B_X23_readText_4 Z (d + 1) σ  K := by
  unfold B_X23_readText_4
  refine ab_fin.s2 (i := .aload_n 0) (k := 1) (pc' := 5) (lv' := [(0, .ref 0)]) (st' := [.ref 0]) (by decide +kernel) rfl rfl ?_
  refine ab_fin.s8 (i := .ldc 143) (k := 2) (pc' := 7) (st' := [.retAddr 150, .ref 0]) (by decide +kernel) rfl rfl rfl rfl ?_
  refine ab_fin.q_yI (i := .invokevirtual 266) (k := 3) (y := 5908) (As := [.ref 0, .retAddr 150]) (rest := []) (M' := (mX23_skip, [])) (lv2 := [(0, .ref 0), (1, .retAddr 150)]) (pc' := 10) (X := K) (by decide +kernel) (ab_cv rfl rfl (conc_get (σ := σ) (F.s s0_0)) ⟨(Nat.le_of_ble_eq_true rfl), (Nat.le_of_ble_eq_true rfl)⟩ rfl) rfl (Nat.le_of_ble_eq_true rfl) rfl rfl (hY_no fun E => rfl) w (fun v3 τ1 F2 w => ?_)
  refine ab_fin.br (c := v3 = 0) (i := .ifCond .eq 10) (off := 10) (t := 20) (pc' := 13) (r := []) (by decide +kernel) rfl (by decide +kernel) rfl (fun q => ?_) (fun q => ?_)
  · replace w := w.1 q
    refine ab_fin.s2 (i := .aload_n 0) (k := 1) (pc' := 21) (lv' := [(0, .ref 0)]) (st' := [.ref 0]) (by decide +kernel) rfl rfl ?_
    refine ab_fin.s8 (i := .ldc 128) (k := 2) (pc' := 23) (st' := [.retAddr 134, .ref 0]) (by decide +kernel) rfl rfl rfl rfl ?_
    refine ab_fin.q_yI (i := .invokevirtual 266) (k := 3) (y := 5908) (As := [.ref 0, .retAddr 134]) (rest := []) (M' := (mX23_skip, [])) (lv2 := [(0, .ref 0), (1, .retAddr 134)]) (pc' := 26) (X := K) (by decide +kernel) (ab_cv rfl rfl (conc_get (σ := τ1) (F2.s s0_0)) ⟨(Nat.le_of_ble_eq_true rfl), (Nat.le_of_ble_eq_true rfl)⟩ rfl) rfl (Nat.le_of_ble_eq_true rfl) rfl rfl (hY_no fun E => rfl) w (fun v6 τ4 F5 w => ?_)
    refine ab_fin.br (c := v6 = 0) (i := .ifCond .eq 10) (off := 10) (t := 36) (pc' := 29) (r := []) (by decide +kernel) rfl (by decide +kernel) rfl (fun q => ?_) (fun q => ?_)
    · replace w := w.1 q
      refine ab_fin.s2 (i := .aload_n 0) (k := 1) (pc' := 37) (lv' := [(0, .ref 0)]) (st' := [.ref 0]) (by decide +kernel) rfl rfl ?_
      refine ab_fin.s8 (i := .ldc 145) (k := 2) (pc' := 39) (st' := [.retAddr 152, .ref 0]) (by decide +kernel) rfl rfl rfl rfl ?_
      refine ab_fin.q_yI (i := .invokevirtual 266) (k := 3) (y := 5908) (As := [.ref 0, .retAddr 152]) (rest := []) (M' := (mX23_skip, [])) (lv2 := [(0, .ref 0), (1, .retAddr 152)]) (pc' := 42) (X := K) (by decide +kernel) (ab_cv rfl rfl (conc_get (σ := τ4) (F5.s s0_0)) ⟨(Nat.le_of_ble_eq_true rfl), (Nat.le_of_ble_eq_true rfl)⟩ rfl) rfl (Nat.le_of_ble_eq_true rfl) rfl rfl (hY_no fun E => rfl) w (fun v9 τ7 F8 w => ?_)
      refine ab_fin.br (c := v9 = 0) (i := .ifCond .eq 10) (off := 10) (t := 52) (pc' := 45) (r := []) (by decide +kernel) rfl (by decide +kernel) rfl (fun q => ?_) (fun q => ?_)
      · replace w := w.1 q
        refine ab_fin.s2 (i := .aload_n 0) (k := 1) (pc' := 53) (lv' := [(0, .ref 0)]) (st' := [.ref 0]) (by decide +kernel) rfl rfl ?_
        refine ab_fin.s8 (i := .ldc 153) (k := 2) (pc' := 55) (st' := [.retAddr 160, .ref 0]) (by decide +kernel) rfl rfl rfl rfl ?_
        refine ab_fin.q_yI (i := .invokevirtual 266) (k := 3) (y := 5908) (As := [.ref 0, .retAddr 160]) (rest := []) (M' := (mX23_skip, [])) (lv2 := [(0, .ref 0), (1, .retAddr 160)]) (pc' := 58) (X := K) (by decide +kernel) (ab_cv rfl rfl (conc_get (σ := τ7) (F8.s s0_0)) ⟨(Nat.le_of_ble_eq_true rfl), (Nat.le_of_ble_eq_true rfl)⟩ rfl) rfl (Nat.le_of_ble_eq_true rfl) rfl rfl (hY_no fun E => rfl) w (fun v12 τ10 F11 w => ?_)
        refine ab_fin.br (c := v12 = 0) (i := .ifCond .eq 10) (off := 10) (t := 68) (pc' := 61) (r := []) (by decide +kernel) rfl (by decide +kernel) rfl (fun q => ?_) (fun q => ?_)
        · replace w := w.1 q
          refine ab_fin.s2 (i := .aload_n 0) (k := 1) (pc' := 69) (lv' := [(0, .ref 0)]) (st' := [.ref 0]) (by decide +kernel) rfl rfl ?_
          refine ab_fin.q_yR (i := .invokevirtual 235) (k := 3) (y := 5903) (As := [.ref 0]) (rest := []) (M' := (mX23_no, [])) (lv2 := [(0, .ref 0)]) (pc' := 72) (X := K) (by decide +kernel) (ab_cv rfl rfl (conc_get (σ := τ10) (F11.s s0_0)) ⟨(Nat.le_of_ble_eq_true rfl), (Nat.le_of_ble_eq_true rfl)⟩ rfl) rfl (Nat.le_of_ble_eq_true rfl) rfl rfl (hY_no fun E => rfl) w (fun v15 τ13 F14 w => ?_)
          obtain ⟨x17, e16, w⟩ := w
          exact ab_fin.q_ath (X := fun r h => ∃ τ, h = conc τ ∧ FX ΦR τ.sh τ.r ∧ K r τ) (by decide +kernel) (aT_ok e16) (fun p h ⟨τ, q, f, z⟩ => by subst q; exact ((hY_no fun E => rfl) : hY ΦR _ _ _ _ _ _ _ _ _ _) p τ f z) ⟨_, rfl, F14, w⟩
        · replace w := w.2 q
          refine ab_fin.s2 (i := .aload_n 0) (k := 1) (pc' := 62) (lv' := [(0, .ref 0)]) (st' := [.ref 0]) (by decide +kernel) rfl rfl ?_
          refine ab_fin.q_yN (i := .invokevirtual 275) (k := 3) (y := 5918) (As := [.ref 0]) (rest := []) (M' := (mX23_method, [])) (lv2 := [(0, .ref 0)]) (pc' := 65) (X := K) (by decide +kernel) (ab_cv rfl rfl (conc_get (σ := τ10) (F11.s s0_0)) ⟨(Nat.le_of_ble_eq_true rfl), (Nat.le_of_ble_eq_true rfl)⟩ rfl) rfl (Nat.le_of_ble_eq_true rfl) rfl rfl (hY_no fun E => rfl) w (fun τ18 F19 w => ?_)
          refine ab_fin.s3 (i := .goto 8) (k := 3) (t := 73) (st' := []) (by decide +kernel) (ab_gto (by decide +kernel)) ?_
          refine ab_fin.s2 (i := .aload_n 0) (k := 1) (pc' := 74) (lv' := [(0, .ref 0)]) (st' := [.ref 0]) (by decide +kernel) rfl rfl ?_
          refine ab_fin.q_rI (x := (τ18.i 0 17)) (ix := 183) (ci := 24) (k := 17) (pc' := 77) (by decide +kernel) rfl (c_rI (F19.s s0_0) rfl) rfl ?_
          refine ab_fin.br (c := ¬ (τ18.i 0 17) = 0) (i := .ifCond .ne (-73)) (off := (-73)) (t := 4) (pc' := 80) (r := []) (by decide +kernel) rfl (by decide +kernel) rfl (fun q => ?_) (fun q => ?_)
          · replace w := w.1 q
            exact ab_fin.lv ⟨(List.forall_mem_cons.mpr ⟨(List.Mem.head _), (fun _ h => absurd h List.not_mem_nil)⟩), (show ([0] : List Nat).Nodup from by decide)⟩ w
          · replace w := w.2 (Decidable.of_not_not q)
            exact ab_fin.q_ret (i := .return_) (k := 1) (v := none) (by decide +kernel) rfl F19 w
      · replace w := w.2 q
        refine ab_fin.s2 (i := .aload_n 0) (k := 1) (pc' := 46) (lv' := [(0, .ref 0)]) (st' := [.ref 0]) (by decide +kernel) rfl rfl ?_
        refine ab_fin.q_yN (i := .invokevirtual 273) (k := 3) (y := 5917) (As := [.ref 0]) (rest := []) (M' := (mX23_layer, [])) (lv2 := [(0, .ref 0)]) (pc' := 49) (X := K) (by decide +kernel) (ab_cv rfl rfl (conc_get (σ := τ7) (F8.s s0_0)) ⟨(Nat.le_of_ble_eq_true rfl), (Nat.le_of_ble_eq_true rfl)⟩ rfl) rfl (Nat.le_of_ble_eq_true rfl) rfl rfl (hY_no fun E => rfl) w (fun τ20 F21 w => ?_)
        refine ab_fin.s3 (i := .goto 24) (k := 3) (t := 73) (st' := []) (by decide +kernel) (ab_gto (by decide +kernel)) ?_
        refine ab_fin.s2 (i := .aload_n 0) (k := 1) (pc' := 74) (lv' := [(0, .ref 0)]) (st' := [.ref 0]) (by decide +kernel) rfl rfl ?_
        refine ab_fin.q_rI (x := (τ20.i 0 17)) (ix := 183) (ci := 24) (k := 17) (pc' := 77) (by decide +kernel) rfl (c_rI (F21.s s0_0) rfl) rfl ?_
        refine ab_fin.br (c := ¬ (τ20.i 0 17) = 0) (i := .ifCond .ne (-73)) (off := (-73)) (t := 4) (pc' := 80) (r := []) (by decide +kernel) rfl (by decide +kernel) rfl (fun q => ?_) (fun q => ?_)
        · replace w := w.1 q
          exact ab_fin.lv ⟨(List.forall_mem_cons.mpr ⟨(List.Mem.head _), (fun _ h => absurd h List.not_mem_nil)⟩), (show ([0] : List Nat).Nodup from by decide)⟩ w
        · replace w := w.2 (Decidable.of_not_not q)
          exact ab_fin.q_ret (i := .return_) (k := 1) (v := none) (by decide +kernel) rfl F21 w
    · replace w := w.2 q
      refine ab_fin.s2 (i := .aload_n 0) (k := 1) (pc' := 30) (lv' := [(0, .ref 0)]) (st' := [.ref 0]) (by decide +kernel) rfl rfl ?_
      refine ab_fin.q_yN (i := .invokevirtual 271) (k := 3) (y := 5916) (As := [.ref 0]) (rest := []) (M' := (mX23_call, [])) (lv2 := [(0, .ref 0)]) (pc' := 33) (X := K) (by decide +kernel) (ab_cv rfl rfl (conc_get (σ := τ4) (F5.s s0_0)) ⟨(Nat.le_of_ble_eq_true rfl), (Nat.le_of_ble_eq_true rfl)⟩ rfl) rfl (Nat.le_of_ble_eq_true rfl) rfl rfl (hY_no fun E => rfl) w (fun τ22 F23 w => ?_)
      refine ab_fin.s3 (i := .goto 40) (k := 3) (t := 73) (st' := []) (by decide +kernel) (ab_gto (by decide +kernel)) ?_
      refine ab_fin.s2 (i := .aload_n 0) (k := 1) (pc' := 74) (lv' := [(0, .ref 0)]) (st' := [.ref 0]) (by decide +kernel) rfl rfl ?_
      refine ab_fin.q_rI (x := (τ22.i 0 17)) (ix := 183) (ci := 24) (k := 17) (pc' := 77) (by decide +kernel) rfl (c_rI (F23.s s0_0) rfl) rfl ?_
      refine ab_fin.br (c := ¬ (τ22.i 0 17) = 0) (i := .ifCond .ne (-73)) (off := (-73)) (t := 4) (pc' := 80) (r := []) (by decide +kernel) rfl (by decide +kernel) rfl (fun q => ?_) (fun q => ?_)
      · replace w := w.1 q
        exact ab_fin.lv ⟨(List.forall_mem_cons.mpr ⟨(List.Mem.head _), (fun _ h => absurd h List.not_mem_nil)⟩), (show ([0] : List Nat).Nodup from by decide)⟩ w
      · replace w := w.2 (Decidable.of_not_not q)
        exact ab_fin.q_ret (i := .return_) (k := 1) (v := none) (by decide +kernel) rfl F23 w
  · replace w := w.2 q
    refine ab_fin.s2 (i := .aload_n 0) (k := 1) (pc' := 14) (lv' := [(0, .ref 0)]) (st' := [.ref 0]) (by decide +kernel) rfl rfl ?_
    refine ab_fin.q_yN (i := .invokevirtual 269) (k := 3) (y := 5915) (As := [.ref 0]) (rest := []) (M' := (mX23_kind, [])) (lv2 := [(0, .ref 0)]) (pc' := 17) (X := K) (by decide +kernel) (ab_cv rfl rfl (conc_get (σ := τ1) (F2.s s0_0)) ⟨(Nat.le_of_ble_eq_true rfl), (Nat.le_of_ble_eq_true rfl)⟩ rfl) rfl (Nat.le_of_ble_eq_true rfl) rfl rfl (hY_no fun E => rfl) w (fun τ24 F25 w => ?_)
    refine ab_fin.s3 (i := .goto 56) (k := 3) (t := 73) (st' := []) (by decide +kernel) (ab_gto (by decide +kernel)) ?_
    refine ab_fin.s2 (i := .aload_n 0) (k := 1) (pc' := 74) (lv' := [(0, .ref 0)]) (st' := [.ref 0]) (by decide +kernel) rfl rfl ?_
    refine ab_fin.q_rI (x := (τ24.i 0 17)) (ix := 183) (ci := 24) (k := 17) (pc' := 77) (by decide +kernel) rfl (c_rI (F25.s s0_0) rfl) rfl ?_
    refine ab_fin.br (c := ¬ (τ24.i 0 17) = 0) (i := .ifCond .ne (-73)) (off := (-73)) (t := 4) (pc' := 80) (r := []) (by decide +kernel) rfl (by decide +kernel) rfl (fun q => ?_) (fun q => ?_)
    · replace w := w.1 q
      exact ab_fin.lv ⟨(List.forall_mem_cons.mpr ⟨(List.Mem.head _), (fun _ h => absurd h List.not_mem_nil)⟩), (show ([0] : List Nat).Nodup from by decide)⟩ w
    · replace w := w.2 (Decidable.of_not_not q)
      exact ab_fin.q_ret (i := .return_) (k := 1) (v := none) (by decide +kernel) rfl F25 w
theorem S_X23_start_0 {Z : zT} {d : Nat} {σ : Sg}  {K : kS} (F : FX ΦR σ.sh σ.r) (w : B_X23_next_0 Z d ((((σ.wi 0 16 (0 : Int32)).wi 0 20 (0 : Int32)).wi 0 23 (-1 : Int32)).wi 0 24 (0 : Int32))  (yN K fun τ1 => K (.inl none) τ1)) : B_X23_start_0 Z (d + 1) σ  K := by
  unfold B_X23_start_0
  refine ab_fin.s2 (i := .aload_n 0) (k := 1) (pc' := 1) (lv' := [(0, .ref 0)]) (st' := [.ref 0]) (by decide +kernel) rfl rfl ?_
  refine ab_fin.s1i (i := .iconst 0) (k := 1) (pc' := 2) (n := 0) (by decide +kernel) rfl (by decide +kernel) rfl ?_
  refine ab_fin.q_pF (ix := 177) (ci := 24) (k := 16) (h1 := conc (σ.wi 0 16 (0 : Int32))) (pc' := 5) (by decide +kernel) rfl (c_pI (v := 0) (F.s s0_0) rfl) rfl rfl rfl ?_
  refine ab_fin.s2 (i := .aload_n 0) (k := 1) (pc' := 6) (lv' := [(0, .ref 0)]) (st' := [.ref 0]) (by decide +kernel) rfl rfl ?_
  refine ab_fin.s1i (i := .iconst 0) (k := 1) (pc' := 7) (n := 0) (by decide +kernel) rfl (by decide +kernel) rfl ?_
  refine ab_fin.q_pF (ix := 253) (ci := 24) (k := 20) (h1 := conc ((σ.wi 0 16 (0 : Int32)).wi 0 20 (0 : Int32))) (pc' := 10) (by decide +kernel) rfl (c_pI (v := 0) (F.s s0_0) rfl) rfl rfl rfl ?_
  refine ab_fin.s2 (i := .aload_n 0) (k := 1) (pc' := 11) (lv' := [(0, .ref 0)]) (st' := [.ref 0]) (by decide +kernel) rfl rfl ?_
  refine ab_fin.s1i (i := .iconst (-1)) (k := 1) (pc' := 12) (n := (-1)) (by decide +kernel) rfl (by decide +kernel) rfl ?_
  refine ab_fin.q_pF (ix := 247) (ci := 24) (k := 23) (h1 := conc (((σ.wi 0 16 (0 : Int32)).wi 0 20 (0 : Int32)).wi 0 23 (-1 : Int32))) (pc' := 15) (by decide +kernel) rfl (c_pI (v := (-1)) (F.s s0_0) rfl) rfl rfl rfl ?_
  refine ab_fin.s2 (i := .aload_n 0) (k := 1) (pc' := 16) (lv' := [(0, .ref 0)]) (st' := [.ref 0]) (by decide +kernel) rfl rfl ?_
  refine ab_fin.s1i (i := .iconst 0) (k := 1) (pc' := 17) (n := 0) (by decide +kernel) rfl (by decide +kernel) rfl ?_
  refine ab_fin.q_pF (ix := 250) (ci := 24) (k := 24) (h1 := conc ((((σ.wi 0 16 (0 : Int32)).wi 0 20 (0 : Int32)).wi 0 23 (-1 : Int32)).wi 0 24 (0 : Int32))) (pc' := 20) (by decide +kernel) rfl (c_pI (v := 0) (F.s s0_0) rfl) rfl rfl rfl ?_
  refine ab_fin.s2 (i := .aload_n 0) (k := 1) (pc' := 21) (lv' := [(0, .ref 0)]) (st' := [.ref 0]) (by decide +kernel) rfl rfl ?_
  refine ab_fin.q_yN (i := .invokevirtual 239) (k := 3) (y := 5902) (As := [.ref 0]) (rest := []) (M' := (mX23_next, [])) (lv2 := [(0, .ref 0)]) (pc' := 24) (X := K) (by decide +kernel) (ab_cv rfl rfl (conc_get (σ := ((((σ.wi 0 16 (0 : Int32)).wi 0 20 (0 : Int32)).wi 0 23 (-1 : Int32)).wi 0 24 (0 : Int32))) (F.s s0_0)) ⟨(Nat.le_of_ble_eq_true rfl), (Nat.le_of_ble_eq_true rfl)⟩ rfl) rfl (Nat.le_of_ble_eq_true rfl) rfl rfl (hY_no fun E => rfl) w (fun τ1 F2 w => ?_)
  exact ab_fin.q_ret (i := .return_) (k := 1) (v := none) (by decide +kernel) rfl F2 w
theorem S_X23_kind_0 {Z : zT} {d : Nat} {σ : Sg}  {K : kS} (F : FX ΦR σ.sh σ.r) (w : B_X23_name_0 Z d σ  (yI K fun v3 τ1 => B_X23_isTold_0 Z d τ1 v3 (yI K fun v6 τ4 => (v6 = 0 → B_X23_kind_29 Z (d + 1) τ4 (σ.i 0 18) (σ.i 0 27) v3 K) ∧ (¬ v6 = 0 → B_X23_breaks_0 Z d τ4 2 (σ.i 0 18) (yN K fun τ7 => B_X23_kind_29 Z (d + 1) τ7 (σ.i 0 18) (σ.i 0 27) v3 K))))) : B_X23_kind_0 Z (d + 1) σ  K := by
  unfold B_X23_kind_0
  refine ab_fin.s2 (i := .aload_n 0) (k := 1) (pc' := 1) (lv' := [(0, .ref 0)]) (st' := [.ref 0]) (by decide +kernel) rfl rfl ?_
  refine ab_fin.q_rI (x := (σ.i 0 18)) (ix := 106) (ci := 24) (k := 18) (pc' := 4) (by decide +kernel) rfl (c_rI (F.s s0_0) rfl) rfl ?_
  refine ab_fin.s2 (i := .istore_n 1) (k := 1) (pc' := 5) (lv' := [(1, .int (σ.i 0 18)), (0, .ref 0)]) (st' := []) (by decide +kernel) rfl rfl ?_
  refine ab_fin.s2 (i := .aload_n 0) (k := 1) (pc' := 6) (lv' := [(1, .int (σ.i 0 18)), (0, .ref 0)]) (st' := [.ref 0]) (by decide +kernel) rfl rfl ?_
  refine ab_fin.q_rI (x := (σ.i 0 27)) (ix := 244) (ci := 24) (k := 27) (pc' := 9) (by decide +kernel) rfl (c_rI (F.s s0_0) rfl) rfl ?_
  refine ab_fin.s2 (i := .istore_n 2) (k := 1) (pc' := 10) (lv' := [(2, .int (σ.i 0 27)), (1, .int (σ.i 0 18)), (0, .ref 0)]) (st' := []) (by decide +kernel) rfl rfl ?_
  refine ab_fin.s2 (i := .aload_n 0) (k := 1) (pc' := 11) (lv' := [(2, .int (σ.i 0 27)), (1, .int (σ.i 0 18)), (0, .ref 0)]) (st' := [.ref 0]) (by decide +kernel) rfl rfl ?_
  refine ab_fin.q_yI (i := .invokevirtual 277) (k := 3) (y := 5909) (As := [.ref 0]) (rest := []) (M' := (mX23_name, [])) (lv2 := [(0, .ref 0)]) (pc' := 14) (X := K) (by decide +kernel) (ab_cv rfl rfl (conc_get (σ := σ) (F.s s0_0)) ⟨(Nat.le_of_ble_eq_true rfl), (Nat.le_of_ble_eq_true rfl)⟩ rfl) rfl (Nat.le_of_ble_eq_true rfl) rfl rfl (hY_no fun E => rfl) w (fun v3 τ1 F2 w => ?_)
  refine ab_fin.s2 (i := .istore_n 3) (k := 1) (pc' := 15) (lv' := [(3, .int v3), (2, .int (σ.i 0 27)), (1, .int (σ.i 0 18)), (0, .ref 0)]) (st' := []) (by decide +kernel) rfl rfl ?_
  refine ab_fin.s2 (i := .aload_n 0) (k := 1) (pc' := 16) (lv' := [(3, .int v3), (2, .int (σ.i 0 27)), (1, .int (σ.i 0 18)), (0, .ref 0)]) (st' := [.ref 0]) (by decide +kernel) rfl rfl ?_
  refine ab_fin.s2 (i := .iload_n 3) (k := 1) (pc' := 17) (lv' := [(3, .int v3), (2, .int (σ.i 0 27)), (1, .int (σ.i 0 18)), (0, .ref 0)]) (st' := [.int v3, .ref 0]) (by decide +kernel) rfl rfl ?_
  refine ab_fin.q_yI (i := .invokevirtual 279) (k := 3) (y := 5893) (As := [.ref 0, .int v3]) (rest := []) (M' := (mX23_isTold, [])) (lv2 := [(0, .ref 0), (1, .int v3)]) (pc' := 20) (X := K) (by decide +kernel) (ab_cv rfl rfl (conc_get (σ := τ1) (F2.s s0_0)) ⟨(Nat.le_of_ble_eq_true rfl), (Nat.le_of_ble_eq_true rfl)⟩ rfl) rfl (Nat.le_of_ble_eq_true rfl) rfl rfl (hY_no fun E => rfl) w (fun v6 τ4 F5 w => ?_)
  refine ab_fin.br (c := v6 = 0) (i := .ifCond .eq 9) (off := 9) (t := 29) (pc' := 23) (r := []) (by decide +kernel) rfl (by decide +kernel) rfl (fun q => ?_) (fun q => ?_)
  · replace w := w.1 q
    exact ab_fin.lv ⟨(List.forall_mem_cons.mpr ⟨(List.Mem.tail _ (List.Mem.tail _ (List.Mem.tail _ (List.Mem.head _)))), (List.forall_mem_cons.mpr ⟨(List.Mem.tail _ (List.Mem.tail _ (List.Mem.head _))), (List.forall_mem_cons.mpr ⟨(List.Mem.tail _ (List.Mem.head _)), (List.forall_mem_cons.mpr ⟨(List.Mem.head _), (fun _ h => absurd h List.not_mem_nil)⟩)⟩)⟩)⟩), (show ([3, 2, 1, 0] : List Nat).Nodup from by decide)⟩ w
  · replace w := w.2 q
    refine ab_fin.s2 (i := .aload_n 0) (k := 1) (pc' := 24) (lv' := [(3, .int v3), (2, .int (σ.i 0 27)), (1, .int (σ.i 0 18)), (0, .ref 0)]) (st' := [.ref 0]) (by decide +kernel) rfl rfl ?_
    refine ab_fin.s1i (i := .iconst 2) (k := 1) (pc' := 25) (n := 2) (by decide +kernel) rfl (by decide +kernel) rfl ?_
    refine ab_fin.s2 (i := .iload_n 1) (k := 1) (pc' := 26) (lv' := [(3, .int v3), (2, .int (σ.i 0 27)), (1, .int (σ.i 0 18)), (0, .ref 0)]) (st' := [.int (σ.i 0 18), .int 2, .ref 0]) (by decide +kernel) rfl rfl ?_
    refine ab_fin.q_yN (i := .invokevirtual 259) (k := 3) (y := 5910) (As := [.ref 0, .int 2, .int (σ.i 0 18)]) (rest := []) (M' := (mX23_breaks, [])) (lv2 := [(0, .ref 0), (1, .int 2), (2, .int (σ.i 0 18))]) (pc' := 29) (X := K) (by decide +kernel) (ab_cv rfl rfl (conc_get (σ := τ4) (F5.s s0_0)) ⟨(Nat.le_of_ble_eq_true rfl), (Nat.le_of_ble_eq_true rfl)⟩ rfl) rfl (Nat.le_of_ble_eq_true rfl) rfl rfl (hY_no fun E => rfl) w (fun τ7 F8 w => ?_)
    exact ab_fin.lv ⟨(List.forall_mem_cons.mpr ⟨(List.Mem.tail _ (List.Mem.tail _ (List.Mem.tail _ (List.Mem.head _)))), (List.forall_mem_cons.mpr ⟨(List.Mem.tail _ (List.Mem.tail _ (List.Mem.head _))), (List.forall_mem_cons.mpr ⟨(List.Mem.tail _ (List.Mem.head _)), (List.forall_mem_cons.mpr ⟨(List.Mem.head _), (fun _ h => absurd h List.not_mem_nil)⟩)⟩)⟩)⟩), (show ([3, 2, 1, 0] : List Nat).Nodup from by decide)⟩ w
theorem S_X23_kind_29 {Z : zT} {d : Nat} {σ : Sg} {l1 : Int32} {l2 : Int32} {l3 : Int32} {K : kS} (F : FX ΦR σ.sh σ.r) (w : (¬ (σ.i 0 4) = 24 → B_X23_kind_45 Z (d + 1) σ l1 l2 l3 K) ∧ ((σ.i 0 4) = 24 → B_X23_breaks_0 Z d σ 7 l1 (yN K fun τ1 => B_X23_kind_45 Z (d + 1) τ1 l1 l2 l3 K))) : B_X23_kind_29 Z (d + 1) σ l1 l2 l3 K := by
  unfold B_X23_kind_29
  refine ab_fin.s2 (i := .aload_n 0) (k := 1) (pc' := 30) (lv' := [(0, .ref 0), (1, .int l1), (2, .int l2), (3, .int l3)]) (st' := [.ref 0]) (by decide +kernel) rfl rfl ?_
  refine ab_fin.q_rI (x := (σ.i 0 4)) (ix := 13) (ci := 24) (k := 4) (pc' := 33) (by decide +kernel) rfl (c_rI (F.s s0_0) rfl) rfl ?_
  refine ab_fin.s1i (i := .bipush 24) (k := 2) (pc' := 35) (n := 24) (by decide +kernel) rfl (by decide +kernel) rfl ?_
  refine ab_fin.br (c := ¬ (σ.i 0 4) = 24) (i := .if_icmp .ne 10) (off := 10) (t := 45) (pc' := 38) (r := []) (by decide +kernel) rfl (by decide +kernel) rfl (fun q => ?_) (fun q => ?_)
  · replace w := w.1 q
    exact ab_fin.lv ⟨(List.forall_mem_cons.mpr ⟨(List.Mem.head _), (List.forall_mem_cons.mpr ⟨(List.Mem.tail _ (List.Mem.head _)), (List.forall_mem_cons.mpr ⟨(List.Mem.tail _ (List.Mem.tail _ (List.Mem.head _))), (List.forall_mem_cons.mpr ⟨(List.Mem.tail _ (List.Mem.tail _ (List.Mem.tail _ (List.Mem.head _)))), (fun _ h => absurd h List.not_mem_nil)⟩)⟩)⟩)⟩), (show ([0, 1, 2, 3] : List Nat).Nodup from by decide)⟩ w
  · replace w := w.2 (Decidable.of_not_not q)
    refine ab_fin.s2 (i := .aload_n 0) (k := 1) (pc' := 39) (lv' := [(0, .ref 0), (1, .int l1), (2, .int l2), (3, .int l3)]) (st' := [.ref 0]) (by decide +kernel) rfl rfl ?_
    refine ab_fin.s1i (i := .bipush 7) (k := 2) (pc' := 41) (n := 7) (by decide +kernel) rfl (by decide +kernel) rfl ?_
    refine ab_fin.s2 (i := .iload_n 1) (k := 1) (pc' := 42) (lv' := [(0, .ref 0), (1, .int l1), (2, .int l2), (3, .int l3)]) (st' := [.int l1, .int 7, .ref 0]) (by decide +kernel) rfl rfl ?_
    refine ab_fin.q_yN (i := .invokevirtual 259) (k := 3) (y := 5910) (As := [.ref 0, .int 7, .int l1]) (rest := []) (M' := (mX23_breaks, [])) (lv2 := [(0, .ref 0), (1, .int 7), (2, .int l1)]) (pc' := 45) (X := K) (by decide +kernel) (ab_cv rfl rfl (conc_get (σ := σ) (F.s s0_0)) ⟨(Nat.le_of_ble_eq_true rfl), (Nat.le_of_ble_eq_true rfl)⟩ rfl) rfl (Nat.le_of_ble_eq_true rfl) rfl rfl (hY_no fun E => rfl) w (fun τ1 F2 w => ?_)
    exact ab_fin.lv ⟨(List.forall_mem_cons.mpr ⟨(List.Mem.head _), (List.forall_mem_cons.mpr ⟨(List.Mem.tail _ (List.Mem.head _)), (List.forall_mem_cons.mpr ⟨(List.Mem.tail _ (List.Mem.tail _ (List.Mem.head _))), (List.forall_mem_cons.mpr ⟨(List.Mem.tail _ (List.Mem.tail _ (List.Mem.tail _ (List.Mem.head _)))), (fun _ h => absurd h List.not_mem_nil)⟩)⟩)⟩)⟩), (show ([0, 1, 2, 3] : List Nat).Nodup from by decide)⟩ w
theorem S_X23_kind_45 {Z : zT} {d : Nat} {σ : Sg} {l1 : Int32} {l2 : Int32} {l3 : Int32} {K : kS} (F : FX ΦR σ.sh σ.r) (w : (24 ≤ (σ.i 0 4) → B_X23_kind_70 Z (d + 1) σ l1 l2 l3 38 K) ∧ (¬ 24 ≤ (σ.i 0 4) → ib (σ.i 0 4) 24 ∧ (B_X23_kind_70 Z (d + 1) σ l1 l2 l3 (2193 + 9 * ((σ.i 0 4).toNatClampNeg)) K))) : B_X23_kind_45 Z (d + 1) σ l1 l2 l3 K := by
  unfold B_X23_kind_45
  refine ab_fin.s2 (i := .aload_n 0) (k := 1) (pc' := 46) (lv' := [(0, .ref 0), (1, .int l1), (2, .int l2), (3, .int l3)]) (st' := [.ref 0]) (by decide +kernel) rfl rfl ?_
  refine ab_fin.q_rI (x := (σ.i 0 4)) (ix := 13) (ci := 24) (k := 4) (pc' := 49) (by decide +kernel) rfl (c_rI (F.s s0_0) rfl) rfl ?_
  refine ab_fin.s1i (i := .bipush 24) (k := 2) (pc' := 51) (n := 24) (by decide +kernel) rfl (by decide +kernel) rfl ?_
  refine ab_fin.br (c := 24 ≤ (σ.i 0 4)) (i := .if_icmp .ge 15) (off := 15) (t := 66) (pc' := 54) (r := []) (by decide +kernel) rfl (by decide +kernel) rfl (fun q => ?_) (fun q => ?_)
  · replace w := w.1 q
    refine ab_fin.s2 (i := .aload_n 0) (k := 1) (pc' := 67) (lv' := [(0, .ref 0), (1, .int l1), (2, .int l2), (3, .int l3)]) (st' := [.ref 0]) (by decide +kernel) rfl rfl ?_
    refine ab_fin.q_rA (b := 38) (ix := 282) (ci := 24) (k := 28) (pc' := 70) (by decide +kernel) rfl (c_rA (F.s s0_0) rfl (rM_28 F)) rfl ?_
    exact ab_fin.lv ⟨(List.forall_mem_cons.mpr ⟨(List.Mem.head _), (List.forall_mem_cons.mpr ⟨(List.Mem.tail _ (List.Mem.head _)), (List.forall_mem_cons.mpr ⟨(List.Mem.tail _ (List.Mem.tail _ (List.Mem.head _))), (List.forall_mem_cons.mpr ⟨(List.Mem.tail _ (List.Mem.tail _ (List.Mem.tail _ (List.Mem.head _)))), (fun _ h => absurd h List.not_mem_nil)⟩)⟩)⟩)⟩), (show ([0, 1, 2, 3] : List Nat).Nodup from by decide)⟩ w
  · replace w := w.2 q
    refine ab_fin.s2 (i := .aload_n 0) (k := 1) (pc' := 55) (lv' := [(0, .ref 0), (1, .int l1), (2, .int l2), (3, .int l3)]) (st' := [.ref 0]) (by decide +kernel) rfl rfl ?_
    refine ab_fin.q_rA (b := 1) (ix := 17) (ci := 24) (k := 0) (pc' := 58) (by decide +kernel) rfl (c_rA (F.s s0_0) rfl (rM_0 F)) rfl ?_
    refine ab_fin.s2 (i := .aload_n 0) (k := 1) (pc' := 59) (lv' := [(0, .ref 0), (1, .int l1), (2, .int l2), (3, .int l3)]) (st' := [.ref 0, .ref 1]) (by decide +kernel) rfl rfl ?_
    refine ab_fin.q_rI (x := (σ.i 0 4)) (ix := 13) (ci := 24) (k := 4) (pc' := 62) (by decide +kernel) rfl (c_rI (F.s s0_0) rfl) rfl ?_
    obtain ⟨e1, w⟩ := w
    refine ab_fin.q_eA (b := (2193 + 9 * ((σ.i 0 4).toNatClampNeg))) (pc' := 63) (by decide +kernel) (c_eA' (F.s s0_1) (by decide) rfl e1 rfl (rE_4 F s0_1)) rfl ?_
    refine ab_fin.s3 (i := .goto 7) (k := 3) (t := 70) (st' := [.ref (2193 + 9 * ((σ.i 0 4).toNatClampNeg))]) (by decide +kernel) (ab_gto (by decide +kernel)) ?_
    exact ab_fin.lv ⟨(List.forall_mem_cons.mpr ⟨(List.Mem.head _), (List.forall_mem_cons.mpr ⟨(List.Mem.tail _ (List.Mem.head _)), (List.forall_mem_cons.mpr ⟨(List.Mem.tail _ (List.Mem.tail _ (List.Mem.head _))), (List.forall_mem_cons.mpr ⟨(List.Mem.tail _ (List.Mem.tail _ (List.Mem.tail _ (List.Mem.head _)))), (fun _ h => absurd h List.not_mem_nil)⟩)⟩)⟩)⟩), (show ([0, 1, 2, 3] : List Nat).Nodup from by decide)⟩ w
theorem S_X23_kind_70 {Z : zT} {d : Nat} {σ : Sg} {l1 : Int32} {l2 : Int32} {l3 : Int32} {s0 : Nat} {K : kS} (F : FX ΦR σ.sh σ.r) (p_s0 : sh0R[s0]? = some (Sh.obj 18)) (w : B_X19_be_0 Z d σ (s0 + 1) 37 (l3 >>> ((5 : Int32) &&& 31)) (l3 &&& (31 : Int32)) (yN K fun τ1 => B_X23_is_0 Z d ((τ1.wi s0 1 (0 : Int32)).wi s0 3 (0 : Int32)) 60 (yI K fun v5 τ3 => (v5 = 0 → B_X23_kind_296 Z (d + 1) ((τ3.wi (s0 + 3) 0 (0 : Int32)).wi s0 3 (1 : Int32)) l1 l2 s0 1 K) ∧ (¬ v5 = 0 → B_X23_kind_115 Z (d + 1) τ3 l1 l2 s0 1 K)))) : B_X23_kind_70 Z (d + 1) σ l1 l2 l3 s0 K := by
  unfold B_X23_kind_70
  refine ab_fin.s2 (i := .astore 4) (k := 2) (pc' := 72) (lv' := [(4, .ref s0), (0, .ref 0), (1, .int l1), (2, .int l2), (3, .int l3)]) (st' := []) (by decide +kernel) rfl rfl ?_
  refine ab_fin.s2 (i := .aload 4) (k := 2) (pc' := 74) (lv' := [(4, .ref s0), (0, .ref 0), (1, .int l1), (2, .int l2), (3, .int l3)]) (st' := [.ref s0]) (by decide +kernel) rfl rfl ?_
  refine ab_fin.q_rA (b := (s0 + 1)) (ix := 21) (ci := 18) (k := 0) (pc' := 77) (by decide +kernel) rfl (c_rA (F.s p_s0) rfl (rO_18_0 F p_s0)) rfl ?_
  refine ab_fin.s2 (i := .aload_n 0) (k := 1) (pc' := 78) (lv' := [(4, .ref s0), (0, .ref 0), (1, .int l1), (2, .int l2), (3, .int l3)]) (st' := [.ref 0, .ref (s0 + 1)]) (by decide +kernel) rfl rfl ?_
  refine ab_fin.q_rA (b := 37) (ix := 1) (ci := 24) (k := 14) (pc' := 81) (by decide +kernel) rfl (c_rA (F.s s0_0) rfl (rM_14 F)) rfl ?_
  refine ab_fin.s2 (i := .iload_n 3) (k := 1) (pc' := 82) (lv' := [(4, .ref s0), (0, .ref 0), (1, .int l1), (2, .int l2), (3, .int l3)]) (st' := [.int l3, .ref 37, .ref (s0 + 1)]) (by decide +kernel) rfl rfl ?_
  refine ab_fin.s1i (i := .iconst 5) (k := 1) (pc' := 83) (n := 5) (by decide +kernel) rfl (by decide +kernel) rfl ?_
  refine ab_fin.s1 (i := .ishr) (k := 1) (pc' := 84) (st' := [.int (l3 >>> ((5 : Int32) &&& 31)), .ref 37, .ref (s0 + 1)]) (by decide +kernel) rfl rfl ?_
  refine ab_fin.s2 (i := .iload_n 3) (k := 1) (pc' := 85) (lv' := [(4, .ref s0), (0, .ref 0), (1, .int l1), (2, .int l2), (3, .int l3)]) (st' := [.int l3, .int (l3 >>> ((5 : Int32) &&& 31)), .ref 37, .ref (s0 + 1)]) (by decide +kernel) rfl rfl ?_
  refine ab_fin.s1i (i := .bipush 31) (k := 2) (pc' := 87) (n := 31) (by decide +kernel) rfl (by decide +kernel) rfl ?_
  refine ab_fin.s1 (i := .iand) (k := 1) (pc' := 88) (st' := [.int (l3 &&& (31 : Int32)), .int (l3 >>> ((5 : Int32) &&& 31)), .ref 37, .ref (s0 + 1)]) (by decide +kernel) rfl rfl ?_
  refine ab_fin.q_yN (i := .invokevirtual 286) (k := 3) (y := 4865) (As := [.ref (s0 + 1), .ref 37, .int (l3 >>> ((5 : Int32) &&& 31)), .int (l3 &&& (31 : Int32))]) (rest := []) (M' := (mX19_be, [])) (lv2 := [(0, .ref (s0 + 1)), (1, .ref 37), (2, .int (l3 >>> ((5 : Int32) &&& 31))), (3, .int (l3 &&& (31 : Int32)))]) (pc' := 91) (X := K) (by decide +kernel) (ab_cv rfl rfl (conc_get (σ := σ) (F.s (kF_18_1 p_s0))) ⟨(Nat.le_of_ble_eq_true rfl), (Nat.le_of_ble_eq_true rfl)⟩ rfl) rfl (Nat.le_of_ble_eq_true rfl) rfl rfl (hY_no fun E => rfl) w (fun τ1 F2 w => ?_)
  refine ab_fin.s2 (i := .aload 4) (k := 2) (pc' := 93) (lv' := [(4, .ref s0), (0, .ref 0), (1, .int l1), (2, .int l2), (3, .int l3)]) (st' := [.ref s0]) (by decide +kernel) rfl rfl ?_
  refine ab_fin.s1i (i := .iconst 0) (k := 1) (pc' := 94) (n := 0) (by decide +kernel) rfl (by decide +kernel) rfl ?_
  refine ab_fin.q_pF (ix := 290) (ci := 18) (k := 1) (h1 := conc (τ1.wi s0 1 (0 : Int32))) (pc' := 97) (by decide +kernel) rfl (c_pI (v := 0) (F2.s p_s0) rfl) rfl rfl rfl ?_
  refine ab_fin.s2 (i := .aload 4) (k := 2) (pc' := 99) (lv' := [(4, .ref s0), (0, .ref 0), (1, .int l1), (2, .int l2), (3, .int l3)]) (st' := [.ref s0]) (by decide +kernel) rfl rfl ?_
  refine ab_fin.s1i (i := .iconst 0) (k := 1) (pc' := 100) (n := 0) (by decide +kernel) rfl (by decide +kernel) rfl ?_
  refine ab_fin.q_pF (ix := 66) (ci := 18) (k := 3) (h1 := conc ((τ1.wi s0 1 (0 : Int32)).wi s0 3 (0 : Int32))) (pc' := 103) (by decide +kernel) rfl (c_pI (v := 0) (F2.s p_s0) rfl) rfl rfl rfl ?_
  refine ab_fin.s1i (i := .iconst 1) (k := 1) (pc' := 104) (n := 1) (by decide +kernel) rfl (by decide +kernel) rfl ?_
  refine ab_fin.s2 (i := .istore 5) (k := 2) (pc' := 106) (lv' := [(5, .int 1), (4, .ref s0), (0, .ref 0), (1, .int l1), (2, .int l2), (3, .int l3)]) (st' := []) (by decide +kernel) rfl rfl ?_
  refine ab_fin.s2 (i := .aload_n 0) (k := 1) (pc' := 107) (lv' := [(5, .int 1), (4, .ref s0), (0, .ref 0), (1, .int l1), (2, .int l2), (3, .int l3)]) (st' := [.ref 0]) (by decide +kernel) rfl rfl ?_
  refine ab_fin.s1i (i := .bipush 60) (k := 2) (pc' := 109) (n := 60) (by decide +kernel) rfl (by decide +kernel) rfl ?_
  refine ab_fin.q_yI (i := .invokevirtual 233) (k := 3) (y := 5904) (As := [.ref 0, .int 60]) (rest := []) (M' := (mX23_is, [])) (lv2 := [(0, .ref 0), (1, .int 60)]) (pc' := 112) (X := K) (by decide +kernel) (ab_cv rfl rfl (conc_get (σ := ((τ1.wi s0 1 (0 : Int32)).wi s0 3 (0 : Int32))) (F2.s s0_0)) ⟨(Nat.le_of_ble_eq_true rfl), (Nat.le_of_ble_eq_true rfl)⟩ rfl) rfl (Nat.le_of_ble_eq_true rfl) rfl rfl (hY_no fun E => rfl) w (fun v5 τ3 F4 w => ?_)
  refine ab_fin.br (c := v5 = 0) (i := .ifCond .eq 170) (off := 170) (t := 282) (pc' := 115) (r := []) (by decide +kernel) rfl (by decide +kernel) rfl (fun q => ?_) (fun q => ?_)
  · replace w := w.1 q
    refine ab_fin.s2 (i := .aload 4) (k := 2) (pc' := 284) (lv' := [(5, .int 1), (4, .ref s0), (0, .ref 0), (1, .int l1), (2, .int l2), (3, .int l3)]) (st' := [.ref s0]) (by decide +kernel) rfl rfl ?_
    refine ab_fin.q_rA (b := (s0 + 3)) (ix := 69) (ci := 18) (k := 2) (pc' := 287) (by decide +kernel) rfl (c_rA (F4.s p_s0) rfl (rO_18_2 F4 p_s0)) rfl ?_
    refine ab_fin.s1i (i := .iconst 0) (k := 1) (pc' := 288) (n := 0) (by decide +kernel) rfl (by decide +kernel) rfl ?_
    refine ab_fin.s1i (i := .iconst 0) (k := 1) (pc' := 289) (n := 0) (by decide +kernel) rfl (by decide +kernel) rfl ?_
    refine ab_fin.q_sI (h1 := conc (τ3.wi (s0 + 3) 0 (0 : Int32))) (pc' := 290) (by decide +kernel) (c_sI' (F4.s (kF_18_3 p_s0)) (show ib (0 : Int32) 24 by decide +kernel) (by decide +kernel)) rfl ?_
    refine ab_fin.s2 (i := .aload 4) (k := 2) (pc' := 292) (lv' := [(5, .int 1), (4, .ref s0), (0, .ref 0), (1, .int l1), (2, .int l2), (3, .int l3)]) (st' := [.ref s0]) (by decide +kernel) rfl rfl ?_
    refine ab_fin.s1i (i := .iconst 1) (k := 1) (pc' := 293) (n := 1) (by decide +kernel) rfl (by decide +kernel) rfl ?_
    refine ab_fin.q_pF (ix := 66) (ci := 18) (k := 3) (h1 := conc ((τ3.wi (s0 + 3) 0 (0 : Int32)).wi s0 3 (1 : Int32))) (pc' := 296) (by decide +kernel) rfl (c_pI (v := 1) (F4.s p_s0) rfl) rfl rfl rfl ?_
    exact ab_fin.lv ⟨(List.forall_mem_cons.mpr ⟨(List.Mem.tail _ (List.Mem.tail _ (List.Mem.head _))), (List.forall_mem_cons.mpr ⟨(List.Mem.tail _ (List.Mem.tail _ (List.Mem.tail _ (List.Mem.head _)))), (List.forall_mem_cons.mpr ⟨(List.Mem.tail _ (List.Mem.tail _ (List.Mem.tail _ (List.Mem.tail _ (List.Mem.head _))))), (List.forall_mem_cons.mpr ⟨(List.Mem.tail _ (List.Mem.head _)), (List.forall_mem_cons.mpr ⟨(List.Mem.head _), (fun _ h => absurd h List.not_mem_nil)⟩)⟩)⟩)⟩)⟩), (show ([5, 4, 0, 1, 2, 3] : List Nat).Nodup from by decide)⟩ w
  · replace w := w.2 q
    exact ab_fin.lv ⟨(List.forall_mem_cons.mpr ⟨(List.Mem.tail _ (List.Mem.tail _ (List.Mem.head _))), (List.forall_mem_cons.mpr ⟨(List.Mem.tail _ (List.Mem.tail _ (List.Mem.tail _ (List.Mem.head _)))), (List.forall_mem_cons.mpr ⟨(List.Mem.tail _ (List.Mem.tail _ (List.Mem.tail _ (List.Mem.tail _ (List.Mem.head _))))), (List.forall_mem_cons.mpr ⟨(List.Mem.tail _ (List.Mem.head _)), (List.forall_mem_cons.mpr ⟨(List.Mem.head _), (fun _ h => absurd h List.not_mem_nil)⟩)⟩)⟩)⟩)⟩), (show ([5, 4, 0, 1, 2, 3] : List Nat).Nodup from by decide)⟩ w
theorem S_X23_kind_115 {Z : zT} {d : Nat} {σ : Sg} {l1 : Int32} {l2 : Int32} {l4 : Nat} {l5 : Int32} {K : kS} (F : FX ΦR σ.sh σ.r) (p_l4 : sh0R[l4]? = some (Sh.obj 18)) (w : B_X23_next_0 Z d σ  (yN K fun τ1 => B_X23_name_0 Z d τ1  (yI K fun v5 τ3 => B_X23_kindNamed_0 Z d τ3 v5 (yI K fun v8 τ6 => (0 ≤ v8 → B_X23_kind_153 Z (d + 1) τ6 l1 l2 l4 l5 (τ1.i 0 18) v8 0 0 K) ∧ (¬ 0 ≤ v8 → B_X23_breaks_0 Z d τ6 3 (τ1.i 0 18) (yN K fun τ9 => B_X23_kind_153 Z (d + 1) τ9 l1 l2 l4 l5 (τ1.i 0 18) v8 0 0 K)))))) : B_X23_kind_115 Z (d + 1) σ l1 l2 l4 l5 K := by
  unfold B_X23_kind_115
  refine ab_fin.s2 (i := .aload_n 0) (k := 1) (pc' := 116) (lv' := [(0, .ref 0), (1, .int l1), (2, .int l2), (4, .ref l4), (5, .int l5)]) (st' := [.ref 0]) (by decide +kernel) rfl rfl ?_
  refine ab_fin.q_yN (i := .invokevirtual 239) (k := 3) (y := 5902) (As := [.ref 0]) (rest := []) (M' := (mX23_next, [])) (lv2 := [(0, .ref 0)]) (pc' := 119) (X := K) (by decide +kernel) (ab_cv rfl rfl (conc_get (σ := σ) (F.s s0_0)) ⟨(Nat.le_of_ble_eq_true rfl), (Nat.le_of_ble_eq_true rfl)⟩ rfl) rfl (Nat.le_of_ble_eq_true rfl) rfl rfl (hY_no fun E => rfl) w (fun τ1 F2 w => ?_)
  refine ab_fin.s2 (i := .aload_n 0) (k := 1) (pc' := 120) (lv' := [(0, .ref 0), (1, .int l1), (2, .int l2), (4, .ref l4), (5, .int l5)]) (st' := [.ref 0]) (by decide +kernel) rfl rfl ?_
  refine ab_fin.q_rI (x := (τ1.i 0 18)) (ix := 106) (ci := 24) (k := 18) (pc' := 123) (by decide +kernel) rfl (c_rI (F2.s s0_0) rfl) rfl ?_
  refine ab_fin.s2 (i := .istore 6) (k := 2) (pc' := 125) (lv' := [(6, .int (τ1.i 0 18)), (0, .ref 0), (1, .int l1), (2, .int l2), (4, .ref l4), (5, .int l5)]) (st' := []) (by decide +kernel) rfl rfl ?_
  refine ab_fin.s2 (i := .aload_n 0) (k := 1) (pc' := 126) (lv' := [(6, .int (τ1.i 0 18)), (0, .ref 0), (1, .int l1), (2, .int l2), (4, .ref l4), (5, .int l5)]) (st' := [.ref 0]) (by decide +kernel) rfl rfl ?_
  refine ab_fin.s2 (i := .aload_n 0) (k := 1) (pc' := 127) (lv' := [(6, .int (τ1.i 0 18)), (0, .ref 0), (1, .int l1), (2, .int l2), (4, .ref l4), (5, .int l5)]) (st' := [.ref 0, .ref 0]) (by decide +kernel) rfl rfl ?_
  refine ab_fin.q_yI (i := .invokevirtual 277) (k := 3) (y := 5909) (As := [.ref 0]) (rest := [.ref 0]) (M' := (mX23_name, [])) (lv2 := [(0, .ref 0)]) (pc' := 130) (X := K) (by decide +kernel) (ab_cv rfl rfl (conc_get (σ := τ1) (F2.s s0_0)) ⟨(Nat.le_of_ble_eq_true rfl), (Nat.le_of_ble_eq_true rfl)⟩ rfl) rfl (Nat.le_of_ble_eq_true rfl) rfl rfl (hY_no fun E => rfl) w (fun v5 τ3 F4 w => ?_)
  refine ab_fin.q_yI (i := .invokevirtual 48) (k := 3) (y := 5890) (As := [.ref 0, .int v5]) (rest := []) (M' := (mX23_kindNamed, [])) (lv2 := [(0, .ref 0), (1, .int v5)]) (pc' := 133) (X := K) (by decide +kernel) (ab_cv rfl rfl (conc_get (σ := τ3) (F4.s s0_0)) ⟨(Nat.le_of_ble_eq_true rfl), (Nat.le_of_ble_eq_true rfl)⟩ rfl) rfl (Nat.le_of_ble_eq_true rfl) rfl rfl (hY_no fun E => rfl) w (fun v8 τ6 F7 w => ?_)
  refine ab_fin.s2 (i := .istore 7) (k := 2) (pc' := 135) (lv' := [(7, .int v8), (6, .int (τ1.i 0 18)), (0, .ref 0), (1, .int l1), (2, .int l2), (4, .ref l4), (5, .int l5)]) (st' := []) (by decide +kernel) rfl rfl ?_
  refine ab_fin.s2 (i := .iload 7) (k := 2) (pc' := 137) (lv' := [(7, .int v8), (6, .int (τ1.i 0 18)), (0, .ref 0), (1, .int l1), (2, .int l2), (4, .ref l4), (5, .int l5)]) (st' := [.int v8]) (by decide +kernel) rfl rfl ?_
  refine ab_fin.br (c := 0 ≤ v8) (i := .ifCond .ge 10) (off := 10) (t := 147) (pc' := 140) (r := []) (by decide +kernel) rfl (by decide +kernel) rfl (fun q => ?_) (fun q => ?_)
  · replace w := w.1 q
    refine ab_fin.s1i (i := .iconst 0) (k := 1) (pc' := 148) (n := 0) (by decide +kernel) rfl (by decide +kernel) rfl ?_
    refine ab_fin.s2 (i := .istore 8) (k := 2) (pc' := 150) (lv' := [(8, .int 0), (7, .int v8), (6, .int (τ1.i 0 18)), (0, .ref 0), (1, .int l1), (2, .int l2), (4, .ref l4), (5, .int l5)]) (st' := []) (by decide +kernel) rfl rfl ?_
    refine ab_fin.s1i (i := .iconst 0) (k := 1) (pc' := 151) (n := 0) (by decide +kernel) rfl (by decide +kernel) rfl ?_
    refine ab_fin.s2 (i := .istore 9) (k := 2) (pc' := 153) (lv' := [(9, .int 0), (8, .int 0), (7, .int v8), (6, .int (τ1.i 0 18)), (0, .ref 0), (1, .int l1), (2, .int l2), (4, .ref l4), (5, .int l5)]) (st' := []) (by decide +kernel) rfl rfl ?_
    exact ab_fin.lv ⟨(List.forall_mem_cons.mpr ⟨(List.Mem.tail _ (List.Mem.tail _ (List.Mem.tail _ (List.Mem.tail _ (List.Mem.head _))))), (List.forall_mem_cons.mpr ⟨(List.Mem.tail _ (List.Mem.tail _ (List.Mem.tail _ (List.Mem.tail _ (List.Mem.tail _ (List.Mem.head _)))))), (List.forall_mem_cons.mpr ⟨(List.Mem.tail _ (List.Mem.tail _ (List.Mem.tail _ (List.Mem.tail _ (List.Mem.tail _ (List.Mem.tail _ (List.Mem.head _))))))), (List.forall_mem_cons.mpr ⟨(List.Mem.tail _ (List.Mem.tail _ (List.Mem.tail _ (List.Mem.tail _ (List.Mem.tail _ (List.Mem.tail _ (List.Mem.tail _ (List.Mem.head _)))))))), (List.forall_mem_cons.mpr ⟨(List.Mem.tail _ (List.Mem.tail _ (List.Mem.tail _ (List.Mem.tail _ (List.Mem.tail _ (List.Mem.tail _ (List.Mem.tail _ (List.Mem.tail _ (List.Mem.head _))))))))), (List.forall_mem_cons.mpr ⟨(List.Mem.tail _ (List.Mem.tail _ (List.Mem.tail _ (List.Mem.head _)))), (List.forall_mem_cons.mpr ⟨(List.Mem.tail _ (List.Mem.tail _ (List.Mem.head _))), (List.forall_mem_cons.mpr ⟨(List.Mem.tail _ (List.Mem.head _)), (List.forall_mem_cons.mpr ⟨(List.Mem.head _), (fun _ h => absurd h List.not_mem_nil)⟩)⟩)⟩)⟩)⟩)⟩)⟩)⟩)⟩), (show ([9, 8, 7, 6, 0, 1, 2, 4, 5] : List Nat).Nodup from by decide)⟩ w
  · replace w := w.2 q
    refine ab_fin.s2 (i := .aload_n 0) (k := 1) (pc' := 141) (lv' := [(7, .int v8), (6, .int (τ1.i 0 18)), (0, .ref 0), (1, .int l1), (2, .int l2), (4, .ref l4), (5, .int l5)]) (st' := [.ref 0]) (by decide +kernel) rfl rfl ?_
    refine ab_fin.s1i (i := .iconst 3) (k := 1) (pc' := 142) (n := 3) (by decide +kernel) rfl (by decide +kernel) rfl ?_
    refine ab_fin.s2 (i := .iload 6) (k := 2) (pc' := 144) (lv' := [(7, .int v8), (6, .int (τ1.i 0 18)), (0, .ref 0), (1, .int l1), (2, .int l2), (4, .ref l4), (5, .int l5)]) (st' := [.int (τ1.i 0 18), .int 3, .ref 0]) (by decide +kernel) rfl rfl ?_
    refine ab_fin.q_yN (i := .invokevirtual 259) (k := 3) (y := 5910) (As := [.ref 0, .int 3, .int (τ1.i 0 18)]) (rest := []) (M' := (mX23_breaks, [])) (lv2 := [(0, .ref 0), (1, .int 3), (2, .int (τ1.i 0 18))]) (pc' := 147) (X := K) (by decide +kernel) (ab_cv rfl rfl (conc_get (σ := τ6) (F7.s s0_0)) ⟨(Nat.le_of_ble_eq_true rfl), (Nat.le_of_ble_eq_true rfl)⟩ rfl) rfl (Nat.le_of_ble_eq_true rfl) rfl rfl (hY_no fun E => rfl) w (fun τ9 F10 w => ?_)
    refine ab_fin.s1i (i := .iconst 0) (k := 1) (pc' := 148) (n := 0) (by decide +kernel) rfl (by decide +kernel) rfl ?_
    refine ab_fin.s2 (i := .istore 8) (k := 2) (pc' := 150) (lv' := [(8, .int 0), (7, .int v8), (6, .int (τ1.i 0 18)), (0, .ref 0), (1, .int l1), (2, .int l2), (4, .ref l4), (5, .int l5)]) (st' := []) (by decide +kernel) rfl rfl ?_
    refine ab_fin.s1i (i := .iconst 0) (k := 1) (pc' := 151) (n := 0) (by decide +kernel) rfl (by decide +kernel) rfl ?_
    refine ab_fin.s2 (i := .istore 9) (k := 2) (pc' := 153) (lv' := [(9, .int 0), (8, .int 0), (7, .int v8), (6, .int (τ1.i 0 18)), (0, .ref 0), (1, .int l1), (2, .int l2), (4, .ref l4), (5, .int l5)]) (st' := []) (by decide +kernel) rfl rfl ?_
    exact ab_fin.lv ⟨(List.forall_mem_cons.mpr ⟨(List.Mem.tail _ (List.Mem.tail _ (List.Mem.tail _ (List.Mem.tail _ (List.Mem.head _))))), (List.forall_mem_cons.mpr ⟨(List.Mem.tail _ (List.Mem.tail _ (List.Mem.tail _ (List.Mem.tail _ (List.Mem.tail _ (List.Mem.head _)))))), (List.forall_mem_cons.mpr ⟨(List.Mem.tail _ (List.Mem.tail _ (List.Mem.tail _ (List.Mem.tail _ (List.Mem.tail _ (List.Mem.tail _ (List.Mem.head _))))))), (List.forall_mem_cons.mpr ⟨(List.Mem.tail _ (List.Mem.tail _ (List.Mem.tail _ (List.Mem.tail _ (List.Mem.tail _ (List.Mem.tail _ (List.Mem.tail _ (List.Mem.head _)))))))), (List.forall_mem_cons.mpr ⟨(List.Mem.tail _ (List.Mem.tail _ (List.Mem.tail _ (List.Mem.tail _ (List.Mem.tail _ (List.Mem.tail _ (List.Mem.tail _ (List.Mem.tail _ (List.Mem.head _))))))))), (List.forall_mem_cons.mpr ⟨(List.Mem.tail _ (List.Mem.tail _ (List.Mem.tail _ (List.Mem.head _)))), (List.forall_mem_cons.mpr ⟨(List.Mem.tail _ (List.Mem.tail _ (List.Mem.head _))), (List.forall_mem_cons.mpr ⟨(List.Mem.tail _ (List.Mem.head _)), (List.forall_mem_cons.mpr ⟨(List.Mem.head _), (fun _ h => absurd h List.not_mem_nil)⟩)⟩)⟩)⟩)⟩)⟩)⟩)⟩)⟩), (show ([9, 8, 7, 6, 0, 1, 2, 4, 5] : List Nat).Nodup from by decide)⟩ w
theorem S_X23_kind_153 {Z : zT} {d : Nat} {σ : Sg} {l1 : Int32} {l2 : Int32} {l4 : Nat} {l5 : Int32} {l6 : Int32} {l7 : Int32} {l8 : Int32} {l9 : Int32} {K : kS} (F : FX ΦR σ.sh σ.r) (p_l4 : sh0R[l4]? = some (Sh.obj 18)) (w : ((σ.i l4 3) ≤ l9 → (l7 < 0 → B_X23_kind_211 Z (d + 1) σ l1 l2 l4 l5 l7 l8 K) ∧ (¬ l7 < 0 → (l8 = 0 → B_X23_kind_211 Z (d + 1) σ l1 l2 l4 l5 l7 l8 K) ∧ (¬ l8 = 0 → B_X23_breaks_0 Z d σ 5 l6 (yN K fun τ1 => B_X23_kind_211 Z (d + 1) τ1 l1 l2 l4 l5 l7 l8 K)))) ∧ (¬ (σ.i l4 3) ≤ l9 → (¬ l8 = 0 → B_X23_kind_153 Z (d + 1) σ l1 l2 l4 l5 l6 l7 1 (l9 + 1) K) ∧ (l8 = 0 → ib l9 24 ∧ ((¬ (σ.i (l4 + 3) l9.toNatClampNeg) = l7 → B_X23_kind_153 Z (d + 1) σ l1 l2 l4 l5 l6 l7 0 (l9 + 1) K) ∧ ((σ.i (l4 + 3) l9.toNatClampNeg) = l7 → B_X23_kind_153 Z (d + 1) σ l1 l2 l4 l5 l6 l7 1 (l9 + 1) K))))) : B_X23_kind_153 Z (d + 1) σ l1 l2 l4 l5 l6 l7 l8 l9 K := by
  unfold B_X23_kind_153
  refine ab_fin.s2 (i := .iload 9) (k := 2) (pc' := 155) (lv' := [(0, .ref 0), (1, .int l1), (2, .int l2), (4, .ref l4), (5, .int l5), (6, .int l6), (7, .int l7), (8, .int l8), (9, .int l9)]) (st' := [.int l9]) (by decide +kernel) rfl rfl ?_
  refine ab_fin.s2 (i := .aload 4) (k := 2) (pc' := 157) (lv' := [(0, .ref 0), (1, .int l1), (2, .int l2), (4, .ref l4), (5, .int l5), (6, .int l6), (7, .int l7), (8, .int l8), (9, .int l9)]) (st' := [.ref l4, .int l9]) (by decide +kernel) rfl rfl ?_
  refine ab_fin.q_rI (x := (σ.i l4 3)) (ix := 66) (ci := 18) (k := 3) (pc' := 160) (by decide +kernel) rfl (c_rI (F.s p_l4) rfl) rfl ?_
  refine ab_fin.br (c := (σ.i l4 3) ≤ l9) (i := .if_icmp .ge 34) (off := 34) (t := 194) (pc' := 163) (r := []) (by decide +kernel) rfl (by decide +kernel) rfl (fun q => ?_) (fun q => ?_)
  · replace w := w.1 q
    refine ab_fin.s2 (i := .iload 7) (k := 2) (pc' := 196) (lv' := [(0, .ref 0), (1, .int l1), (2, .int l2), (4, .ref l4), (5, .int l5), (6, .int l6), (7, .int l7), (8, .int l8), (9, .int l9)]) (st' := [.int l7]) (by decide +kernel) rfl rfl ?_
    refine ab_fin.br (c := l7 < 0) (i := .ifCond .lt 15) (off := 15) (t := 211) (pc' := 199) (r := []) (by decide +kernel) rfl (by decide +kernel) rfl (fun q => ?_) (fun q => ?_)
    · replace w := w.1 q
      exact ab_fin.lv ⟨(List.forall_mem_cons.mpr ⟨(List.Mem.head _), (List.forall_mem_cons.mpr ⟨(List.Mem.tail _ (List.Mem.head _)), (List.forall_mem_cons.mpr ⟨(List.Mem.tail _ (List.Mem.tail _ (List.Mem.head _))), (List.forall_mem_cons.mpr ⟨(List.Mem.tail _ (List.Mem.tail _ (List.Mem.tail _ (List.Mem.head _)))), (List.forall_mem_cons.mpr ⟨(List.Mem.tail _ (List.Mem.tail _ (List.Mem.tail _ (List.Mem.tail _ (List.Mem.head _))))), (List.forall_mem_cons.mpr ⟨(List.Mem.tail _ (List.Mem.tail _ (List.Mem.tail _ (List.Mem.tail _ (List.Mem.tail _ (List.Mem.tail _ (List.Mem.head _))))))), (List.forall_mem_cons.mpr ⟨(List.Mem.tail _ (List.Mem.tail _ (List.Mem.tail _ (List.Mem.tail _ (List.Mem.tail _ (List.Mem.tail _ (List.Mem.tail _ (List.Mem.head _)))))))), (fun _ h => absurd h List.not_mem_nil)⟩)⟩)⟩)⟩)⟩)⟩)⟩), (show ([0, 1, 2, 4, 5, 6, 7, 8, 9] : List Nat).Nodup from by decide)⟩ w
    · replace w := w.2 q
      refine ab_fin.s2 (i := .iload 8) (k := 2) (pc' := 201) (lv' := [(0, .ref 0), (1, .int l1), (2, .int l2), (4, .ref l4), (5, .int l5), (6, .int l6), (7, .int l7), (8, .int l8), (9, .int l9)]) (st' := [.int l8]) (by decide +kernel) rfl rfl ?_
      refine ab_fin.br (c := l8 = 0) (i := .ifCond .eq 10) (off := 10) (t := 211) (pc' := 204) (r := []) (by decide +kernel) rfl (by decide +kernel) rfl (fun q => ?_) (fun q => ?_)
      · replace w := w.1 q
        exact ab_fin.lv ⟨(List.forall_mem_cons.mpr ⟨(List.Mem.head _), (List.forall_mem_cons.mpr ⟨(List.Mem.tail _ (List.Mem.head _)), (List.forall_mem_cons.mpr ⟨(List.Mem.tail _ (List.Mem.tail _ (List.Mem.head _))), (List.forall_mem_cons.mpr ⟨(List.Mem.tail _ (List.Mem.tail _ (List.Mem.tail _ (List.Mem.head _)))), (List.forall_mem_cons.mpr ⟨(List.Mem.tail _ (List.Mem.tail _ (List.Mem.tail _ (List.Mem.tail _ (List.Mem.head _))))), (List.forall_mem_cons.mpr ⟨(List.Mem.tail _ (List.Mem.tail _ (List.Mem.tail _ (List.Mem.tail _ (List.Mem.tail _ (List.Mem.tail _ (List.Mem.head _))))))), (List.forall_mem_cons.mpr ⟨(List.Mem.tail _ (List.Mem.tail _ (List.Mem.tail _ (List.Mem.tail _ (List.Mem.tail _ (List.Mem.tail _ (List.Mem.tail _ (List.Mem.head _)))))))), (fun _ h => absurd h List.not_mem_nil)⟩)⟩)⟩)⟩)⟩)⟩)⟩), (show ([0, 1, 2, 4, 5, 6, 7, 8, 9] : List Nat).Nodup from by decide)⟩ w
      · replace w := w.2 q
        refine ab_fin.s2 (i := .aload_n 0) (k := 1) (pc' := 205) (lv' := [(0, .ref 0), (1, .int l1), (2, .int l2), (4, .ref l4), (5, .int l5), (6, .int l6), (7, .int l7), (8, .int l8), (9, .int l9)]) (st' := [.ref 0]) (by decide +kernel) rfl rfl ?_
        refine ab_fin.s1i (i := .iconst 5) (k := 1) (pc' := 206) (n := 5) (by decide +kernel) rfl (by decide +kernel) rfl ?_
        refine ab_fin.s2 (i := .iload 6) (k := 2) (pc' := 208) (lv' := [(0, .ref 0), (1, .int l1), (2, .int l2), (4, .ref l4), (5, .int l5), (6, .int l6), (7, .int l7), (8, .int l8), (9, .int l9)]) (st' := [.int l6, .int 5, .ref 0]) (by decide +kernel) rfl rfl ?_
        refine ab_fin.q_yN (i := .invokevirtual 259) (k := 3) (y := 5910) (As := [.ref 0, .int 5, .int l6]) (rest := []) (M' := (mX23_breaks, [])) (lv2 := [(0, .ref 0), (1, .int 5), (2, .int l6)]) (pc' := 211) (X := K) (by decide +kernel) (ab_cv rfl rfl (conc_get (σ := σ) (F.s s0_0)) ⟨(Nat.le_of_ble_eq_true rfl), (Nat.le_of_ble_eq_true rfl)⟩ rfl) rfl (Nat.le_of_ble_eq_true rfl) rfl rfl (hY_no fun E => rfl) w (fun τ1 F2 w => ?_)
        exact ab_fin.lv ⟨(List.forall_mem_cons.mpr ⟨(List.Mem.head _), (List.forall_mem_cons.mpr ⟨(List.Mem.tail _ (List.Mem.head _)), (List.forall_mem_cons.mpr ⟨(List.Mem.tail _ (List.Mem.tail _ (List.Mem.head _))), (List.forall_mem_cons.mpr ⟨(List.Mem.tail _ (List.Mem.tail _ (List.Mem.tail _ (List.Mem.head _)))), (List.forall_mem_cons.mpr ⟨(List.Mem.tail _ (List.Mem.tail _ (List.Mem.tail _ (List.Mem.tail _ (List.Mem.head _))))), (List.forall_mem_cons.mpr ⟨(List.Mem.tail _ (List.Mem.tail _ (List.Mem.tail _ (List.Mem.tail _ (List.Mem.tail _ (List.Mem.tail _ (List.Mem.head _))))))), (List.forall_mem_cons.mpr ⟨(List.Mem.tail _ (List.Mem.tail _ (List.Mem.tail _ (List.Mem.tail _ (List.Mem.tail _ (List.Mem.tail _ (List.Mem.tail _ (List.Mem.head _)))))))), (fun _ h => absurd h List.not_mem_nil)⟩)⟩)⟩)⟩)⟩)⟩)⟩), (show ([0, 1, 2, 4, 5, 6, 7, 8, 9] : List Nat).Nodup from by decide)⟩ w
  · replace w := w.2 q
    refine ab_fin.s2 (i := .iload 8) (k := 2) (pc' := 165) (lv' := [(0, .ref 0), (1, .int l1), (2, .int l2), (4, .ref l4), (5, .int l5), (6, .int l6), (7, .int l7), (8, .int l8), (9, .int l9)]) (st' := [.int l8]) (by decide +kernel) rfl rfl ?_
    refine ab_fin.br (c := ¬ l8 = 0) (i := .ifCond .ne 16) (off := 16) (t := 181) (pc' := 168) (r := []) (by decide +kernel) rfl (by decide +kernel) rfl (fun q => ?_) (fun q => ?_)
    · replace w := w.1 q
      refine ab_fin.s1i (i := .iconst 1) (k := 1) (pc' := 182) (n := 1) (by decide +kernel) rfl (by decide +kernel) rfl ?_
      refine ab_fin.s3 (i := .goto 4) (k := 3) (t := 186) (st' := [.int 1]) (by decide +kernel) (ab_gto (by decide +kernel)) ?_
      refine ab_fin.s2 (i := .istore 8) (k := 2) (pc' := 188) (lv' := [(8, .int 1), (0, .ref 0), (1, .int l1), (2, .int l2), (4, .ref l4), (5, .int l5), (6, .int l6), (7, .int l7), (9, .int l9)]) (st' := []) (by decide +kernel) rfl rfl ?_
      refine ab_fin.q_inc (n := 9) (c := 1) (pc' := 191) (lv' := [(9, .int (l9 + 1)), (8, .int 1), (0, .ref 0), (1, .int l1), (2, .int l2), (4, .ref l4), (5, .int l5), (6, .int l6), (7, .int l7)]) (by decide +kernel) (by decide) rfl rfl rfl rfl ?_
      refine ab_fin.s3 (i := .goto (-38)) (k := 3) (t := 153) (st' := []) (by decide +kernel) (ab_gto (by decide +kernel)) ?_
      exact ab_fin.lv ⟨(List.forall_mem_cons.mpr ⟨(List.Mem.tail _ (List.Mem.tail _ (List.Mem.head _))), (List.forall_mem_cons.mpr ⟨(List.Mem.tail _ (List.Mem.tail _ (List.Mem.tail _ (List.Mem.head _)))), (List.forall_mem_cons.mpr ⟨(List.Mem.tail _ (List.Mem.tail _ (List.Mem.tail _ (List.Mem.tail _ (List.Mem.head _))))), (List.forall_mem_cons.mpr ⟨(List.Mem.tail _ (List.Mem.tail _ (List.Mem.tail _ (List.Mem.tail _ (List.Mem.tail _ (List.Mem.head _)))))), (List.forall_mem_cons.mpr ⟨(List.Mem.tail _ (List.Mem.tail _ (List.Mem.tail _ (List.Mem.tail _ (List.Mem.tail _ (List.Mem.tail _ (List.Mem.head _))))))), (List.forall_mem_cons.mpr ⟨(List.Mem.tail _ (List.Mem.tail _ (List.Mem.tail _ (List.Mem.tail _ (List.Mem.tail _ (List.Mem.tail _ (List.Mem.tail _ (List.Mem.head _)))))))), (List.forall_mem_cons.mpr ⟨(List.Mem.tail _ (List.Mem.tail _ (List.Mem.tail _ (List.Mem.tail _ (List.Mem.tail _ (List.Mem.tail _ (List.Mem.tail _ (List.Mem.tail _ (List.Mem.head _))))))))), (List.forall_mem_cons.mpr ⟨(List.Mem.tail _ (List.Mem.head _)), (List.forall_mem_cons.mpr ⟨(List.Mem.head _), (fun _ h => absurd h List.not_mem_nil)⟩)⟩)⟩)⟩)⟩)⟩)⟩)⟩)⟩), (show ([9, 8, 0, 1, 2, 4, 5, 6, 7] : List Nat).Nodup from by decide)⟩ w
    · replace w := w.2 (Decidable.of_not_not q)
      refine ab_fin.s2 (i := .aload 4) (k := 2) (pc' := 170) (lv' := [(0, .ref 0), (1, .int l1), (2, .int l2), (4, .ref l4), (5, .int l5), (6, .int l6), (7, .int l7), (8, .int l8), (9, .int l9)]) (st' := [.ref l4]) (by decide +kernel) rfl rfl ?_
      refine ab_fin.q_rA (b := (l4 + 3)) (ix := 69) (ci := 18) (k := 2) (pc' := 173) (by decide +kernel) rfl (c_rA (F.s p_l4) rfl (rO_18_2 F p_l4)) rfl ?_
      refine ab_fin.s2 (i := .iload 9) (k := 2) (pc' := 175) (lv' := [(0, .ref 0), (1, .int l1), (2, .int l2), (4, .ref l4), (5, .int l5), (6, .int l6), (7, .int l7), (8, .int l8), (9, .int l9)]) (st' := [.int l9, .ref (l4 + 3)]) (by decide +kernel) rfl rfl ?_
      obtain ⟨e3, w⟩ := w
      refine ab_fin.q_eI (x := (σ.i (l4 + 3) l9.toNatClampNeg)) (pc' := 176) (by decide +kernel) (c_eI' (F.s (kF_18_3 p_l4)) e3 rfl) rfl ?_
      refine ab_fin.s2 (i := .iload 7) (k := 2) (pc' := 178) (lv' := [(0, .ref 0), (1, .int l1), (2, .int l2), (4, .ref l4), (5, .int l5), (6, .int l6), (7, .int l7), (8, .int l8), (9, .int l9)]) (st' := [.int l7, .int (σ.i (l4 + 3) l9.toNatClampNeg)]) (by decide +kernel) rfl rfl ?_
      refine ab_fin.br (c := ¬ (σ.i (l4 + 3) l9.toNatClampNeg) = l7) (i := .if_icmp .ne 7) (off := 7) (t := 185) (pc' := 181) (r := []) (by decide +kernel) rfl (by decide +kernel) rfl (fun q => ?_) (fun q => ?_)
      · replace w := w.1 q
        refine ab_fin.s1i (i := .iconst 0) (k := 1) (pc' := 186) (n := 0) (by decide +kernel) rfl (by decide +kernel) rfl ?_
        refine ab_fin.s2 (i := .istore 8) (k := 2) (pc' := 188) (lv' := [(8, .int 0), (0, .ref 0), (1, .int l1), (2, .int l2), (4, .ref l4), (5, .int l5), (6, .int l6), (7, .int l7), (9, .int l9)]) (st' := []) (by decide +kernel) rfl rfl ?_
        refine ab_fin.q_inc (n := 9) (c := 1) (pc' := 191) (lv' := [(9, .int (l9 + 1)), (8, .int 0), (0, .ref 0), (1, .int l1), (2, .int l2), (4, .ref l4), (5, .int l5), (6, .int l6), (7, .int l7)]) (by decide +kernel) (by decide) rfl rfl rfl rfl ?_
        refine ab_fin.s3 (i := .goto (-38)) (k := 3) (t := 153) (st' := []) (by decide +kernel) (ab_gto (by decide +kernel)) ?_
        exact ab_fin.lv ⟨(List.forall_mem_cons.mpr ⟨(List.Mem.tail _ (List.Mem.tail _ (List.Mem.head _))), (List.forall_mem_cons.mpr ⟨(List.Mem.tail _ (List.Mem.tail _ (List.Mem.tail _ (List.Mem.head _)))), (List.forall_mem_cons.mpr ⟨(List.Mem.tail _ (List.Mem.tail _ (List.Mem.tail _ (List.Mem.tail _ (List.Mem.head _))))), (List.forall_mem_cons.mpr ⟨(List.Mem.tail _ (List.Mem.tail _ (List.Mem.tail _ (List.Mem.tail _ (List.Mem.tail _ (List.Mem.head _)))))), (List.forall_mem_cons.mpr ⟨(List.Mem.tail _ (List.Mem.tail _ (List.Mem.tail _ (List.Mem.tail _ (List.Mem.tail _ (List.Mem.tail _ (List.Mem.head _))))))), (List.forall_mem_cons.mpr ⟨(List.Mem.tail _ (List.Mem.tail _ (List.Mem.tail _ (List.Mem.tail _ (List.Mem.tail _ (List.Mem.tail _ (List.Mem.tail _ (List.Mem.head _)))))))), (List.forall_mem_cons.mpr ⟨(List.Mem.tail _ (List.Mem.tail _ (List.Mem.tail _ (List.Mem.tail _ (List.Mem.tail _ (List.Mem.tail _ (List.Mem.tail _ (List.Mem.tail _ (List.Mem.head _))))))))), (List.forall_mem_cons.mpr ⟨(List.Mem.tail _ (List.Mem.head _)), (List.forall_mem_cons.mpr ⟨(List.Mem.head _), (fun _ h => absurd h List.not_mem_nil)⟩)⟩)⟩)⟩)⟩)⟩)⟩)⟩)⟩), (show ([9, 8, 0, 1, 2, 4, 5, 6, 7] : List Nat).Nodup from by decide)⟩ w
      · replace w := w.2 (Decidable.of_not_not q)
        refine ab_fin.s1i (i := .iconst 1) (k := 1) (pc' := 182) (n := 1) (by decide +kernel) rfl (by decide +kernel) rfl ?_
        refine ab_fin.s3 (i := .goto 4) (k := 3) (t := 186) (st' := [.int 1]) (by decide +kernel) (ab_gto (by decide +kernel)) ?_
        refine ab_fin.s2 (i := .istore 8) (k := 2) (pc' := 188) (lv' := [(8, .int 1), (0, .ref 0), (1, .int l1), (2, .int l2), (4, .ref l4), (5, .int l5), (6, .int l6), (7, .int l7), (9, .int l9)]) (st' := []) (by decide +kernel) rfl rfl ?_
        refine ab_fin.q_inc (n := 9) (c := 1) (pc' := 191) (lv' := [(9, .int (l9 + 1)), (8, .int 1), (0, .ref 0), (1, .int l1), (2, .int l2), (4, .ref l4), (5, .int l5), (6, .int l6), (7, .int l7)]) (by decide +kernel) (by decide) rfl rfl rfl rfl ?_
        refine ab_fin.s3 (i := .goto (-38)) (k := 3) (t := 153) (st' := []) (by decide +kernel) (ab_gto (by decide +kernel)) ?_
        exact ab_fin.lv ⟨(List.forall_mem_cons.mpr ⟨(List.Mem.tail _ (List.Mem.tail _ (List.Mem.head _))), (List.forall_mem_cons.mpr ⟨(List.Mem.tail _ (List.Mem.tail _ (List.Mem.tail _ (List.Mem.head _)))), (List.forall_mem_cons.mpr ⟨(List.Mem.tail _ (List.Mem.tail _ (List.Mem.tail _ (List.Mem.tail _ (List.Mem.head _))))), (List.forall_mem_cons.mpr ⟨(List.Mem.tail _ (List.Mem.tail _ (List.Mem.tail _ (List.Mem.tail _ (List.Mem.tail _ (List.Mem.head _)))))), (List.forall_mem_cons.mpr ⟨(List.Mem.tail _ (List.Mem.tail _ (List.Mem.tail _ (List.Mem.tail _ (List.Mem.tail _ (List.Mem.tail _ (List.Mem.head _))))))), (List.forall_mem_cons.mpr ⟨(List.Mem.tail _ (List.Mem.tail _ (List.Mem.tail _ (List.Mem.tail _ (List.Mem.tail _ (List.Mem.tail _ (List.Mem.tail _ (List.Mem.head _)))))))), (List.forall_mem_cons.mpr ⟨(List.Mem.tail _ (List.Mem.tail _ (List.Mem.tail _ (List.Mem.tail _ (List.Mem.tail _ (List.Mem.tail _ (List.Mem.tail _ (List.Mem.tail _ (List.Mem.head _))))))))), (List.forall_mem_cons.mpr ⟨(List.Mem.tail _ (List.Mem.head _)), (List.forall_mem_cons.mpr ⟨(List.Mem.head _), (fun _ h => absurd h List.not_mem_nil)⟩)⟩)⟩)⟩)⟩)⟩)⟩)⟩)⟩), (show ([9, 8, 0, 1, 2, 4, 5, 6, 7] : List Nat).Nodup from by decide)⟩ w
theorem S_X23_kind_211 {Z : zT} {d : Nat} {σ : Sg} {l1 : Int32} {l2 : Int32} {l4 : Nat} {l5 : Int32} {l7 : Int32} {l8 : Int32} {K : kS} (F : FX ΦR σ.sh σ.r) (p_l4 : sh0R[l4]? = some (Sh.obj 18)) (w : (l5 = 0 → B_X23_kind_230 Z (d + 1) σ l1 l2 l4 l7 l8 K) ∧ (¬ l5 = 0 → (l7 < 0 → B_X23_kind_230 Z (d + 1) σ l1 l2 l4 l7 l8 K) ∧ (¬ l7 < 0 → (¬ l8 = 0 → B_X23_kind_230 Z (d + 1) σ l1 l2 l4 l7 l8 K) ∧ (l8 = 0 → B_X23_kind_231 Z (d + 1) σ l1 l2 l4 l7 l8 1 K)))) : B_X23_kind_211 Z (d + 1) σ l1 l2 l4 l5 l7 l8 K := by
  unfold B_X23_kind_211
  refine ab_fin.s2 (i := .iload 5) (k := 2) (pc' := 213) (lv' := [(0, .ref 0), (1, .int l1), (2, .int l2), (4, .ref l4), (5, .int l5), (7, .int l7), (8, .int l8)]) (st' := [.int l5]) (by decide +kernel) rfl rfl ?_
  refine ab_fin.br (c := l5 = 0) (i := .ifCond .eq 17) (off := 17) (t := 230) (pc' := 216) (r := []) (by decide +kernel) rfl (by decide +kernel) rfl (fun q => ?_) (fun q => ?_)
  · replace w := w.1 q
    exact ab_fin.lv ⟨(List.forall_mem_cons.mpr ⟨(List.Mem.head _), (List.forall_mem_cons.mpr ⟨(List.Mem.tail _ (List.Mem.head _)), (List.forall_mem_cons.mpr ⟨(List.Mem.tail _ (List.Mem.tail _ (List.Mem.head _))), (List.forall_mem_cons.mpr ⟨(List.Mem.tail _ (List.Mem.tail _ (List.Mem.tail _ (List.Mem.head _)))), (List.forall_mem_cons.mpr ⟨(List.Mem.tail _ (List.Mem.tail _ (List.Mem.tail _ (List.Mem.tail _ (List.Mem.tail _ (List.Mem.head _)))))), (List.forall_mem_cons.mpr ⟨(List.Mem.tail _ (List.Mem.tail _ (List.Mem.tail _ (List.Mem.tail _ (List.Mem.tail _ (List.Mem.tail _ (List.Mem.head _))))))), (fun _ h => absurd h List.not_mem_nil)⟩)⟩)⟩)⟩)⟩)⟩), (show ([0, 1, 2, 4, 5, 7, 8] : List Nat).Nodup from by decide)⟩ w
  · replace w := w.2 q
    refine ab_fin.s2 (i := .iload 7) (k := 2) (pc' := 218) (lv' := [(0, .ref 0), (1, .int l1), (2, .int l2), (4, .ref l4), (5, .int l5), (7, .int l7), (8, .int l8)]) (st' := [.int l7]) (by decide +kernel) rfl rfl ?_
    refine ab_fin.br (c := l7 < 0) (i := .ifCond .lt 12) (off := 12) (t := 230) (pc' := 221) (r := []) (by decide +kernel) rfl (by decide +kernel) rfl (fun q => ?_) (fun q => ?_)
    · replace w := w.1 q
      exact ab_fin.lv ⟨(List.forall_mem_cons.mpr ⟨(List.Mem.head _), (List.forall_mem_cons.mpr ⟨(List.Mem.tail _ (List.Mem.head _)), (List.forall_mem_cons.mpr ⟨(List.Mem.tail _ (List.Mem.tail _ (List.Mem.head _))), (List.forall_mem_cons.mpr ⟨(List.Mem.tail _ (List.Mem.tail _ (List.Mem.tail _ (List.Mem.head _)))), (List.forall_mem_cons.mpr ⟨(List.Mem.tail _ (List.Mem.tail _ (List.Mem.tail _ (List.Mem.tail _ (List.Mem.tail _ (List.Mem.head _)))))), (List.forall_mem_cons.mpr ⟨(List.Mem.tail _ (List.Mem.tail _ (List.Mem.tail _ (List.Mem.tail _ (List.Mem.tail _ (List.Mem.tail _ (List.Mem.head _))))))), (fun _ h => absurd h List.not_mem_nil)⟩)⟩)⟩)⟩)⟩)⟩), (show ([0, 1, 2, 4, 5, 7, 8] : List Nat).Nodup from by decide)⟩ w
    · replace w := w.2 q
      refine ab_fin.s2 (i := .iload 8) (k := 2) (pc' := 223) (lv' := [(0, .ref 0), (1, .int l1), (2, .int l2), (4, .ref l4), (5, .int l5), (7, .int l7), (8, .int l8)]) (st' := [.int l8]) (by decide +kernel) rfl rfl ?_
      refine ab_fin.br (c := ¬ l8 = 0) (i := .ifCond .ne 7) (off := 7) (t := 230) (pc' := 226) (r := []) (by decide +kernel) rfl (by decide +kernel) rfl (fun q => ?_) (fun q => ?_)
      · replace w := w.1 q
        exact ab_fin.lv ⟨(List.forall_mem_cons.mpr ⟨(List.Mem.head _), (List.forall_mem_cons.mpr ⟨(List.Mem.tail _ (List.Mem.head _)), (List.forall_mem_cons.mpr ⟨(List.Mem.tail _ (List.Mem.tail _ (List.Mem.head _))), (List.forall_mem_cons.mpr ⟨(List.Mem.tail _ (List.Mem.tail _ (List.Mem.tail _ (List.Mem.head _)))), (List.forall_mem_cons.mpr ⟨(List.Mem.tail _ (List.Mem.tail _ (List.Mem.tail _ (List.Mem.tail _ (List.Mem.tail _ (List.Mem.head _)))))), (List.forall_mem_cons.mpr ⟨(List.Mem.tail _ (List.Mem.tail _ (List.Mem.tail _ (List.Mem.tail _ (List.Mem.tail _ (List.Mem.tail _ (List.Mem.head _))))))), (fun _ h => absurd h List.not_mem_nil)⟩)⟩)⟩)⟩)⟩)⟩), (show ([0, 1, 2, 4, 5, 7, 8] : List Nat).Nodup from by decide)⟩ w
      · replace w := w.2 (Decidable.of_not_not q)
        refine ab_fin.s1i (i := .iconst 1) (k := 1) (pc' := 227) (n := 1) (by decide +kernel) rfl (by decide +kernel) rfl ?_
        refine ab_fin.s3 (i := .goto 4) (k := 3) (t := 231) (st' := [.int 1]) (by decide +kernel) (ab_gto (by decide +kernel)) ?_
        exact ab_fin.lv ⟨(List.forall_mem_cons.mpr ⟨(List.Mem.head _), (List.forall_mem_cons.mpr ⟨(List.Mem.tail _ (List.Mem.head _)), (List.forall_mem_cons.mpr ⟨(List.Mem.tail _ (List.Mem.tail _ (List.Mem.head _))), (List.forall_mem_cons.mpr ⟨(List.Mem.tail _ (List.Mem.tail _ (List.Mem.tail _ (List.Mem.head _)))), (List.forall_mem_cons.mpr ⟨(List.Mem.tail _ (List.Mem.tail _ (List.Mem.tail _ (List.Mem.tail _ (List.Mem.tail _ (List.Mem.head _)))))), (List.forall_mem_cons.mpr ⟨(List.Mem.tail _ (List.Mem.tail _ (List.Mem.tail _ (List.Mem.tail _ (List.Mem.tail _ (List.Mem.tail _ (List.Mem.head _))))))), (fun _ h => absurd h List.not_mem_nil)⟩)⟩)⟩)⟩)⟩)⟩), (show ([0, 1, 2, 4, 5, 7, 8] : List Nat).Nodup from by decide)⟩ w
theorem S_X23_kind_230 {Z : zT} {d : Nat} {σ : Sg} {l1 : Int32} {l2 : Int32} {l4 : Nat} {l7 : Int32} {l8 : Int32} {K : kS} (F : FX ΦR σ.sh σ.r) (p_l4 : sh0R[l4]? = some (Sh.obj 18)) (w : B_X23_kind_231 Z (d + 1) σ l1 l2 l4 l7 l8 0 K) : B_X23_kind_230 Z (d + 1) σ l1 l2 l4 l7 l8 K := by
  unfold B_X23_kind_230
  refine ab_fin.s1i (i := .iconst 0) (k := 1) (pc' := 231) (n := 0) (by decide +kernel) rfl (by decide +kernel) rfl ?_
  exact ab_fin.lv ⟨(List.forall_mem_cons.mpr ⟨(List.Mem.head _), (List.forall_mem_cons.mpr ⟨(List.Mem.tail _ (List.Mem.head _)), (List.forall_mem_cons.mpr ⟨(List.Mem.tail _ (List.Mem.tail _ (List.Mem.head _))), (List.forall_mem_cons.mpr ⟨(List.Mem.tail _ (List.Mem.tail _ (List.Mem.tail _ (List.Mem.head _)))), (List.forall_mem_cons.mpr ⟨(List.Mem.tail _ (List.Mem.tail _ (List.Mem.tail _ (List.Mem.tail _ (List.Mem.head _))))), (List.forall_mem_cons.mpr ⟨(List.Mem.tail _ (List.Mem.tail _ (List.Mem.tail _ (List.Mem.tail _ (List.Mem.tail _ (List.Mem.head _)))))), (fun _ h => absurd h List.not_mem_nil)⟩)⟩)⟩)⟩)⟩)⟩), (show ([0, 1, 2, 4, 7, 8] : List Nat).Nodup from by decide)⟩ w
theorem S_X23_kind_231 {Z : zT} {d : Nat} {σ : Sg} {l1 : Int32} {l2 : Int32} {l4 : Nat} {l7 : Int32} {l8 : Int32} {s0 : Int32} {K : kS} (F : FX ΦR σ.sh σ.r) (p_l4 : sh0R[l4]? = some (Sh.obj 18)) (w : (l7 < 0 → B_X23_kind_270 Z (d + 1) σ l1 l2 l4 s0 K) ∧ (¬ l7 < 0 → (l8 = 0 → ib (σ.i l4 3) 24 ∧ (B_X23_kind_270 Z (d + 1) ((σ.wi (l4 + 3) ((σ.i l4 3).toNatClampNeg) l7).wi l4 3 (((σ.wi (l4 + 3) ((σ.i l4 3).toNatClampNeg) l7).i l4 3) + (1 : Int32))) l1 l2 l4 s0 K)) ∧ (¬ l8 = 0 → B_X23_kind_270 Z (d + 1) σ l1 l2 l4 s0 K))) : B_X23_kind_231 Z (d + 1) σ l1 l2 l4 l7 l8 s0 K := by
  unfold B_X23_kind_231
  refine ab_fin.s2 (i := .istore 5) (k := 2) (pc' := 233) (lv' := [(5, .int s0), (0, .ref 0), (1, .int l1), (2, .int l2), (4, .ref l4), (7, .int l7), (8, .int l8)]) (st' := []) (by decide +kernel) rfl rfl ?_
  refine ab_fin.s2 (i := .iload 7) (k := 2) (pc' := 235) (lv' := [(5, .int s0), (0, .ref 0), (1, .int l1), (2, .int l2), (4, .ref l4), (7, .int l7), (8, .int l8)]) (st' := [.int l7]) (by decide +kernel) rfl rfl ?_
  refine ab_fin.br (c := l7 < 0) (i := .ifCond .lt 35) (off := 35) (t := 270) (pc' := 238) (r := []) (by decide +kernel) rfl (by decide +kernel) rfl (fun q => ?_) (fun q => ?_)
  · replace w := w.1 q
    exact ab_fin.lv ⟨(List.forall_mem_cons.mpr ⟨(List.Mem.tail _ (List.Mem.head _)), (List.forall_mem_cons.mpr ⟨(List.Mem.tail _ (List.Mem.tail _ (List.Mem.head _))), (List.forall_mem_cons.mpr ⟨(List.Mem.tail _ (List.Mem.tail _ (List.Mem.tail _ (List.Mem.head _)))), (List.forall_mem_cons.mpr ⟨(List.Mem.tail _ (List.Mem.tail _ (List.Mem.tail _ (List.Mem.tail _ (List.Mem.head _))))), (List.forall_mem_cons.mpr ⟨(List.Mem.head _), (fun _ h => absurd h List.not_mem_nil)⟩)⟩)⟩)⟩)⟩), (show ([5, 0, 1, 2, 4, 7, 8] : List Nat).Nodup from by decide)⟩ w
  · replace w := w.2 q
    refine ab_fin.s2 (i := .iload 8) (k := 2) (pc' := 240) (lv' := [(5, .int s0), (0, .ref 0), (1, .int l1), (2, .int l2), (4, .ref l4), (7, .int l7), (8, .int l8)]) (st' := [.int l8]) (by decide +kernel) rfl rfl ?_
    refine ab_fin.br (c := l8 = 0) (i := .ifCond .eq 6) (off := 6) (t := 246) (pc' := 243) (r := []) (by decide +kernel) rfl (by decide +kernel) rfl (fun q => ?_) (fun q => ?_)
    · replace w := w.1 q
      refine ab_fin.s2 (i := .aload 4) (k := 2) (pc' := 248) (lv' := [(5, .int s0), (0, .ref 0), (1, .int l1), (2, .int l2), (4, .ref l4), (7, .int l7), (8, .int l8)]) (st' := [.ref l4]) (by decide +kernel) rfl rfl ?_
      refine ab_fin.q_rA (b := (l4 + 3)) (ix := 69) (ci := 18) (k := 2) (pc' := 251) (by decide +kernel) rfl (c_rA (F.s p_l4) rfl (rO_18_2 F p_l4)) rfl ?_
      refine ab_fin.s2 (i := .aload 4) (k := 2) (pc' := 253) (lv' := [(5, .int s0), (0, .ref 0), (1, .int l1), (2, .int l2), (4, .ref l4), (7, .int l7), (8, .int l8)]) (st' := [.ref l4, .ref (l4 + 3)]) (by decide +kernel) rfl rfl ?_
      refine ab_fin.q_rI (x := (σ.i l4 3)) (ix := 66) (ci := 18) (k := 3) (pc' := 256) (by decide +kernel) rfl (c_rI (F.s p_l4) rfl) rfl ?_
      refine ab_fin.s2 (i := .iload 7) (k := 2) (pc' := 258) (lv' := [(5, .int s0), (0, .ref 0), (1, .int l1), (2, .int l2), (4, .ref l4), (7, .int l7), (8, .int l8)]) (st' := [.int l7, .int (σ.i l4 3), .ref (l4 + 3)]) (by decide +kernel) rfl rfl ?_
      obtain ⟨e1, w⟩ := w
      refine ab_fin.q_sI (h1 := conc (σ.wi (l4 + 3) ((σ.i l4 3).toNatClampNeg) l7)) (pc' := 259) (by decide +kernel) (c_sI' (F.s (kF_18_3 p_l4)) e1 rfl) rfl ?_
      refine ab_fin.s2 (i := .aload 4) (k := 2) (pc' := 261) (lv' := [(5, .int s0), (0, .ref 0), (1, .int l1), (2, .int l2), (4, .ref l4), (7, .int l7), (8, .int l8)]) (st' := [.ref l4]) (by decide +kernel) rfl rfl ?_
      refine ab_fin.s1 (i := .dup) (k := 1) (pc' := 262) (st' := [.ref l4, .ref l4]) (by decide +kernel) rfl rfl ?_
      refine ab_fin.q_rI (x := ((σ.wi (l4 + 3) ((σ.i l4 3).toNatClampNeg) l7).i l4 3)) (ix := 66) (ci := 18) (k := 3) (pc' := 265) (by decide +kernel) rfl (c_rI (F.s p_l4) rfl) rfl ?_
      refine ab_fin.s1i (i := .iconst 1) (k := 1) (pc' := 266) (n := 1) (by decide +kernel) rfl (by decide +kernel) rfl ?_
      refine ab_fin.s1 (i := .iadd) (k := 1) (pc' := 267) (st' := [.int (((σ.wi (l4 + 3) ((σ.i l4 3).toNatClampNeg) l7).i l4 3) + (1 : Int32)), .ref l4]) (by decide +kernel) rfl rfl ?_
      refine ab_fin.q_pF (ix := 66) (ci := 18) (k := 3) (h1 := conc ((σ.wi (l4 + 3) ((σ.i l4 3).toNatClampNeg) l7).wi l4 3 (((σ.wi (l4 + 3) ((σ.i l4 3).toNatClampNeg) l7).i l4 3) + (1 : Int32)))) (pc' := 270) (by decide +kernel) rfl (c_pI (v := (((σ.wi (l4 + 3) ((σ.i l4 3).toNatClampNeg) l7).i l4 3) + (1 : Int32))) (F.s p_l4) rfl) rfl rfl rfl ?_
      exact ab_fin.lv ⟨(List.forall_mem_cons.mpr ⟨(List.Mem.tail _ (List.Mem.head _)), (List.forall_mem_cons.mpr ⟨(List.Mem.tail _ (List.Mem.tail _ (List.Mem.head _))), (List.forall_mem_cons.mpr ⟨(List.Mem.tail _ (List.Mem.tail _ (List.Mem.tail _ (List.Mem.head _)))), (List.forall_mem_cons.mpr ⟨(List.Mem.tail _ (List.Mem.tail _ (List.Mem.tail _ (List.Mem.tail _ (List.Mem.head _))))), (List.forall_mem_cons.mpr ⟨(List.Mem.head _), (fun _ h => absurd h List.not_mem_nil)⟩)⟩)⟩)⟩)⟩), (show ([5, 0, 1, 2, 4, 7, 8] : List Nat).Nodup from by decide)⟩ w
    · replace w := w.2 q
      refine ab_fin.s3 (i := .goto 27) (k := 3) (t := 270) (st' := []) (by decide +kernel) (ab_gto (by decide +kernel)) ?_
      exact ab_fin.lv ⟨(List.forall_mem_cons.mpr ⟨(List.Mem.tail _ (List.Mem.head _)), (List.forall_mem_cons.mpr ⟨(List.Mem.tail _ (List.Mem.tail _ (List.Mem.head _))), (List.forall_mem_cons.mpr ⟨(List.Mem.tail _ (List.Mem.tail _ (List.Mem.tail _ (List.Mem.head _)))), (List.forall_mem_cons.mpr ⟨(List.Mem.tail _ (List.Mem.tail _ (List.Mem.tail _ (List.Mem.tail _ (List.Mem.head _))))), (List.forall_mem_cons.mpr ⟨(List.Mem.head _), (fun _ h => absurd h List.not_mem_nil)⟩)⟩)⟩)⟩)⟩), (show ([5, 0, 1, 2, 4, 7, 8] : List Nat).Nodup from by decide)⟩ w
theorem S_X23_kind_270 {Z : zT} {d : Nat} {σ : Sg} {l1 : Int32} {l2 : Int32} {l4 : Nat} {l5 : Int32} {K : kS} (F : FX ΦR σ.sh σ.r) (p_l4 : sh0R[l4]? = some (Sh.obj 18)) (w : B_X23_is_0 Z d σ 44 (yI K fun v3 τ1 => (¬ v3 = 0 → B_X23_kind_115 Z (d + 1) τ1 l1 l2 l4 l5 K) ∧ (v3 = 0 → B_X23_kind_296 Z (d + 1) τ1 l1 l2 l4 l5 K))) : B_X23_kind_270 Z (d + 1) σ l1 l2 l4 l5 K := by
  unfold B_X23_kind_270
  refine ab_fin.s2 (i := .aload_n 0) (k := 1) (pc' := 271) (lv' := [(0, .ref 0), (1, .int l1), (2, .int l2), (4, .ref l4), (5, .int l5)]) (st' := [.ref 0]) (by decide +kernel) rfl rfl ?_
  refine ab_fin.s1i (i := .bipush 44) (k := 2) (pc' := 273) (n := 44) (by decide +kernel) rfl (by decide +kernel) rfl ?_
  refine ab_fin.q_yI (i := .invokevirtual 233) (k := 3) (y := 5904) (As := [.ref 0, .int 44]) (rest := []) (M' := (mX23_is, [])) (lv2 := [(0, .ref 0), (1, .int 44)]) (pc' := 276) (X := K) (by decide +kernel) (ab_cv rfl rfl (conc_get (σ := σ) (F.s s0_0)) ⟨(Nat.le_of_ble_eq_true rfl), (Nat.le_of_ble_eq_true rfl)⟩ rfl) rfl (Nat.le_of_ble_eq_true rfl) rfl rfl (hY_no fun E => rfl) w (fun v3 τ1 F2 w => ?_)
  refine ab_fin.br (c := ¬ v3 = 0) (i := .ifCond .ne (-161)) (off := (-161)) (t := 115) (pc' := 279) (r := []) (by decide +kernel) rfl (by decide +kernel) rfl (fun q => ?_) (fun q => ?_)
  · replace w := w.1 q
    exact ab_fin.lv ⟨(List.forall_mem_cons.mpr ⟨(List.Mem.head _), (List.forall_mem_cons.mpr ⟨(List.Mem.tail _ (List.Mem.head _)), (List.forall_mem_cons.mpr ⟨(List.Mem.tail _ (List.Mem.tail _ (List.Mem.head _))), (List.forall_mem_cons.mpr ⟨(List.Mem.tail _ (List.Mem.tail _ (List.Mem.tail _ (List.Mem.head _)))), (List.forall_mem_cons.mpr ⟨(List.Mem.tail _ (List.Mem.tail _ (List.Mem.tail _ (List.Mem.tail _ (List.Mem.head _))))), (fun _ h => absurd h List.not_mem_nil)⟩)⟩)⟩)⟩)⟩), (show ([0, 1, 2, 4, 5] : List Nat).Nodup from by decide)⟩ w
  · replace w := w.2 (Decidable.of_not_not q)
    refine ab_fin.s3 (i := .goto 17) (k := 3) (t := 296) (st' := []) (by decide +kernel) (ab_gto (by decide +kernel)) ?_
    exact ab_fin.lv ⟨(List.forall_mem_cons.mpr ⟨(List.Mem.head _), (List.forall_mem_cons.mpr ⟨(List.Mem.tail _ (List.Mem.head _)), (List.forall_mem_cons.mpr ⟨(List.Mem.tail _ (List.Mem.tail _ (List.Mem.head _))), (List.forall_mem_cons.mpr ⟨(List.Mem.tail _ (List.Mem.tail _ (List.Mem.tail _ (List.Mem.head _)))), (List.forall_mem_cons.mpr ⟨(List.Mem.tail _ (List.Mem.tail _ (List.Mem.tail _ (List.Mem.tail _ (List.Mem.head _))))), (fun _ h => absurd h List.not_mem_nil)⟩)⟩)⟩)⟩)⟩), (show ([0, 1, 2, 4, 5] : List Nat).Nodup from by decide)⟩ w
theorem S_X23_kind_296 {Z : zT} {d : Nat} {σ : Sg} {l1 : Int32} {l2 : Int32} {l4 : Nat} {l5 : Int32} {K : kS} (F : FX ΦR σ.sh σ.r) (p_l4 : sh0R[l4]? = some (Sh.obj 18)) (w : B_X23_skip_0 Z d σ (Rf.old 126) (yI K fun v3 τ1 => nz .boolean v3 ∧ (B_X23_want_0 Z d (τ1.wi l4 1 v3) 59 (yN K fun τ5 => ((τ5.i 0 4) = 24 → K (.inl none) τ5) ∧ (¬ (τ5.i 0 4) = 24 → (¬ l5 = 0 → B_X23_makeRows_0 Z d τ5 (τ5.i 0 4) (yI K fun v9 τ7 => (¬ v9 = 0 → K (.inl none) (τ7.wi 0 4 ((τ7.i 0 4) + (1 : Int32)))) ∧ (v9 = 0 → (¬ (τ7.i 0 27) = l2 → K (.inl none) (τ7.wi 0 4 ((τ7.i 0 4) + (1 : Int32)))) ∧ ((τ7.i 0 27) = l2 → B_X23_breaks_0 Z d τ7 5 l1 (yN K fun τ10 => K (.inl none) (τ10.wi 0 4 ((τ10.i 0 4) + (1 : Int32)))))))) ∧ (l5 = 0 → K (.inl none) τ5)))))) : B_X23_kind_296 Z (d + 1) σ l1 l2 l4 l5 K := by
  unfold B_X23_kind_296
  refine ab_fin.s2 (i := .aload 4) (k := 2) (pc' := 298) (lv' := [(0, .ref 0), (1, .int l1), (2, .int l2), (4, .ref l4), (5, .int l5)]) (st' := [.ref l4]) (by decide +kernel) rfl rfl ?_
  refine ab_fin.s2 (i := .aload_n 0) (k := 1) (pc' := 299) (lv' := [(0, .ref 0), (1, .int l1), (2, .int l2), (4, .ref l4), (5, .int l5)]) (st' := [.ref 0, .ref l4]) (by decide +kernel) rfl rfl ?_
  refine ab_fin.s8 (i := .ldc 120) (k := 2) (pc' := 301) (st' := [.retAddr 126, .ref 0, .ref l4]) (by decide +kernel) rfl rfl rfl rfl ?_
  refine ab_fin.q_yI (i := .invokevirtual 266) (k := 3) (y := 5908) (As := [.ref 0, .retAddr 126]) (rest := [.ref l4]) (M' := (mX23_skip, [])) (lv2 := [(0, .ref 0), (1, .retAddr 126)]) (pc' := 304) (X := K) (by decide +kernel) (ab_cv rfl rfl (conc_get (σ := σ) (F.s s0_0)) ⟨(Nat.le_of_ble_eq_true rfl), (Nat.le_of_ble_eq_true rfl)⟩ rfl) rfl (Nat.le_of_ble_eq_true rfl) rfl rfl (hY_no fun E => rfl) w (fun v3 τ1 F2 w => ?_)
  obtain ⟨e4, w⟩ := w
  refine ab_fin.q_pF (ix := 290) (ci := 18) (k := 1) (h1 := conc (τ1.wi l4 1 v3)) (pc' := 307) (by decide +kernel) rfl (c_pI (v := v3) (F2.s p_l4) rfl) e4.1 e4.2 rfl ?_
  refine ab_fin.s2 (i := .aload_n 0) (k := 1) (pc' := 308) (lv' := [(0, .ref 0), (1, .int l1), (2, .int l2), (4, .ref l4), (5, .int l5)]) (st' := [.ref 0]) (by decide +kernel) rfl rfl ?_
  refine ab_fin.s1i (i := .bipush 59) (k := 2) (pc' := 310) (n := 59) (by decide +kernel) rfl (by decide +kernel) rfl ?_
  refine ab_fin.q_yN (i := .invokevirtual 293) (k := 3) (y := 5906) (As := [.ref 0, .int 59]) (rest := []) (M' := (mX23_want, [])) (lv2 := [(0, .ref 0), (1, .int 59)]) (pc' := 313) (X := K) (by decide +kernel) (ab_cv rfl rfl (conc_get (σ := (τ1.wi l4 1 v3)) (F2.s s0_0)) ⟨(Nat.le_of_ble_eq_true rfl), (Nat.le_of_ble_eq_true rfl)⟩ rfl) rfl (Nat.le_of_ble_eq_true rfl) rfl rfl (hY_no fun E => rfl) w (fun τ5 F6 w => ?_)
  refine ab_fin.s2 (i := .aload_n 0) (k := 1) (pc' := 314) (lv' := [(0, .ref 0), (1, .int l1), (2, .int l2), (4, .ref l4), (5, .int l5)]) (st' := [.ref 0]) (by decide +kernel) rfl rfl ?_
  refine ab_fin.q_rI (x := (τ5.i 0 4)) (ix := 13) (ci := 24) (k := 4) (pc' := 317) (by decide +kernel) rfl (c_rI (F6.s s0_0) rfl) rfl ?_
  refine ab_fin.s1i (i := .bipush 24) (k := 2) (pc' := 319) (n := 24) (by decide +kernel) rfl (by decide +kernel) rfl ?_
  refine ab_fin.br (c := (τ5.i 0 4) = 24) (i := .if_icmp .eq 8) (off := 8) (t := 327) (pc' := 322) (r := []) (by decide +kernel) rfl (by decide +kernel) rfl (fun q => ?_) (fun q => ?_)
  · replace w := w.1 q
    exact ab_fin.q_ret (i := .return_) (k := 1) (v := none) (by decide +kernel) rfl F6 w
  · replace w := w.2 q
    refine ab_fin.s2 (i := .iload 5) (k := 2) (pc' := 324) (lv' := [(0, .ref 0), (1, .int l1), (2, .int l2), (4, .ref l4), (5, .int l5)]) (st' := [.int l5]) (by decide +kernel) rfl rfl ?_
    refine ab_fin.br (c := ¬ l5 = 0) (i := .ifCond .ne 4) (off := 4) (t := 328) (pc' := 327) (r := []) (by decide +kernel) rfl (by decide +kernel) rfl (fun q => ?_) (fun q => ?_)
    · replace w := w.1 q
      refine ab_fin.s2 (i := .aload_n 0) (k := 1) (pc' := 329) (lv' := [(0, .ref 0), (1, .int l1), (2, .int l2), (4, .ref l4), (5, .int l5)]) (st' := [.ref 0]) (by decide +kernel) rfl rfl ?_
      refine ab_fin.s2 (i := .aload_n 0) (k := 1) (pc' := 330) (lv' := [(0, .ref 0), (1, .int l1), (2, .int l2), (4, .ref l4), (5, .int l5)]) (st' := [.ref 0, .ref 0]) (by decide +kernel) rfl rfl ?_
      refine ab_fin.q_rI (x := (τ5.i 0 4)) (ix := 13) (ci := 24) (k := 4) (pc' := 333) (by decide +kernel) rfl (c_rI (F6.s s0_0) rfl) rfl ?_
      refine ab_fin.q_yI (i := .invokevirtual 296) (k := 3) (y := 5895) (As := [.ref 0, .int (τ5.i 0 4)]) (rest := []) (M' := (mX23_makeRows, [])) (lv2 := [(0, .ref 0), (1, .int (τ5.i 0 4))]) (pc' := 336) (X := K) (by decide +kernel) (ab_cv rfl rfl (conc_get (σ := τ5) (F6.s s0_0)) ⟨(Nat.le_of_ble_eq_true rfl), (Nat.le_of_ble_eq_true rfl)⟩ rfl) rfl (Nat.le_of_ble_eq_true rfl) rfl rfl (hY_no fun E => rfl) w (fun v9 τ7 F8 w => ?_)
      refine ab_fin.br (c := ¬ v9 = 0) (i := .ifCond .ne 17) (off := 17) (t := 353) (pc' := 339) (r := []) (by decide +kernel) rfl (by decide +kernel) rfl (fun q => ?_) (fun q => ?_)
      · replace w := w.1 q
        refine ab_fin.s2 (i := .aload_n 0) (k := 1) (pc' := 354) (lv' := [(0, .ref 0), (1, .int l1), (2, .int l2), (4, .ref l4), (5, .int l5)]) (st' := [.ref 0]) (by decide +kernel) rfl rfl ?_
        refine ab_fin.s1 (i := .dup) (k := 1) (pc' := 355) (st' := [.ref 0, .ref 0]) (by decide +kernel) rfl rfl ?_
        refine ab_fin.q_rI (x := (τ7.i 0 4)) (ix := 13) (ci := 24) (k := 4) (pc' := 358) (by decide +kernel) rfl (c_rI (F8.s s0_0) rfl) rfl ?_
        refine ab_fin.s1i (i := .iconst 1) (k := 1) (pc' := 359) (n := 1) (by decide +kernel) rfl (by decide +kernel) rfl ?_
        refine ab_fin.s1 (i := .iadd) (k := 1) (pc' := 360) (st' := [.int ((τ7.i 0 4) + (1 : Int32)), .ref 0]) (by decide +kernel) rfl rfl ?_
        refine ab_fin.q_pF (ix := 13) (ci := 24) (k := 4) (h1 := conc (τ7.wi 0 4 ((τ7.i 0 4) + (1 : Int32)))) (pc' := 363) (by decide +kernel) rfl (c_pI (v := ((τ7.i 0 4) + (1 : Int32))) (F8.s s0_0) rfl) rfl rfl rfl ?_
        exact ab_fin.q_ret (i := .return_) (k := 1) (v := none) (by decide +kernel) rfl F8 w
      · replace w := w.2 (Decidable.of_not_not q)
        refine ab_fin.s2 (i := .aload_n 0) (k := 1) (pc' := 340) (lv' := [(0, .ref 0), (1, .int l1), (2, .int l2), (4, .ref l4), (5, .int l5)]) (st' := [.ref 0]) (by decide +kernel) rfl rfl ?_
        refine ab_fin.q_rI (x := (τ7.i 0 27)) (ix := 244) (ci := 24) (k := 27) (pc' := 343) (by decide +kernel) rfl (c_rI (F8.s s0_0) rfl) rfl ?_
        refine ab_fin.s2 (i := .iload_n 2) (k := 1) (pc' := 344) (lv' := [(0, .ref 0), (1, .int l1), (2, .int l2), (4, .ref l4), (5, .int l5)]) (st' := [.int l2, .int (τ7.i 0 27)]) (by decide +kernel) rfl rfl ?_
        refine ab_fin.br (c := ¬ (τ7.i 0 27) = l2) (i := .if_icmp .ne 9) (off := 9) (t := 353) (pc' := 347) (r := []) (by decide +kernel) rfl (by decide +kernel) rfl (fun q => ?_) (fun q => ?_)
        · replace w := w.1 q
          refine ab_fin.s2 (i := .aload_n 0) (k := 1) (pc' := 354) (lv' := [(0, .ref 0), (1, .int l1), (2, .int l2), (4, .ref l4), (5, .int l5)]) (st' := [.ref 0]) (by decide +kernel) rfl rfl ?_
          refine ab_fin.s1 (i := .dup) (k := 1) (pc' := 355) (st' := [.ref 0, .ref 0]) (by decide +kernel) rfl rfl ?_
          refine ab_fin.q_rI (x := (τ7.i 0 4)) (ix := 13) (ci := 24) (k := 4) (pc' := 358) (by decide +kernel) rfl (c_rI (F8.s s0_0) rfl) rfl ?_
          refine ab_fin.s1i (i := .iconst 1) (k := 1) (pc' := 359) (n := 1) (by decide +kernel) rfl (by decide +kernel) rfl ?_
          refine ab_fin.s1 (i := .iadd) (k := 1) (pc' := 360) (st' := [.int ((τ7.i 0 4) + (1 : Int32)), .ref 0]) (by decide +kernel) rfl rfl ?_
          refine ab_fin.q_pF (ix := 13) (ci := 24) (k := 4) (h1 := conc (τ7.wi 0 4 ((τ7.i 0 4) + (1 : Int32)))) (pc' := 363) (by decide +kernel) rfl (c_pI (v := ((τ7.i 0 4) + (1 : Int32))) (F8.s s0_0) rfl) rfl rfl rfl ?_
          exact ab_fin.q_ret (i := .return_) (k := 1) (v := none) (by decide +kernel) rfl F8 w
        · replace w := w.2 (Decidable.of_not_not q)
          refine ab_fin.s2 (i := .aload_n 0) (k := 1) (pc' := 348) (lv' := [(0, .ref 0), (1, .int l1), (2, .int l2), (4, .ref l4), (5, .int l5)]) (st' := [.ref 0]) (by decide +kernel) rfl rfl ?_
          refine ab_fin.s1i (i := .iconst 5) (k := 1) (pc' := 349) (n := 5) (by decide +kernel) rfl (by decide +kernel) rfl ?_
          refine ab_fin.s2 (i := .iload_n 1) (k := 1) (pc' := 350) (lv' := [(0, .ref 0), (1, .int l1), (2, .int l2), (4, .ref l4), (5, .int l5)]) (st' := [.int l1, .int 5, .ref 0]) (by decide +kernel) rfl rfl ?_
          refine ab_fin.q_yN (i := .invokevirtual 259) (k := 3) (y := 5910) (As := [.ref 0, .int 5, .int l1]) (rest := []) (M' := (mX23_breaks, [])) (lv2 := [(0, .ref 0), (1, .int 5), (2, .int l1)]) (pc' := 353) (X := K) (by decide +kernel) (ab_cv rfl rfl (conc_get (σ := τ7) (F8.s s0_0)) ⟨(Nat.le_of_ble_eq_true rfl), (Nat.le_of_ble_eq_true rfl)⟩ rfl) rfl (Nat.le_of_ble_eq_true rfl) rfl rfl (hY_no fun E => rfl) w (fun τ10 F11 w => ?_)
          refine ab_fin.s2 (i := .aload_n 0) (k := 1) (pc' := 354) (lv' := [(0, .ref 0), (1, .int l1), (2, .int l2), (4, .ref l4), (5, .int l5)]) (st' := [.ref 0]) (by decide +kernel) rfl rfl ?_
          refine ab_fin.s1 (i := .dup) (k := 1) (pc' := 355) (st' := [.ref 0, .ref 0]) (by decide +kernel) rfl rfl ?_
          refine ab_fin.q_rI (x := (τ10.i 0 4)) (ix := 13) (ci := 24) (k := 4) (pc' := 358) (by decide +kernel) rfl (c_rI (F11.s s0_0) rfl) rfl ?_
          refine ab_fin.s1i (i := .iconst 1) (k := 1) (pc' := 359) (n := 1) (by decide +kernel) rfl (by decide +kernel) rfl ?_
          refine ab_fin.s1 (i := .iadd) (k := 1) (pc' := 360) (st' := [.int ((τ10.i 0 4) + (1 : Int32)), .ref 0]) (by decide +kernel) rfl rfl ?_
          refine ab_fin.q_pF (ix := 13) (ci := 24) (k := 4) (h1 := conc (τ10.wi 0 4 ((τ10.i 0 4) + (1 : Int32)))) (pc' := 363) (by decide +kernel) rfl (c_pI (v := ((τ10.i 0 4) + (1 : Int32))) (F11.s s0_0) rfl) rfl rfl rfl ?_
          exact ab_fin.q_ret (i := .return_) (k := 1) (v := none) (by decide +kernel) rfl F11 w
    · replace w := w.2 (Decidable.of_not_not q)
      exact ab_fin.q_ret (i := .return_) (k := 1) (v := none) (by decide +kernel) rfl F6 w
theorem S_X23_call_0 {Z : zT} {d : Nat} {σ : Sg}  {K : kS} (F : FX ΦR σ.sh σ.r) (w : B_X23_name_0 Z d σ  (yI K fun v3 τ1 => B_X23_isTold_0 Z d τ1 v3 (yI K fun v6 τ4 => (v6 = 0 → B_X23_call_24 Z (d + 1) τ4 (σ.i 0 18) v3 K) ∧ (¬ v6 = 0 → B_X23_breaks_0 Z d τ4 2 (σ.i 0 18) (yN K fun τ7 => B_X23_call_24 Z (d + 1) τ7 (σ.i 0 18) v3 K))))) : B_X23_call_0 Z (d + 1) σ  K := by
  unfold B_X23_call_0
  refine ab_fin.s2 (i := .aload_n 0) (k := 1) (pc' := 1) (lv' := [(0, .ref 0)]) (st' := [.ref 0]) (by decide +kernel) rfl rfl ?_
  refine ab_fin.q_rI (x := (σ.i 0 18)) (ix := 106) (ci := 24) (k := 18) (pc' := 4) (by decide +kernel) rfl (c_rI (F.s s0_0) rfl) rfl ?_
  refine ab_fin.s2 (i := .istore_n 1) (k := 1) (pc' := 5) (lv' := [(1, .int (σ.i 0 18)), (0, .ref 0)]) (st' := []) (by decide +kernel) rfl rfl ?_
  refine ab_fin.s2 (i := .aload_n 0) (k := 1) (pc' := 6) (lv' := [(1, .int (σ.i 0 18)), (0, .ref 0)]) (st' := [.ref 0]) (by decide +kernel) rfl rfl ?_
  refine ab_fin.q_yI (i := .invokevirtual 277) (k := 3) (y := 5909) (As := [.ref 0]) (rest := []) (M' := (mX23_name, [])) (lv2 := [(0, .ref 0)]) (pc' := 9) (X := K) (by decide +kernel) (ab_cv rfl rfl (conc_get (σ := σ) (F.s s0_0)) ⟨(Nat.le_of_ble_eq_true rfl), (Nat.le_of_ble_eq_true rfl)⟩ rfl) rfl (Nat.le_of_ble_eq_true rfl) rfl rfl (hY_no fun E => rfl) w (fun v3 τ1 F2 w => ?_)
  refine ab_fin.s2 (i := .istore_n 2) (k := 1) (pc' := 10) (lv' := [(2, .int v3), (1, .int (σ.i 0 18)), (0, .ref 0)]) (st' := []) (by decide +kernel) rfl rfl ?_
  refine ab_fin.s2 (i := .aload_n 0) (k := 1) (pc' := 11) (lv' := [(2, .int v3), (1, .int (σ.i 0 18)), (0, .ref 0)]) (st' := [.ref 0]) (by decide +kernel) rfl rfl ?_
  refine ab_fin.s2 (i := .iload_n 2) (k := 1) (pc' := 12) (lv' := [(2, .int v3), (1, .int (σ.i 0 18)), (0, .ref 0)]) (st' := [.int v3, .ref 0]) (by decide +kernel) rfl rfl ?_
  refine ab_fin.q_yI (i := .invokevirtual 279) (k := 3) (y := 5893) (As := [.ref 0, .int v3]) (rest := []) (M' := (mX23_isTold, [])) (lv2 := [(0, .ref 0), (1, .int v3)]) (pc' := 15) (X := K) (by decide +kernel) (ab_cv rfl rfl (conc_get (σ := τ1) (F2.s s0_0)) ⟨(Nat.le_of_ble_eq_true rfl), (Nat.le_of_ble_eq_true rfl)⟩ rfl) rfl (Nat.le_of_ble_eq_true rfl) rfl rfl (hY_no fun E => rfl) w (fun v6 τ4 F5 w => ?_)
  refine ab_fin.br (c := v6 = 0) (i := .ifCond .eq 9) (off := 9) (t := 24) (pc' := 18) (r := []) (by decide +kernel) rfl (by decide +kernel) rfl (fun q => ?_) (fun q => ?_)
  · replace w := w.1 q
    exact ab_fin.lv ⟨(List.forall_mem_cons.mpr ⟨(List.Mem.tail _ (List.Mem.tail _ (List.Mem.head _))), (List.forall_mem_cons.mpr ⟨(List.Mem.tail _ (List.Mem.head _)), (List.forall_mem_cons.mpr ⟨(List.Mem.head _), (fun _ h => absurd h List.not_mem_nil)⟩)⟩)⟩), (show ([2, 1, 0] : List Nat).Nodup from by decide)⟩ w
  · replace w := w.2 q
    refine ab_fin.s2 (i := .aload_n 0) (k := 1) (pc' := 19) (lv' := [(2, .int v3), (1, .int (σ.i 0 18)), (0, .ref 0)]) (st' := [.ref 0]) (by decide +kernel) rfl rfl ?_
    refine ab_fin.s1i (i := .iconst 2) (k := 1) (pc' := 20) (n := 2) (by decide +kernel) rfl (by decide +kernel) rfl ?_
    refine ab_fin.s2 (i := .iload_n 1) (k := 1) (pc' := 21) (lv' := [(2, .int v3), (1, .int (σ.i 0 18)), (0, .ref 0)]) (st' := [.int (σ.i 0 18), .int 2, .ref 0]) (by decide +kernel) rfl rfl ?_
    refine ab_fin.q_yN (i := .invokevirtual 259) (k := 3) (y := 5910) (As := [.ref 0, .int 2, .int (σ.i 0 18)]) (rest := []) (M' := (mX23_breaks, [])) (lv2 := [(0, .ref 0), (1, .int 2), (2, .int (σ.i 0 18))]) (pc' := 24) (X := K) (by decide +kernel) (ab_cv rfl rfl (conc_get (σ := τ4) (F5.s s0_0)) ⟨(Nat.le_of_ble_eq_true rfl), (Nat.le_of_ble_eq_true rfl)⟩ rfl) rfl (Nat.le_of_ble_eq_true rfl) rfl rfl (hY_no fun E => rfl) w (fun τ7 F8 w => ?_)
    exact ab_fin.lv ⟨(List.forall_mem_cons.mpr ⟨(List.Mem.tail _ (List.Mem.tail _ (List.Mem.head _))), (List.forall_mem_cons.mpr ⟨(List.Mem.tail _ (List.Mem.head _)), (List.forall_mem_cons.mpr ⟨(List.Mem.head _), (fun _ h => absurd h List.not_mem_nil)⟩)⟩)⟩), (show ([2, 1, 0] : List Nat).Nodup from by decide)⟩ w
theorem S_X23_call_24 {Z : zT} {d : Nat} {σ : Sg} {l1 : Int32} {l2 : Int32} {K : kS} (F : FX ΦR σ.sh σ.r) (w : (¬ (σ.i 0 5) = 24 → B_X23_call_40 Z (d + 1) σ l2 K) ∧ ((σ.i 0 5) = 24 → B_X23_breaks_0 Z d σ 7 l1 (yN K fun τ1 => B_X23_call_40 Z (d + 1) τ1 l2 K))) : B_X23_call_24 Z (d + 1) σ l1 l2 K := by
  unfold B_X23_call_24
  refine ab_fin.s2 (i := .aload_n 0) (k := 1) (pc' := 25) (lv' := [(0, .ref 0), (1, .int l1), (2, .int l2)]) (st' := [.ref 0]) (by decide +kernel) rfl rfl ?_
  refine ab_fin.q_rI (x := (σ.i 0 5)) (ix := 31) (ci := 24) (k := 5) (pc' := 28) (by decide +kernel) rfl (c_rI (F.s s0_0) rfl) rfl ?_
  refine ab_fin.s1i (i := .bipush 24) (k := 2) (pc' := 30) (n := 24) (by decide +kernel) rfl (by decide +kernel) rfl ?_
  refine ab_fin.br (c := ¬ (σ.i 0 5) = 24) (i := .if_icmp .ne 10) (off := 10) (t := 40) (pc' := 33) (r := []) (by decide +kernel) rfl (by decide +kernel) rfl (fun q => ?_) (fun q => ?_)
  · replace w := w.1 q
    exact ab_fin.lv ⟨(List.forall_mem_cons.mpr ⟨(List.Mem.head _), (List.forall_mem_cons.mpr ⟨(List.Mem.tail _ (List.Mem.tail _ (List.Mem.head _))), (fun _ h => absurd h List.not_mem_nil)⟩)⟩), (show ([0, 1, 2] : List Nat).Nodup from by decide)⟩ w
  · replace w := w.2 (Decidable.of_not_not q)
    refine ab_fin.s2 (i := .aload_n 0) (k := 1) (pc' := 34) (lv' := [(0, .ref 0), (1, .int l1), (2, .int l2)]) (st' := [.ref 0]) (by decide +kernel) rfl rfl ?_
    refine ab_fin.s1i (i := .bipush 7) (k := 2) (pc' := 36) (n := 7) (by decide +kernel) rfl (by decide +kernel) rfl ?_
    refine ab_fin.s2 (i := .iload_n 1) (k := 1) (pc' := 37) (lv' := [(0, .ref 0), (1, .int l1), (2, .int l2)]) (st' := [.int l1, .int 7, .ref 0]) (by decide +kernel) rfl rfl ?_
    refine ab_fin.q_yN (i := .invokevirtual 259) (k := 3) (y := 5910) (As := [.ref 0, .int 7, .int l1]) (rest := []) (M' := (mX23_breaks, [])) (lv2 := [(0, .ref 0), (1, .int 7), (2, .int l1)]) (pc' := 40) (X := K) (by decide +kernel) (ab_cv rfl rfl (conc_get (σ := σ) (F.s s0_0)) ⟨(Nat.le_of_ble_eq_true rfl), (Nat.le_of_ble_eq_true rfl)⟩ rfl) rfl (Nat.le_of_ble_eq_true rfl) rfl rfl (hY_no fun E => rfl) w (fun τ1 F2 w => ?_)
    exact ab_fin.lv ⟨(List.forall_mem_cons.mpr ⟨(List.Mem.head _), (List.forall_mem_cons.mpr ⟨(List.Mem.tail _ (List.Mem.tail _ (List.Mem.head _))), (fun _ h => absurd h List.not_mem_nil)⟩)⟩), (show ([0, 1, 2] : List Nat).Nodup from by decide)⟩ w
theorem S_X23_call_40 {Z : zT} {d : Nat} {σ : Sg} {l2 : Int32} {K : kS} (F : FX ΦR σ.sh σ.r) (w : (24 ≤ (σ.i 0 5) → B_X23_call_65 Z (d + 1) σ l2 47 K) ∧ (¬ 24 ≤ (σ.i 0 5) → ib (σ.i 0 5) 24 ∧ (B_X23_call_65 Z (d + 1) σ l2 (2409 + 3 * ((σ.i 0 5).toNatClampNeg)) K))) : B_X23_call_40 Z (d + 1) σ l2 K := by
  unfold B_X23_call_40
  refine ab_fin.s2 (i := .aload_n 0) (k := 1) (pc' := 41) (lv' := [(0, .ref 0), (2, .int l2)]) (st' := [.ref 0]) (by decide +kernel) rfl rfl ?_
  refine ab_fin.q_rI (x := (σ.i 0 5)) (ix := 31) (ci := 24) (k := 5) (pc' := 44) (by decide +kernel) rfl (c_rI (F.s s0_0) rfl) rfl ?_
  refine ab_fin.s1i (i := .bipush 24) (k := 2) (pc' := 46) (n := 24) (by decide +kernel) rfl (by decide +kernel) rfl ?_
  refine ab_fin.br (c := 24 ≤ (σ.i 0 5)) (i := .if_icmp .ge 15) (off := 15) (t := 61) (pc' := 49) (r := []) (by decide +kernel) rfl (by decide +kernel) rfl (fun q => ?_) (fun q => ?_)
  · replace w := w.1 q
    refine ab_fin.s2 (i := .aload_n 0) (k := 1) (pc' := 62) (lv' := [(0, .ref 0), (2, .int l2)]) (st' := [.ref 0]) (by decide +kernel) rfl rfl ?_
    refine ab_fin.q_rA (b := 47) (ix := 299) (ci := 24) (k := 29) (pc' := 65) (by decide +kernel) rfl (c_rA (F.s s0_0) rfl (rM_29 F)) rfl ?_
    exact ab_fin.lv ⟨(List.forall_mem_cons.mpr ⟨(List.Mem.head _), (List.forall_mem_cons.mpr ⟨(List.Mem.tail _ (List.Mem.head _)), (fun _ h => absurd h List.not_mem_nil)⟩)⟩), (show ([0, 2] : List Nat).Nodup from by decide)⟩ w
  · replace w := w.2 q
    refine ab_fin.s2 (i := .aload_n 0) (k := 1) (pc' := 50) (lv' := [(0, .ref 0), (2, .int l2)]) (st' := [.ref 0]) (by decide +kernel) rfl rfl ?_
    refine ab_fin.q_rA (b := 2) (ix := 34) (ci := 24) (k := 1) (pc' := 53) (by decide +kernel) rfl (c_rA (F.s s0_0) rfl (rM_1 F)) rfl ?_
    refine ab_fin.s2 (i := .aload_n 0) (k := 1) (pc' := 54) (lv' := [(0, .ref 0), (2, .int l2)]) (st' := [.ref 0, .ref 2]) (by decide +kernel) rfl rfl ?_
    refine ab_fin.q_rI (x := (σ.i 0 5)) (ix := 31) (ci := 24) (k := 5) (pc' := 57) (by decide +kernel) rfl (c_rI (F.s s0_0) rfl) rfl ?_
    obtain ⟨e1, w⟩ := w
    refine ab_fin.q_eA (b := (2409 + 3 * ((σ.i 0 5).toNatClampNeg))) (pc' := 58) (by decide +kernel) (c_eA' (F.s s0_2) (by decide) rfl e1 rfl (rE_5 F s0_2)) rfl ?_
    refine ab_fin.s3 (i := .goto 7) (k := 3) (t := 65) (st' := [.ref (2409 + 3 * ((σ.i 0 5).toNatClampNeg))]) (by decide +kernel) (ab_gto (by decide +kernel)) ?_
    exact ab_fin.lv ⟨(List.forall_mem_cons.mpr ⟨(List.Mem.head _), (List.forall_mem_cons.mpr ⟨(List.Mem.tail _ (List.Mem.head _)), (fun _ h => absurd h List.not_mem_nil)⟩)⟩), (show ([0, 2] : List Nat).Nodup from by decide)⟩ w
theorem S_X23_call_65 {Z : zT} {d : Nat} {σ : Sg} {l2 : Int32} {s0 : Nat} {K : kS} (F : FX ΦR σ.sh σ.r) (p_s0 : sh0R[s0]? = some (Sh.obj 14)) (w : B_X19_be_0 Z d σ (s0 + 1) 37 (l2 >>> ((5 : Int32) &&& 31)) (l2 &&& (31 : Int32)) (yN K fun τ1 => B_X23_want_0 Z d τ1 40 (yN K fun τ3 => ((τ3.i 0 17) = 3 → (((τ3.wi s0 1 (τ3.i 0 19)).i 0 19) < 1 → B_X23_call_127 Z (d + 1) (τ3.wi s0 1 (τ3.i 0 19)) s0 K) ∧ (¬ ((τ3.wi s0 1 (τ3.i 0 19)).i 0 19) < 1 → (((τ3.wi s0 1 (τ3.i 0 19)).i 0 19) ≤ 3 → B_X23_call_141 Z (d + 1) (τ3.wi s0 1 (τ3.i 0 19)) s0 K) ∧ (¬ ((τ3.wi s0 1 (τ3.i 0 19)).i 0 19) ≤ 3 → B_X23_call_127 Z (d + 1) (τ3.wi s0 1 (τ3.i 0 19)) s0 K))) ∧ (¬ (τ3.i 0 17) = 3 → B_X23_no_0 Z d τ3  (yR K fun v7 τ5 => ∃ x9, aT τ5 v7 x9 ∧ K (.inr (x9, v7)) τ5))))) : B_X23_call_65 Z (d + 1) σ l2 s0 K := by
  unfold B_X23_call_65
  refine ab_fin.s2 (i := .astore_n 3) (k := 1) (pc' := 66) (lv' := [(3, .ref s0), (0, .ref 0), (2, .int l2)]) (st' := []) (by decide +kernel) rfl rfl ?_
  refine ab_fin.s2 (i := .aload_n 3) (k := 1) (pc' := 67) (lv' := [(3, .ref s0), (0, .ref 0), (2, .int l2)]) (st' := [.ref s0]) (by decide +kernel) rfl rfl ?_
  refine ab_fin.q_rA (b := (s0 + 1)) (ix := 38) (ci := 14) (k := 0) (pc' := 70) (by decide +kernel) rfl (c_rA (F.s p_s0) rfl (rO_14_0 F p_s0)) rfl ?_
  refine ab_fin.s2 (i := .aload_n 0) (k := 1) (pc' := 71) (lv' := [(3, .ref s0), (0, .ref 0), (2, .int l2)]) (st' := [.ref 0, .ref (s0 + 1)]) (by decide +kernel) rfl rfl ?_
  refine ab_fin.q_rA (b := 37) (ix := 1) (ci := 24) (k := 14) (pc' := 74) (by decide +kernel) rfl (c_rA (F.s s0_0) rfl (rM_14 F)) rfl ?_
  refine ab_fin.s2 (i := .iload_n 2) (k := 1) (pc' := 75) (lv' := [(3, .ref s0), (0, .ref 0), (2, .int l2)]) (st' := [.int l2, .ref 37, .ref (s0 + 1)]) (by decide +kernel) rfl rfl ?_
  refine ab_fin.s1i (i := .iconst 5) (k := 1) (pc' := 76) (n := 5) (by decide +kernel) rfl (by decide +kernel) rfl ?_
  refine ab_fin.s1 (i := .ishr) (k := 1) (pc' := 77) (st' := [.int (l2 >>> ((5 : Int32) &&& 31)), .ref 37, .ref (s0 + 1)]) (by decide +kernel) rfl rfl ?_
  refine ab_fin.s2 (i := .iload_n 2) (k := 1) (pc' := 78) (lv' := [(3, .ref s0), (0, .ref 0), (2, .int l2)]) (st' := [.int l2, .int (l2 >>> ((5 : Int32) &&& 31)), .ref 37, .ref (s0 + 1)]) (by decide +kernel) rfl rfl ?_
  refine ab_fin.s1i (i := .bipush 31) (k := 2) (pc' := 80) (n := 31) (by decide +kernel) rfl (by decide +kernel) rfl ?_
  refine ab_fin.s1 (i := .iand) (k := 1) (pc' := 81) (st' := [.int (l2 &&& (31 : Int32)), .int (l2 >>> ((5 : Int32) &&& 31)), .ref 37, .ref (s0 + 1)]) (by decide +kernel) rfl rfl ?_
  refine ab_fin.q_yN (i := .invokevirtual 286) (k := 3) (y := 4865) (As := [.ref (s0 + 1), .ref 37, .int (l2 >>> ((5 : Int32) &&& 31)), .int (l2 &&& (31 : Int32))]) (rest := []) (M' := (mX19_be, [])) (lv2 := [(0, .ref (s0 + 1)), (1, .ref 37), (2, .int (l2 >>> ((5 : Int32) &&& 31))), (3, .int (l2 &&& (31 : Int32)))]) (pc' := 84) (X := K) (by decide +kernel) (ab_cv rfl rfl (conc_get (σ := σ) (F.s (kF_14_1 p_s0))) ⟨(Nat.le_of_ble_eq_true rfl), (Nat.le_of_ble_eq_true rfl)⟩ rfl) rfl (Nat.le_of_ble_eq_true rfl) rfl rfl (hY_no fun E => rfl) w (fun τ1 F2 w => ?_)
  refine ab_fin.s2 (i := .aload_n 0) (k := 1) (pc' := 85) (lv' := [(3, .ref s0), (0, .ref 0), (2, .int l2)]) (st' := [.ref 0]) (by decide +kernel) rfl rfl ?_
  refine ab_fin.s1i (i := .bipush 40) (k := 2) (pc' := 87) (n := 40) (by decide +kernel) rfl (by decide +kernel) rfl ?_
  refine ab_fin.q_yN (i := .invokevirtual 293) (k := 3) (y := 5906) (As := [.ref 0, .int 40]) (rest := []) (M' := (mX23_want, [])) (lv2 := [(0, .ref 0), (1, .int 40)]) (pc' := 90) (X := K) (by decide +kernel) (ab_cv rfl rfl (conc_get (σ := τ1) (F2.s s0_0)) ⟨(Nat.le_of_ble_eq_true rfl), (Nat.le_of_ble_eq_true rfl)⟩ rfl) rfl (Nat.le_of_ble_eq_true rfl) rfl rfl (hY_no fun E => rfl) w (fun τ3 F4 w => ?_)
  refine ab_fin.s2 (i := .aload_n 0) (k := 1) (pc' := 91) (lv' := [(3, .ref s0), (0, .ref 0), (2, .int l2)]) (st' := [.ref 0]) (by decide +kernel) rfl rfl ?_
  refine ab_fin.q_rI (x := (τ3.i 0 17)) (ix := 183) (ci := 24) (k := 17) (pc' := 94) (by decide +kernel) rfl (c_rI (F4.s s0_0) rfl) rfl ?_
  refine ab_fin.s1i (i := .iconst 3) (k := 1) (pc' := 95) (n := 3) (by decide +kernel) rfl (by decide +kernel) rfl ?_
  refine ab_fin.br (c := (τ3.i 0 17) = 3) (i := .if_icmp .eq 8) (off := 8) (t := 103) (pc' := 98) (r := []) (by decide +kernel) rfl (by decide +kernel) rfl (fun q => ?_) (fun q => ?_)
  · replace w := w.1 q
    refine ab_fin.s2 (i := .aload_n 3) (k := 1) (pc' := 104) (lv' := [(3, .ref s0), (0, .ref 0), (2, .int l2)]) (st' := [.ref s0]) (by decide +kernel) rfl rfl ?_
    refine ab_fin.s2 (i := .aload_n 0) (k := 1) (pc' := 105) (lv' := [(3, .ref s0), (0, .ref 0), (2, .int l2)]) (st' := [.ref 0, .ref s0]) (by decide +kernel) rfl rfl ?_
    refine ab_fin.q_rI (x := (τ3.i 0 19)) (ix := 213) (ci := 24) (k := 19) (pc' := 108) (by decide +kernel) rfl (c_rI (F4.s s0_0) rfl) rfl ?_
    refine ab_fin.q_pF (ix := 303) (ci := 14) (k := 1) (h1 := conc (τ3.wi s0 1 (τ3.i 0 19))) (pc' := 111) (by decide +kernel) rfl (c_pI (v := (τ3.i 0 19)) (F4.s p_s0) rfl) rfl rfl rfl ?_
    refine ab_fin.s2 (i := .aload_n 0) (k := 1) (pc' := 112) (lv' := [(3, .ref s0), (0, .ref 0), (2, .int l2)]) (st' := [.ref 0]) (by decide +kernel) rfl rfl ?_
    refine ab_fin.q_rI (x := ((τ3.wi s0 1 (τ3.i 0 19)).i 0 19)) (ix := 213) (ci := 24) (k := 19) (pc' := 115) (by decide +kernel) rfl (c_rI (F4.s s0_0) rfl) rfl ?_
    refine ab_fin.s1i (i := .iconst 1) (k := 1) (pc' := 116) (n := 1) (by decide +kernel) rfl (by decide +kernel) rfl ?_
    refine ab_fin.br (c := ((τ3.wi s0 1 (τ3.i 0 19)).i 0 19) < 1) (i := .if_icmp .lt 11) (off := 11) (t := 127) (pc' := 119) (r := []) (by decide +kernel) rfl (by decide +kernel) rfl (fun q => ?_) (fun q => ?_)
    · replace w := w.1 q
      exact ab_fin.lv ⟨(List.forall_mem_cons.mpr ⟨(List.Mem.tail _ (List.Mem.head _)), (List.forall_mem_cons.mpr ⟨(List.Mem.head _), (fun _ h => absurd h List.not_mem_nil)⟩)⟩), (show ([3, 0, 2] : List Nat).Nodup from by decide)⟩ w
    · replace w := w.2 q
      refine ab_fin.s2 (i := .aload_n 0) (k := 1) (pc' := 120) (lv' := [(3, .ref s0), (0, .ref 0), (2, .int l2)]) (st' := [.ref 0]) (by decide +kernel) rfl rfl ?_
      refine ab_fin.q_rI (x := ((τ3.wi s0 1 (τ3.i 0 19)).i 0 19)) (ix := 213) (ci := 24) (k := 19) (pc' := 123) (by decide +kernel) rfl (c_rI (F4.s s0_0) rfl) rfl ?_
      refine ab_fin.s1i (i := .iconst 3) (k := 1) (pc' := 124) (n := 3) (by decide +kernel) rfl (by decide +kernel) rfl ?_
      refine ab_fin.br (c := ((τ3.wi s0 1 (τ3.i 0 19)).i 0 19) ≤ 3) (i := .if_icmp .le 17) (off := 17) (t := 141) (pc' := 127) (r := []) (by decide +kernel) rfl (by decide +kernel) rfl (fun q => ?_) (fun q => ?_)
      · replace w := w.1 q
        exact ab_fin.lv ⟨(List.forall_mem_cons.mpr ⟨(List.Mem.tail _ (List.Mem.head _)), (List.forall_mem_cons.mpr ⟨(List.Mem.head _), (fun _ h => absurd h List.not_mem_nil)⟩)⟩), (show ([3, 0, 2] : List Nat).Nodup from by decide)⟩ w
      · replace w := w.2 q
        exact ab_fin.lv ⟨(List.forall_mem_cons.mpr ⟨(List.Mem.tail _ (List.Mem.head _)), (List.forall_mem_cons.mpr ⟨(List.Mem.head _), (fun _ h => absurd h List.not_mem_nil)⟩)⟩), (show ([3, 0, 2] : List Nat).Nodup from by decide)⟩ w
  · replace w := w.2 q
    refine ab_fin.s2 (i := .aload_n 0) (k := 1) (pc' := 99) (lv' := [(3, .ref s0), (0, .ref 0), (2, .int l2)]) (st' := [.ref 0]) (by decide +kernel) rfl rfl ?_
    refine ab_fin.q_yR (i := .invokevirtual 235) (k := 3) (y := 5903) (As := [.ref 0]) (rest := []) (M' := (mX23_no, [])) (lv2 := [(0, .ref 0)]) (pc' := 102) (X := K) (by decide +kernel) (ab_cv rfl rfl (conc_get (σ := τ3) (F4.s s0_0)) ⟨(Nat.le_of_ble_eq_true rfl), (Nat.le_of_ble_eq_true rfl)⟩ rfl) rfl (Nat.le_of_ble_eq_true rfl) rfl rfl (hY_no fun E => rfl) w (fun v7 τ5 F6 w => ?_)
    obtain ⟨x9, e8, w⟩ := w
    exact ab_fin.q_ath (X := fun r h => ∃ τ, h = conc τ ∧ FX ΦR τ.sh τ.r ∧ K r τ) (by decide +kernel) (aT_ok e8) (fun p h ⟨τ, q, f, z⟩ => by subst q; exact ((hY_no fun E => rfl) : hY ΦR _ _ _ _ _ _ _ _ _ _) p τ f z) ⟨_, rfl, F6, w⟩

/-! THE REFERENCE, PIECE BY PIECE (printed by sgen.py), 5 -/
theorem S_X23_rebuild_88 {Z : zT} {d : Nat} {σ : Sg} {l1 : Int32} {K : kS} (F : FX ΦR σ.sh σ.r) (w : ((σ.i 0 5) ≤ l1 → B_X23_rebuild_191 Z (d + 1) σ 1 K) ∧ (¬ (σ.i 0 5) ≤ l1 → ib l1 24 ∧ (ib l1 24 ∧ (ib l1 24 ∧ (ib l1 24 ∧ (B_X23_rebuild_130 Z (d + 1) ((((σ.wl (1905 + 1 + l1.toNatClampNeg) 0 (0 : Int64)).wl (1905 + 1 + l1.toNatClampNeg) 1 (0 : Int64)).wi 1930 l1.toNatClampNeg (0 : Int32)).wi 1931 l1.toNatClampNeg (-1 : Int32)) l1 0 K)))))) : B_X23_rebuild_88 Z (d + 1) σ l1 K := by
  unfold B_X23_rebuild_88
  refine ab_fin.s2 (i := .iload_n 1) (k := 1) (pc' := 89) (lv' := [(0, .ref 0), (1, .int l1)]) (st' := [.int l1]) (by decide +kernel) rfl rfl ?_
  refine ab_fin.s2 (i := .aload_n 0) (k := 1) (pc' := 90) (lv' := [(0, .ref 0), (1, .int l1)]) (st' := [.ref 0, .int l1]) (by decide +kernel) rfl rfl ?_
  refine ab_fin.q_rI (x := (σ.i 0 5)) (ix := 31) (ci := 24) (k := 5) (pc' := 93) (by decide +kernel) rfl (c_rI (F.s s0_0) rfl) rfl ?_
  refine ab_fin.br (c := (σ.i 0 5) ≤ l1) (i := .if_icmp .ge 96) (off := 96) (t := 189) (pc' := 96) (r := []) (by decide +kernel) rfl (by decide +kernel) rfl (fun q => ?_) (fun q => ?_)
  · replace w := w.1 q
    refine ab_fin.s1i (i := .iconst 1) (k := 1) (pc' := 190) (n := 1) (by decide +kernel) rfl (by decide +kernel) rfl ?_
    refine ab_fin.s2 (i := .istore_n 1) (k := 1) (pc' := 191) (lv' := [(1, .int 1), (0, .ref 0)]) (st' := []) (by decide +kernel) rfl rfl ?_
    exact ab_fin.lv ⟨(List.forall_mem_cons.mpr ⟨(List.Mem.tail _ (List.Mem.head _)), (List.forall_mem_cons.mpr ⟨(List.Mem.head _), (fun _ h => absurd h List.not_mem_nil)⟩)⟩), (show ([1, 0] : List Nat).Nodup from by decide)⟩ w
  · replace w := w.2 q
    refine ab_fin.s2 (i := .aload_n 0) (k := 1) (pc' := 97) (lv' := [(0, .ref 0), (1, .int l1)]) (st' := [.ref 0]) (by decide +kernel) rfl rfl ?_
    refine ab_fin.q_rA (b := 1905) (ix := 500) (ci := 24) (k := 37) (pc' := 100) (by decide +kernel) rfl (c_rA (F.s s0_0) rfl (rM_37 F)) rfl ?_
    refine ab_fin.s2 (i := .iload_n 1) (k := 1) (pc' := 101) (lv' := [(0, .ref 0), (1, .int l1)]) (st' := [.int l1, .ref 1905]) (by decide +kernel) rfl rfl ?_
    obtain ⟨e1, w⟩ := w
    refine ab_fin.q_eA (b := (1905 + 1 + l1.toNatClampNeg)) (pc' := 102) (by decide +kernel) (c_eA' (F.s s0_1905) (by decide) rfl e1 rfl (rE_11 F s0_1905)) rfl ?_
    refine ab_fin.s1i (i := .iconst 0) (k := 1) (pc' := 103) (n := 0) (by decide +kernel) rfl (by decide +kernel) rfl ?_
    refine ab_fin.s1l (i := .lconst 0) (k := 1) (pc' := 104) (n := 0) (by decide +kernel) rfl (by decide +kernel) rfl ?_
    refine ab_fin.q_sL (h1 := conc (σ.wl (1905 + 1 + l1.toNatClampNeg) 0 (0 : Int64))) (pc' := 105) (by decide +kernel) (c_sL' (F.s (kE_1905 e1.2)) (show ib (0 : Int32) 2 by decide +kernel) (by decide +kernel)) rfl ?_
    refine ab_fin.s2 (i := .aload_n 0) (k := 1) (pc' := 106) (lv' := [(0, .ref 0), (1, .int l1)]) (st' := [.ref 0]) (by decide +kernel) rfl rfl ?_
    refine ab_fin.q_rA (b := 1905) (ix := 500) (ci := 24) (k := 37) (pc' := 109) (by decide +kernel) rfl (c_rA (F.s s0_0) rfl (rM_37 F)) rfl ?_
    refine ab_fin.s2 (i := .iload_n 1) (k := 1) (pc' := 110) (lv' := [(0, .ref 0), (1, .int l1)]) (st' := [.int l1, .ref 1905]) (by decide +kernel) rfl rfl ?_
    obtain ⟨e2, w⟩ := w
    refine ab_fin.q_eA (b := (1905 + 1 + l1.toNatClampNeg)) (pc' := 111) (by decide +kernel) (c_eA' (F.s s0_1905) (by decide) rfl e2 rfl (rE_11 F s0_1905)) rfl ?_
    refine ab_fin.s1i (i := .iconst 1) (k := 1) (pc' := 112) (n := 1) (by decide +kernel) rfl (by decide +kernel) rfl ?_
    refine ab_fin.s1l (i := .lconst 0) (k := 1) (pc' := 113) (n := 0) (by decide +kernel) rfl (by decide +kernel) rfl ?_
    refine ab_fin.q_sL (h1 := conc ((σ.wl (1905 + 1 + l1.toNatClampNeg) 0 (0 : Int64)).wl (1905 + 1 + l1.toNatClampNeg) 1 (0 : Int64))) (pc' := 114) (by decide +kernel) (c_sL' (F.s (kE_1905 e2.2)) (show ib (1 : Int32) 2 by decide +kernel) (by decide +kernel)) rfl ?_
    refine ab_fin.s2 (i := .aload_n 0) (k := 1) (pc' := 115) (lv' := [(0, .ref 0), (1, .int l1)]) (st' := [.ref 0]) (by decide +kernel) rfl rfl ?_
    refine ab_fin.q_rA (b := 1930) (ix := 504) (ci := 24) (k := 38) (pc' := 118) (by decide +kernel) rfl (c_rA (F.s s0_0) rfl (rM_38 F)) rfl ?_
    refine ab_fin.s2 (i := .iload_n 1) (k := 1) (pc' := 119) (lv' := [(0, .ref 0), (1, .int l1)]) (st' := [.int l1, .ref 1930]) (by decide +kernel) rfl rfl ?_
    refine ab_fin.s1i (i := .iconst 0) (k := 1) (pc' := 120) (n := 0) (by decide +kernel) rfl (by decide +kernel) rfl ?_
    obtain ⟨e3, w⟩ := w
    refine ab_fin.q_sI (h1 := conc (((σ.wl (1905 + 1 + l1.toNatClampNeg) 0 (0 : Int64)).wl (1905 + 1 + l1.toNatClampNeg) 1 (0 : Int64)).wi 1930 l1.toNatClampNeg (0 : Int32))) (pc' := 121) (by decide +kernel) (c_sI' (F.s s0_1930) e3 rfl) rfl ?_
    refine ab_fin.s2 (i := .aload_n 0) (k := 1) (pc' := 122) (lv' := [(0, .ref 0), (1, .int l1)]) (st' := [.ref 0]) (by decide +kernel) rfl rfl ?_
    refine ab_fin.q_rA (b := 1931) (ix := 507) (ci := 24) (k := 39) (pc' := 125) (by decide +kernel) rfl (c_rA (F.s s0_0) rfl (rM_39 F)) rfl ?_
    refine ab_fin.s2 (i := .iload_n 1) (k := 1) (pc' := 126) (lv' := [(0, .ref 0), (1, .int l1)]) (st' := [.int l1, .ref 1931]) (by decide +kernel) rfl rfl ?_
    refine ab_fin.s1i (i := .iconst (-1)) (k := 1) (pc' := 127) (n := (-1)) (by decide +kernel) rfl (by decide +kernel) rfl ?_
    obtain ⟨e4, w⟩ := w
    refine ab_fin.q_sI (h1 := conc ((((σ.wl (1905 + 1 + l1.toNatClampNeg) 0 (0 : Int64)).wl (1905 + 1 + l1.toNatClampNeg) 1 (0 : Int64)).wi 1930 l1.toNatClampNeg (0 : Int32)).wi 1931 l1.toNatClampNeg (-1 : Int32))) (pc' := 128) (by decide +kernel) (c_sI' (F.s s0_1931) e4 rfl) rfl ?_
    refine ab_fin.s1i (i := .iconst 0) (k := 1) (pc' := 129) (n := 0) (by decide +kernel) rfl (by decide +kernel) rfl ?_
    refine ab_fin.s2 (i := .istore_n 2) (k := 1) (pc' := 130) (lv' := [(2, .int 0), (0, .ref 0), (1, .int l1)]) (st' := []) (by decide +kernel) rfl rfl ?_
    exact ab_fin.lv ⟨(List.forall_mem_cons.mpr ⟨(List.Mem.tail _ (List.Mem.head _)), (List.forall_mem_cons.mpr ⟨(List.Mem.tail _ (List.Mem.tail _ (List.Mem.head _))), (List.forall_mem_cons.mpr ⟨(List.Mem.head _), (fun _ h => absurd h List.not_mem_nil)⟩)⟩)⟩), (show ([2, 0, 1] : List Nat).Nodup from by decide)⟩ w
theorem S_X23_rebuild_130 {Z : zT} {d : Nat} {σ : Sg} {l1 : Int32} {l2 : Int32} {K : kS} (F : FX ΦR σ.sh σ.r) (w : (3 ≤ l2 → B_X23_rebuild_88 Z (d + 1) σ (l1 + 1) K) ∧ (¬ 3 ≤ l2 → B_X23_rebuild_137 Z (d + 1) σ l1 l2 0 K)) : B_X23_rebuild_130 Z (d + 1) σ l1 l2 K := by
  unfold B_X23_rebuild_130
  refine ab_fin.s2 (i := .iload_n 2) (k := 1) (pc' := 131) (lv' := [(0, .ref 0), (1, .int l1), (2, .int l2)]) (st' := [.int l2]) (by decide +kernel) rfl rfl ?_
  refine ab_fin.s1i (i := .iconst 3) (k := 1) (pc' := 132) (n := 3) (by decide +kernel) rfl (by decide +kernel) rfl ?_
  refine ab_fin.br (c := 3 ≤ l2) (i := .if_icmp .ge 51) (off := 51) (t := 183) (pc' := 135) (r := []) (by decide +kernel) rfl (by decide +kernel) rfl (fun q => ?_) (fun q => ?_)
  · replace w := w.1 q
    refine ab_fin.q_inc (n := 1) (c := 1) (pc' := 186) (lv' := [(1, .int (l1 + 1)), (0, .ref 0), (2, .int l2)]) (by decide +kernel) (by decide) rfl rfl rfl rfl ?_
    refine ab_fin.s3 (i := .goto (-98)) (k := 3) (t := 88) (st' := []) (by decide +kernel) (ab_gto (by decide +kernel)) ?_
    exact ab_fin.lv ⟨(List.forall_mem_cons.mpr ⟨(List.Mem.tail _ (List.Mem.head _)), (List.forall_mem_cons.mpr ⟨(List.Mem.head _), (fun _ h => absurd h List.not_mem_nil)⟩)⟩), (show ([1, 0, 2] : List Nat).Nodup from by decide)⟩ w
  · replace w := w.2 q
    refine ab_fin.s1i (i := .iconst 0) (k := 1) (pc' := 136) (n := 0) (by decide +kernel) rfl (by decide +kernel) rfl ?_
    refine ab_fin.s2 (i := .istore_n 3) (k := 1) (pc' := 137) (lv' := [(3, .int 0), (0, .ref 0), (1, .int l1), (2, .int l2)]) (st' := []) (by decide +kernel) rfl rfl ?_
    exact ab_fin.lv ⟨(List.forall_mem_cons.mpr ⟨(List.Mem.tail _ (List.Mem.head _)), (List.forall_mem_cons.mpr ⟨(List.Mem.tail _ (List.Mem.tail _ (List.Mem.head _))), (List.forall_mem_cons.mpr ⟨(List.Mem.tail _ (List.Mem.tail _ (List.Mem.tail _ (List.Mem.head _)))), (List.forall_mem_cons.mpr ⟨(List.Mem.head _), (fun _ h => absurd h List.not_mem_nil)⟩)⟩)⟩)⟩), (show ([3, 0, 1, 2] : List Nat).Nodup from by decide)⟩ w
theorem S_X23_rebuild_137 {Z : zT} {d : Nat} {σ : Sg} {l1 : Int32} {l2 : Int32} {l3 : Int32} {K : kS} (F : FX ΦR σ.sh σ.r) (w : ((σ.i 0 4) ≤ l3 → B_X23_rebuild_130 Z (d + 1) σ l1 (l2 + 1) K) ∧ (¬ (σ.i 0 4) ≤ l3 → ib l1 24 ∧ (ib l2 3 ∧ (ib l3 24 ∧ (ib l1 24 ∧ (ib l2 3 ∧ (ib l3 24 ∧ (B_X23_rebuild_137 Z (d + 1) ((σ.wl (55 + 1 + 76 * l1.toNatClampNeg + 1 + 25 * l2.toNatClampNeg + 1 + l3.toNatClampNeg) 0 (0 : Int64)).wl (55 + 1 + 76 * l1.toNatClampNeg + 1 + 25 * l2.toNatClampNeg + 1 + l3.toNatClampNeg) 1 (0 : Int64)) l1 l2 (l3 + 1) K)))))))) : B_X23_rebuild_137 Z (d + 1) σ l1 l2 l3 K := by
  unfold B_X23_rebuild_137
  refine ab_fin.s2 (i := .iload_n 3) (k := 1) (pc' := 138) (lv' := [(0, .ref 0), (1, .int l1), (2, .int l2), (3, .int l3)]) (st' := [.int l3]) (by decide +kernel) rfl rfl ?_
  refine ab_fin.s2 (i := .aload_n 0) (k := 1) (pc' := 139) (lv' := [(0, .ref 0), (1, .int l1), (2, .int l2), (3, .int l3)]) (st' := [.ref 0, .int l3]) (by decide +kernel) rfl rfl ?_
  refine ab_fin.q_rI (x := (σ.i 0 4)) (ix := 13) (ci := 24) (k := 4) (pc' := 142) (by decide +kernel) rfl (c_rI (F.s s0_0) rfl) rfl ?_
  refine ab_fin.br (c := (σ.i 0 4) ≤ l3) (i := .if_icmp .ge 35) (off := 35) (t := 177) (pc' := 145) (r := []) (by decide +kernel) rfl (by decide +kernel) rfl (fun q => ?_) (fun q => ?_)
  · replace w := w.1 q
    refine ab_fin.q_inc (n := 2) (c := 1) (pc' := 180) (lv' := [(2, .int (l2 + 1)), (0, .ref 0), (1, .int l1), (3, .int l3)]) (by decide +kernel) (by decide) rfl rfl rfl rfl ?_
    refine ab_fin.s3 (i := .goto (-50)) (k := 3) (t := 130) (st' := []) (by decide +kernel) (ab_gto (by decide +kernel)) ?_
    exact ab_fin.lv ⟨(List.forall_mem_cons.mpr ⟨(List.Mem.tail _ (List.Mem.head _)), (List.forall_mem_cons.mpr ⟨(List.Mem.tail _ (List.Mem.tail _ (List.Mem.head _))), (List.forall_mem_cons.mpr ⟨(List.Mem.head _), (fun _ h => absurd h List.not_mem_nil)⟩)⟩)⟩), (show ([2, 0, 1, 3] : List Nat).Nodup from by decide)⟩ w
  · replace w := w.2 q
    refine ab_fin.s2 (i := .aload_n 0) (k := 1) (pc' := 146) (lv' := [(0, .ref 0), (1, .int l1), (2, .int l2), (3, .int l3)]) (st' := [.ref 0]) (by decide +kernel) rfl rfl ?_
    refine ab_fin.q_rA (b := 55) (ix := 510) (ci := 24) (k := 35) (pc' := 149) (by decide +kernel) rfl (c_rA (F.s s0_0) rfl (rM_35 F)) rfl ?_
    refine ab_fin.s2 (i := .iload_n 1) (k := 1) (pc' := 150) (lv' := [(0, .ref 0), (1, .int l1), (2, .int l2), (3, .int l3)]) (st' := [.int l1, .ref 55]) (by decide +kernel) rfl rfl ?_
    obtain ⟨e1, w⟩ := w
    refine ab_fin.q_eA (b := (55 + 1 + 76 * l1.toNatClampNeg)) (pc' := 151) (by decide +kernel) (c_eA' (F.s s0_55) (by decide) rfl e1 rfl (rE_9 F s0_55)) rfl ?_
    refine ab_fin.s2 (i := .iload_n 2) (k := 1) (pc' := 152) (lv' := [(0, .ref 0), (1, .int l1), (2, .int l2), (3, .int l3)]) (st' := [.int l2, .ref (55 + 1 + 76 * l1.toNatClampNeg)]) (by decide +kernel) rfl rfl ?_
    obtain ⟨e2, w⟩ := w
    refine ab_fin.q_eA (b := (55 + 1 + 76 * l1.toNatClampNeg + 1 + 25 * l2.toNatClampNeg)) (pc' := 153) (by decide +kernel) (c_eA' (F.s (kE_55 e1.2)) (by decide) rfl e2 rfl (rE_10 F (kE_55 e1.2))) rfl ?_
    refine ab_fin.s2 (i := .iload_n 3) (k := 1) (pc' := 154) (lv' := [(0, .ref 0), (1, .int l1), (2, .int l2), (3, .int l3)]) (st' := [.int l3, .ref (55 + 1 + 76 * l1.toNatClampNeg + 1 + 25 * l2.toNatClampNeg)]) (by decide +kernel) rfl rfl ?_
    obtain ⟨e3, w⟩ := w
    refine ab_fin.q_eA (b := (55 + 1 + 76 * l1.toNatClampNeg + 1 + 25 * l2.toNatClampNeg + 1 + l3.toNatClampNeg)) (pc' := 155) (by decide +kernel) (c_eA' (F.s (kE_fit1 e1.2 e2.2)) (by decide) rfl e3 rfl (rE_11 F (kE_fit1 e1.2 e2.2))) rfl ?_
    refine ab_fin.s1i (i := .iconst 0) (k := 1) (pc' := 156) (n := 0) (by decide +kernel) rfl (by decide +kernel) rfl ?_
    refine ab_fin.s1l (i := .lconst 0) (k := 1) (pc' := 157) (n := 0) (by decide +kernel) rfl (by decide +kernel) rfl ?_
    refine ab_fin.q_sL (h1 := conc (σ.wl (55 + 1 + 76 * l1.toNatClampNeg + 1 + 25 * l2.toNatClampNeg + 1 + l3.toNatClampNeg) 0 (0 : Int64))) (pc' := 158) (by decide +kernel) (c_sL' (F.s (kE_fit2 e1.2 e2.2 e3.2)) (show ib (0 : Int32) 2 by decide +kernel) (by decide +kernel)) rfl ?_
    refine ab_fin.s2 (i := .aload_n 0) (k := 1) (pc' := 159) (lv' := [(0, .ref 0), (1, .int l1), (2, .int l2), (3, .int l3)]) (st' := [.ref 0]) (by decide +kernel) rfl rfl ?_
    refine ab_fin.q_rA (b := 55) (ix := 510) (ci := 24) (k := 35) (pc' := 162) (by decide +kernel) rfl (c_rA (F.s s0_0) rfl (rM_35 F)) rfl ?_
    refine ab_fin.s2 (i := .iload_n 1) (k := 1) (pc' := 163) (lv' := [(0, .ref 0), (1, .int l1), (2, .int l2), (3, .int l3)]) (st' := [.int l1, .ref 55]) (by decide +kernel) rfl rfl ?_
    obtain ⟨e4, w⟩ := w
    refine ab_fin.q_eA (b := (55 + 1 + 76 * l1.toNatClampNeg)) (pc' := 164) (by decide +kernel) (c_eA' (F.s s0_55) (by decide) rfl e4 rfl (rE_9 F s0_55)) rfl ?_
    refine ab_fin.s2 (i := .iload_n 2) (k := 1) (pc' := 165) (lv' := [(0, .ref 0), (1, .int l1), (2, .int l2), (3, .int l3)]) (st' := [.int l2, .ref (55 + 1 + 76 * l1.toNatClampNeg)]) (by decide +kernel) rfl rfl ?_
    obtain ⟨e5, w⟩ := w
    refine ab_fin.q_eA (b := (55 + 1 + 76 * l1.toNatClampNeg + 1 + 25 * l2.toNatClampNeg)) (pc' := 166) (by decide +kernel) (c_eA' (F.s (kE_55 e4.2)) (by decide) rfl e5 rfl (rE_10 F (kE_55 e4.2))) rfl ?_
    refine ab_fin.s2 (i := .iload_n 3) (k := 1) (pc' := 167) (lv' := [(0, .ref 0), (1, .int l1), (2, .int l2), (3, .int l3)]) (st' := [.int l3, .ref (55 + 1 + 76 * l1.toNatClampNeg + 1 + 25 * l2.toNatClampNeg)]) (by decide +kernel) rfl rfl ?_
    obtain ⟨e6, w⟩ := w
    refine ab_fin.q_eA (b := (55 + 1 + 76 * l1.toNatClampNeg + 1 + 25 * l2.toNatClampNeg + 1 + l3.toNatClampNeg)) (pc' := 168) (by decide +kernel) (c_eA' (F.s (kE_fit1 e4.2 e5.2)) (by decide) rfl e6 rfl (rE_11 F (kE_fit1 e4.2 e5.2))) rfl ?_
    refine ab_fin.s1i (i := .iconst 1) (k := 1) (pc' := 169) (n := 1) (by decide +kernel) rfl (by decide +kernel) rfl ?_
    refine ab_fin.s1l (i := .lconst 0) (k := 1) (pc' := 170) (n := 0) (by decide +kernel) rfl (by decide +kernel) rfl ?_
    refine ab_fin.q_sL (h1 := conc ((σ.wl (55 + 1 + 76 * l1.toNatClampNeg + 1 + 25 * l2.toNatClampNeg + 1 + l3.toNatClampNeg) 0 (0 : Int64)).wl (55 + 1 + 76 * l1.toNatClampNeg + 1 + 25 * l2.toNatClampNeg + 1 + l3.toNatClampNeg) 1 (0 : Int64))) (pc' := 171) (by decide +kernel) (c_sL' (F.s (kE_fit2 e4.2 e5.2 e6.2)) (show ib (1 : Int32) 2 by decide +kernel) (by decide +kernel)) rfl ?_
    refine ab_fin.q_inc (n := 3) (c := 1) (pc' := 174) (lv' := [(3, .int (l3 + 1)), (0, .ref 0), (1, .int l1), (2, .int l2)]) (by decide +kernel) (by decide) rfl rfl rfl rfl ?_
    refine ab_fin.s3 (i := .goto (-37)) (k := 3) (t := 137) (st' := []) (by decide +kernel) (ab_gto (by decide +kernel)) ?_
    exact ab_fin.lv ⟨(List.forall_mem_cons.mpr ⟨(List.Mem.tail _ (List.Mem.head _)), (List.forall_mem_cons.mpr ⟨(List.Mem.tail _ (List.Mem.tail _ (List.Mem.head _))), (List.forall_mem_cons.mpr ⟨(List.Mem.tail _ (List.Mem.tail _ (List.Mem.tail _ (List.Mem.head _)))), (List.forall_mem_cons.mpr ⟨(List.Mem.head _), (fun _ h => absurd h List.not_mem_nil)⟩)⟩)⟩)⟩), (show ([3, 0, 1, 2] : List Nat).Nodup from by decide)⟩ w
theorem S_X23_rebuild_191 {Z : zT} {d : Nat} {σ : Sg} {l1 : Int32} {K : kS} (F : FX ΦR σ.sh σ.r) (w : ((σ.i 0 6) < l1 → B_X23_rebuild_349 Z (d + 1) σ 0 K) ∧ (¬ (σ.i 0 6) < l1 → ib l1 121 ∧ (((σ.i (2497 + 4 * l1.toNatClampNeg) 10) = 0 → ib (σ.i (2497 + 4 * l1.toNatClampNeg) 0) 24 ∧ (ib (σ.i (2497 + 4 * l1.toNatClampNeg) 0) 24 ∧ (ib ((σ.wi 1930 ((σ.i (2497 + 4 * l1.toNatClampNeg) 0).toNatClampNeg) ((σ.i 1930 ((σ.i (2497 + 4 * l1.toNatClampNeg) 0).toNatClampNeg)) + (1 : Int32))).i (2497 + 4 * l1.toNatClampNeg) 0) 24 ∧ (ib ((l1 - (1 : Int32)) >>> ((6 : Int32) &&& 31)) 2 ∧ (ib ((l1 - (1 : Int32)) >>> ((6 : Int32) &&& 31)) 2 ∧ (B_X23_rebuild_255 Z (d + 1) ((σ.wi 1930 ((σ.i (2497 + 4 * l1.toNatClampNeg) 0).toNatClampNeg) ((σ.i 1930 ((σ.i (2497 + 4 * l1.toNatClampNeg) 0).toNatClampNeg)) + (1 : Int32))).wl (1905 + 1 + (((σ.wi 1930 ((σ.i (2497 + 4 * l1.toNatClampNeg) 0).toNatClampNeg) ((σ.i 1930 ((σ.i (2497 + 4 * l1.toNatClampNeg) 0).toNatClampNeg)) + (1 : Int32))).i (2497 + 4 * l1.toNatClampNeg) 0).toNatClampNeg)) (((l1 - (1 : Int32)) >>> ((6 : Int32) &&& 31)).toNatClampNeg) ((σ.l (1905 + 1 + (((σ.wi 1930 ((σ.i (2497 + 4 * l1.toNatClampNeg) 0).toNatClampNeg) ((σ.i 1930 ((σ.i (2497 + 4 * l1.toNatClampNeg) 0).toNatClampNeg)) + (1 : Int32))).i (2497 + 4 * l1.toNatClampNeg) 0).toNatClampNeg)) (((l1 - (1 : Int32)) >>> ((6 : Int32) &&& 31)).toNatClampNeg)) ||| ((1 : Int64) <<< (Int32.toInt64 (l1 - (1 : Int32)) &&& 63)))) l1 (2497 + 4 * l1.toNatClampNeg) 0 K)))))) ∧ (¬ (σ.i (2497 + 4 * l1.toNatClampNeg) 10) = 0 → B_X23_rebuild_191 Z (d + 1) σ (l1 + 1) K)))) : B_X23_rebuild_191 Z (d + 1) σ l1 K := by
  unfold B_X23_rebuild_191
  refine ab_fin.s2 (i := .iload_n 1) (k := 1) (pc' := 192) (lv' := [(0, .ref 0), (1, .int l1)]) (st' := [.int l1]) (by decide +kernel) rfl rfl ?_
  refine ab_fin.s2 (i := .aload_n 0) (k := 1) (pc' := 193) (lv' := [(0, .ref 0), (1, .int l1)]) (st' := [.ref 0, .int l1]) (by decide +kernel) rfl rfl ?_
  refine ab_fin.q_rI (x := (σ.i 0 6)) (ix := 312) (ci := 24) (k := 6) (pc' := 196) (by decide +kernel) rfl (c_rI (F.s s0_0) rfl) rfl ?_
  refine ab_fin.br (c := (σ.i 0 6) < l1) (i := .if_icmp .gt 151) (off := 151) (t := 347) (pc' := 199) (r := []) (by decide +kernel) rfl (by decide +kernel) rfl (fun q => ?_) (fun q => ?_)
  · replace w := w.1 q
    refine ab_fin.s1i (i := .iconst 0) (k := 1) (pc' := 348) (n := 0) (by decide +kernel) rfl (by decide +kernel) rfl ?_
    refine ab_fin.s2 (i := .istore_n 1) (k := 1) (pc' := 349) (lv' := [(1, .int 0), (0, .ref 0)]) (st' := []) (by decide +kernel) rfl rfl ?_
    exact ab_fin.lv ⟨(List.forall_mem_cons.mpr ⟨(List.Mem.tail _ (List.Mem.head _)), (List.forall_mem_cons.mpr ⟨(List.Mem.head _), (fun _ h => absurd h List.not_mem_nil)⟩)⟩), (show ([1, 0] : List Nat).Nodup from by decide)⟩ w
  · replace w := w.2 q
    refine ab_fin.s2 (i := .aload_n 0) (k := 1) (pc' := 200) (lv' := [(0, .ref 0), (1, .int l1)]) (st' := [.ref 0]) (by decide +kernel) rfl rfl ?_
    refine ab_fin.q_rA (b := 3) (ix := 315) (ci := 24) (k := 2) (pc' := 203) (by decide +kernel) rfl (c_rA (F.s s0_0) rfl (rM_2 F)) rfl ?_
    refine ab_fin.s2 (i := .iload_n 1) (k := 1) (pc' := 204) (lv' := [(0, .ref 0), (1, .int l1)]) (st' := [.int l1, .ref 3]) (by decide +kernel) rfl rfl ?_
    obtain ⟨e1, w⟩ := w
    refine ab_fin.q_eA (b := (2497 + 4 * l1.toNatClampNeg)) (pc' := 205) (by decide +kernel) (c_eA' (F.s s0_3) (by decide) rfl e1 rfl (rE_6 F s0_3 (by decide))) rfl ?_
    refine ab_fin.s2 (i := .astore_n 2) (k := 1) (pc' := 206) (lv' := [(2, .ref (2497 + 4 * l1.toNatClampNeg)), (0, .ref 0), (1, .int l1)]) (st' := []) (by decide +kernel) rfl rfl ?_
    refine ab_fin.s2 (i := .aload_n 2) (k := 1) (pc' := 207) (lv' := [(2, .ref (2497 + 4 * l1.toNatClampNeg)), (0, .ref 0), (1, .int l1)]) (st' := [.ref (2497 + 4 * l1.toNatClampNeg)]) (by decide +kernel) rfl rfl ?_
    refine ab_fin.q_rI (x := (σ.i (2497 + 4 * l1.toNatClampNeg) 10)) (ix := 330) (ci := 19) (k := 10) (pc' := 210) (by decide +kernel) rfl (c_rI (F.s (kE_3 e1.2)) rfl) rfl ?_
    refine ab_fin.br (c := (σ.i (2497 + 4 * l1.toNatClampNeg) 10) = 0) (i := .ifCond .eq 6) (off := 6) (t := 216) (pc' := 213) (r := []) (by decide +kernel) rfl (by decide +kernel) rfl (fun q => ?_) (fun q => ?_)
    · replace w := w.1 q
      refine ab_fin.s2 (i := .aload_n 0) (k := 1) (pc' := 217) (lv' := [(2, .ref (2497 + 4 * l1.toNatClampNeg)), (0, .ref 0), (1, .int l1)]) (st' := [.ref 0]) (by decide +kernel) rfl rfl ?_
      refine ab_fin.q_rA (b := 1930) (ix := 504) (ci := 24) (k := 38) (pc' := 220) (by decide +kernel) rfl (c_rA (F.s s0_0) rfl (rM_38 F)) rfl ?_
      refine ab_fin.s2 (i := .aload_n 2) (k := 1) (pc' := 221) (lv' := [(2, .ref (2497 + 4 * l1.toNatClampNeg)), (0, .ref 0), (1, .int l1)]) (st' := [.ref (2497 + 4 * l1.toNatClampNeg), .ref 1930]) (by decide +kernel) rfl rfl ?_
      refine ab_fin.q_rI (x := (σ.i (2497 + 4 * l1.toNatClampNeg) 0)) (ix := 323) (ci := 19) (k := 0) (pc' := 224) (by decide +kernel) rfl (c_rI (F.s (kE_3 e1.2)) rfl) rfl ?_
      refine ab_fin.s1 (i := .dup2) (k := 1) (pc' := 225) (st' := [.int (σ.i (2497 + 4 * l1.toNatClampNeg) 0), .ref 1930, .int (σ.i (2497 + 4 * l1.toNatClampNeg) 0), .ref 1930]) (by decide +kernel) rfl rfl ?_
      obtain ⟨e2, w⟩ := w
      refine ab_fin.q_eI (x := (σ.i 1930 ((σ.i (2497 + 4 * l1.toNatClampNeg) 0).toNatClampNeg))) (pc' := 226) (by decide +kernel) (c_eI' (F.s s0_1930) e2 rfl) rfl ?_
      refine ab_fin.s1i (i := .iconst 1) (k := 1) (pc' := 227) (n := 1) (by decide +kernel) rfl (by decide +kernel) rfl ?_
      refine ab_fin.s1 (i := .iadd) (k := 1) (pc' := 228) (st' := [.int ((σ.i 1930 ((σ.i (2497 + 4 * l1.toNatClampNeg) 0).toNatClampNeg)) + (1 : Int32)), .int (σ.i (2497 + 4 * l1.toNatClampNeg) 0), .ref 1930]) (by decide +kernel) rfl rfl ?_
      obtain ⟨e3, w⟩ := w
      refine ab_fin.q_sI (h1 := conc (σ.wi 1930 ((σ.i (2497 + 4 * l1.toNatClampNeg) 0).toNatClampNeg) ((σ.i 1930 ((σ.i (2497 + 4 * l1.toNatClampNeg) 0).toNatClampNeg)) + (1 : Int32)))) (pc' := 229) (by decide +kernel) (c_sI' (F.s s0_1930) e3 rfl) rfl ?_
      refine ab_fin.s2 (i := .aload_n 0) (k := 1) (pc' := 230) (lv' := [(2, .ref (2497 + 4 * l1.toNatClampNeg)), (0, .ref 0), (1, .int l1)]) (st' := [.ref 0]) (by decide +kernel) rfl rfl ?_
      refine ab_fin.q_rA (b := 1905) (ix := 500) (ci := 24) (k := 37) (pc' := 233) (by decide +kernel) rfl (c_rA (F.s s0_0) rfl (rM_37 F)) rfl ?_
      refine ab_fin.s2 (i := .aload_n 2) (k := 1) (pc' := 234) (lv' := [(2, .ref (2497 + 4 * l1.toNatClampNeg)), (0, .ref 0), (1, .int l1)]) (st' := [.ref (2497 + 4 * l1.toNatClampNeg), .ref 1905]) (by decide +kernel) rfl rfl ?_
      refine ab_fin.q_rI (x := ((σ.wi 1930 ((σ.i (2497 + 4 * l1.toNatClampNeg) 0).toNatClampNeg) ((σ.i 1930 ((σ.i (2497 + 4 * l1.toNatClampNeg) 0).toNatClampNeg)) + (1 : Int32))).i (2497 + 4 * l1.toNatClampNeg) 0)) (ix := 323) (ci := 19) (k := 0) (pc' := 237) (by decide +kernel) rfl (c_rI (F.s (kE_3 e1.2)) rfl) rfl ?_
      obtain ⟨e4, w⟩ := w
      refine ab_fin.q_eA (b := (1905 + 1 + (((σ.wi 1930 ((σ.i (2497 + 4 * l1.toNatClampNeg) 0).toNatClampNeg) ((σ.i 1930 ((σ.i (2497 + 4 * l1.toNatClampNeg) 0).toNatClampNeg)) + (1 : Int32))).i (2497 + 4 * l1.toNatClampNeg) 0).toNatClampNeg))) (pc' := 238) (by decide +kernel) (c_eA' (F.s s0_1905) (by decide) rfl e4 rfl (rE_11 F s0_1905)) rfl ?_
      refine ab_fin.s2 (i := .iload_n 1) (k := 1) (pc' := 239) (lv' := [(2, .ref (2497 + 4 * l1.toNatClampNeg)), (0, .ref 0), (1, .int l1)]) (st' := [.int l1, .ref (1905 + 1 + (((σ.wi 1930 ((σ.i (2497 + 4 * l1.toNatClampNeg) 0).toNatClampNeg) ((σ.i 1930 ((σ.i (2497 + 4 * l1.toNatClampNeg) 0).toNatClampNeg)) + (1 : Int32))).i (2497 + 4 * l1.toNatClampNeg) 0).toNatClampNeg))]) (by decide +kernel) rfl rfl ?_
      refine ab_fin.s1i (i := .iconst 1) (k := 1) (pc' := 240) (n := 1) (by decide +kernel) rfl (by decide +kernel) rfl ?_
      refine ab_fin.s1 (i := .isub) (k := 1) (pc' := 241) (st' := [.int (l1 - (1 : Int32)), .ref (1905 + 1 + (((σ.wi 1930 ((σ.i (2497 + 4 * l1.toNatClampNeg) 0).toNatClampNeg) ((σ.i 1930 ((σ.i (2497 + 4 * l1.toNatClampNeg) 0).toNatClampNeg)) + (1 : Int32))).i (2497 + 4 * l1.toNatClampNeg) 0).toNatClampNeg))]) (by decide +kernel) rfl rfl ?_
      refine ab_fin.s1i (i := .bipush 6) (k := 2) (pc' := 243) (n := 6) (by decide +kernel) rfl (by decide +kernel) rfl ?_
      refine ab_fin.s1 (i := .ishr) (k := 1) (pc' := 244) (st' := [.int ((l1 - (1 : Int32)) >>> ((6 : Int32) &&& 31)), .ref (1905 + 1 + (((σ.wi 1930 ((σ.i (2497 + 4 * l1.toNatClampNeg) 0).toNatClampNeg) ((σ.i 1930 ((σ.i (2497 + 4 * l1.toNatClampNeg) 0).toNatClampNeg)) + (1 : Int32))).i (2497 + 4 * l1.toNatClampNeg) 0).toNatClampNeg))]) (by decide +kernel) rfl rfl ?_
      refine ab_fin.s1 (i := .dup2) (k := 1) (pc' := 245) (st' := [.int ((l1 - (1 : Int32)) >>> ((6 : Int32) &&& 31)), .ref (1905 + 1 + (((σ.wi 1930 ((σ.i (2497 + 4 * l1.toNatClampNeg) 0).toNatClampNeg) ((σ.i 1930 ((σ.i (2497 + 4 * l1.toNatClampNeg) 0).toNatClampNeg)) + (1 : Int32))).i (2497 + 4 * l1.toNatClampNeg) 0).toNatClampNeg)), .int ((l1 - (1 : Int32)) >>> ((6 : Int32) &&& 31)), .ref (1905 + 1 + (((σ.wi 1930 ((σ.i (2497 + 4 * l1.toNatClampNeg) 0).toNatClampNeg) ((σ.i 1930 ((σ.i (2497 + 4 * l1.toNatClampNeg) 0).toNatClampNeg)) + (1 : Int32))).i (2497 + 4 * l1.toNatClampNeg) 0).toNatClampNeg))]) (by decide +kernel) rfl rfl ?_
      obtain ⟨e5, w⟩ := w
      refine ab_fin.q_eL (x := (σ.l (1905 + 1 + (((σ.wi 1930 ((σ.i (2497 + 4 * l1.toNatClampNeg) 0).toNatClampNeg) ((σ.i 1930 ((σ.i (2497 + 4 * l1.toNatClampNeg) 0).toNatClampNeg)) + (1 : Int32))).i (2497 + 4 * l1.toNatClampNeg) 0).toNatClampNeg)) (((l1 - (1 : Int32)) >>> ((6 : Int32) &&& 31)).toNatClampNeg))) (pc' := 246) (by decide +kernel) (c_eL' (F.s (kE_1905 e4.2)) e5 rfl) rfl ?_
      refine ab_fin.s1l (i := .lconst 1) (k := 1) (pc' := 247) (n := 1) (by decide +kernel) rfl (by decide +kernel) rfl ?_
      refine ab_fin.s2 (i := .iload_n 1) (k := 1) (pc' := 248) (lv' := [(2, .ref (2497 + 4 * l1.toNatClampNeg)), (0, .ref 0), (1, .int l1)]) (st' := [.int l1, .long 1, .long (σ.l (1905 + 1 + (((σ.wi 1930 ((σ.i (2497 + 4 * l1.toNatClampNeg) 0).toNatClampNeg) ((σ.i 1930 ((σ.i (2497 + 4 * l1.toNatClampNeg) 0).toNatClampNeg)) + (1 : Int32))).i (2497 + 4 * l1.toNatClampNeg) 0).toNatClampNeg)) (((l1 - (1 : Int32)) >>> ((6 : Int32) &&& 31)).toNatClampNeg)), .int ((l1 - (1 : Int32)) >>> ((6 : Int32) &&& 31)), .ref (1905 + 1 + (((σ.wi 1930 ((σ.i (2497 + 4 * l1.toNatClampNeg) 0).toNatClampNeg) ((σ.i 1930 ((σ.i (2497 + 4 * l1.toNatClampNeg) 0).toNatClampNeg)) + (1 : Int32))).i (2497 + 4 * l1.toNatClampNeg) 0).toNatClampNeg))]) (by decide +kernel) rfl rfl ?_
      refine ab_fin.s1i (i := .iconst 1) (k := 1) (pc' := 249) (n := 1) (by decide +kernel) rfl (by decide +kernel) rfl ?_
      refine ab_fin.s1 (i := .isub) (k := 1) (pc' := 250) (st' := [.int (l1 - (1 : Int32)), .long 1, .long (σ.l (1905 + 1 + (((σ.wi 1930 ((σ.i (2497 + 4 * l1.toNatClampNeg) 0).toNatClampNeg) ((σ.i 1930 ((σ.i (2497 + 4 * l1.toNatClampNeg) 0).toNatClampNeg)) + (1 : Int32))).i (2497 + 4 * l1.toNatClampNeg) 0).toNatClampNeg)) (((l1 - (1 : Int32)) >>> ((6 : Int32) &&& 31)).toNatClampNeg)), .int ((l1 - (1 : Int32)) >>> ((6 : Int32) &&& 31)), .ref (1905 + 1 + (((σ.wi 1930 ((σ.i (2497 + 4 * l1.toNatClampNeg) 0).toNatClampNeg) ((σ.i 1930 ((σ.i (2497 + 4 * l1.toNatClampNeg) 0).toNatClampNeg)) + (1 : Int32))).i (2497 + 4 * l1.toNatClampNeg) 0).toNatClampNeg))]) (by decide +kernel) rfl rfl ?_
      refine ab_fin.s1 (i := .lshl) (k := 1) (pc' := 251) (st' := [.long ((1 : Int64) <<< (Int32.toInt64 (l1 - (1 : Int32)) &&& 63)), .long (σ.l (1905 + 1 + (((σ.wi 1930 ((σ.i (2497 + 4 * l1.toNatClampNeg) 0).toNatClampNeg) ((σ.i 1930 ((σ.i (2497 + 4 * l1.toNatClampNeg) 0).toNatClampNeg)) + (1 : Int32))).i (2497 + 4 * l1.toNatClampNeg) 0).toNatClampNeg)) (((l1 - (1 : Int32)) >>> ((6 : Int32) &&& 31)).toNatClampNeg)), .int ((l1 - (1 : Int32)) >>> ((6 : Int32) &&& 31)), .ref (1905 + 1 + (((σ.wi 1930 ((σ.i (2497 + 4 * l1.toNatClampNeg) 0).toNatClampNeg) ((σ.i 1930 ((σ.i (2497 + 4 * l1.toNatClampNeg) 0).toNatClampNeg)) + (1 : Int32))).i (2497 + 4 * l1.toNatClampNeg) 0).toNatClampNeg))]) (by decide +kernel) rfl rfl ?_
      refine ab_fin.s1 (i := .lor) (k := 1) (pc' := 252) (st' := [.long ((σ.l (1905 + 1 + (((σ.wi 1930 ((σ.i (2497 + 4 * l1.toNatClampNeg) 0).toNatClampNeg) ((σ.i 1930 ((σ.i (2497 + 4 * l1.toNatClampNeg) 0).toNatClampNeg)) + (1 : Int32))).i (2497 + 4 * l1.toNatClampNeg) 0).toNatClampNeg)) (((l1 - (1 : Int32)) >>> ((6 : Int32) &&& 31)).toNatClampNeg)) ||| ((1 : Int64) <<< (Int32.toInt64 (l1 - (1 : Int32)) &&& 63))), .int ((l1 - (1 : Int32)) >>> ((6 : Int32) &&& 31)), .ref (1905 + 1 + (((σ.wi 1930 ((σ.i (2497 + 4 * l1.toNatClampNeg) 0).toNatClampNeg) ((σ.i 1930 ((σ.i (2497 + 4 * l1.toNatClampNeg) 0).toNatClampNeg)) + (1 : Int32))).i (2497 + 4 * l1.toNatClampNeg) 0).toNatClampNeg))]) (by decide +kernel) rfl rfl ?_
      obtain ⟨e6, w⟩ := w
      refine ab_fin.q_sL (h1 := conc ((σ.wi 1930 ((σ.i (2497 + 4 * l1.toNatClampNeg) 0).toNatClampNeg) ((σ.i 1930 ((σ.i (2497 + 4 * l1.toNatClampNeg) 0).toNatClampNeg)) + (1 : Int32))).wl (1905 + 1 + (((σ.wi 1930 ((σ.i (2497 + 4 * l1.toNatClampNeg) 0).toNatClampNeg) ((σ.i 1930 ((σ.i (2497 + 4 * l1.toNatClampNeg) 0).toNatClampNeg)) + (1 : Int32))).i (2497 + 4 * l1.toNatClampNeg) 0).toNatClampNeg)) (((l1 - (1 : Int32)) >>> ((6 : Int32) &&& 31)).toNatClampNeg) ((σ.l (1905 + 1 + (((σ.wi 1930 ((σ.i (2497 + 4 * l1.toNatClampNeg) 0).toNatClampNeg) ((σ.i 1930 ((σ.i (2497 + 4 * l1.toNatClampNeg) 0).toNatClampNeg)) + (1 : Int32))).i (2497 + 4 * l1.toNatClampNeg) 0).toNatClampNeg)) (((l1 - (1 : Int32)) >>> ((6 : Int32) &&& 31)).toNatClampNeg)) ||| ((1 : Int64) <<< (Int32.toInt64 (l1 - (1 : Int32)) &&& 63))))) (pc' := 253) (by decide +kernel) (c_sL' (F.s (kE_1905 e4.2)) e6 rfl) rfl ?_
      refine ab_fin.s1i (i := .iconst 0) (k := 1) (pc' := 254) (n := 0) (by decide +kernel) rfl (by decide +kernel) rfl ?_
      refine ab_fin.s2 (i := .istore_n 3) (k := 1) (pc' := 255) (lv' := [(3, .int 0), (2, .ref (2497 + 4 * l1.toNatClampNeg)), (0, .ref 0), (1, .int l1)]) (st' := []) (by decide +kernel) rfl rfl ?_
      exact ab_fin.lv ⟨(List.forall_mem_cons.mpr ⟨(List.Mem.tail _ (List.Mem.tail _ (List.Mem.head _))), (List.forall_mem_cons.mpr ⟨(List.Mem.tail _ (List.Mem.tail _ (List.Mem.tail _ (List.Mem.head _)))), (List.forall_mem_cons.mpr ⟨(List.Mem.tail _ (List.Mem.head _)), (List.forall_mem_cons.mpr ⟨(List.Mem.head _), (fun _ h => absurd h List.not_mem_nil)⟩)⟩)⟩)⟩), (show ([3, 2, 0, 1] : List Nat).Nodup from by decide)⟩ w
    · replace w := w.2 q
      refine ab_fin.s3 (i := .goto 128) (k := 3) (t := 341) (st' := []) (by decide +kernel) (ab_gto (by decide +kernel)) ?_
      refine ab_fin.q_inc (n := 1) (c := 1) (pc' := 344) (lv' := [(1, .int (l1 + 1)), (2, .ref (2497 + 4 * l1.toNatClampNeg)), (0, .ref 0)]) (by decide +kernel) (by decide) rfl rfl rfl rfl ?_
      refine ab_fin.s3 (i := .goto (-153)) (k := 3) (t := 191) (st' := []) (by decide +kernel) (ab_gto (by decide +kernel)) ?_
      exact ab_fin.lv ⟨(List.forall_mem_cons.mpr ⟨(List.Mem.tail _ (List.Mem.tail _ (List.Mem.head _))), (List.forall_mem_cons.mpr ⟨(List.Mem.head _), (fun _ h => absurd h List.not_mem_nil)⟩)⟩), (show ([1, 2, 0] : List Nat).Nodup from by decide)⟩ w
theorem S_X23_rebuild_255 {Z : zT} {d : Nat} {σ : Sg} {l1 : Int32} {l2 : Nat} {l3 : Int32} {K : kS} (F : FX ΦR σ.sh σ.r) (p_l2 : sh0R[l2]? = some (Sh.obj 19)) (w : ib (σ.i l2 0) 24 ∧ (((σ.i (2409 + 3 * ((σ.i l2 0).toNatClampNeg)) 1) ≤ l3 → B_X23_rebuild_191 Z (d + 1) σ (l1 + 1) K) ∧ (¬ (σ.i (2409 + 3 * ((σ.i l2 0).toNatClampNeg)) 1) ≤ l3 → B_X23_rebuild_274 Z (d + 1) σ l1 l2 l3 0 K))) : B_X23_rebuild_255 Z (d + 1) σ l1 l2 l3 K := by
  unfold B_X23_rebuild_255
  refine ab_fin.s2 (i := .iload_n 3) (k := 1) (pc' := 256) (lv' := [(0, .ref 0), (1, .int l1), (2, .ref l2), (3, .int l3)]) (st' := [.int l3]) (by decide +kernel) rfl rfl ?_
  refine ab_fin.s2 (i := .aload_n 0) (k := 1) (pc' := 257) (lv' := [(0, .ref 0), (1, .int l1), (2, .ref l2), (3, .int l3)]) (st' := [.ref 0, .int l3]) (by decide +kernel) rfl rfl ?_
  refine ab_fin.q_rA (b := 2) (ix := 34) (ci := 24) (k := 1) (pc' := 260) (by decide +kernel) rfl (c_rA (F.s s0_0) rfl (rM_1 F)) rfl ?_
  refine ab_fin.s2 (i := .aload_n 2) (k := 1) (pc' := 261) (lv' := [(0, .ref 0), (1, .int l1), (2, .ref l2), (3, .int l3)]) (st' := [.ref l2, .ref 2, .int l3]) (by decide +kernel) rfl rfl ?_
  refine ab_fin.q_rI (x := (σ.i l2 0)) (ix := 323) (ci := 19) (k := 0) (pc' := 264) (by decide +kernel) rfl (c_rI (F.s p_l2) rfl) rfl ?_
  obtain ⟨e1, w⟩ := w
  refine ab_fin.q_eA (b := (2409 + 3 * ((σ.i l2 0).toNatClampNeg))) (pc' := 265) (by decide +kernel) (c_eA' (F.s s0_2) (by decide) rfl e1 rfl (rE_5 F s0_2)) rfl ?_
  refine ab_fin.q_rI (x := (σ.i (2409 + 3 * ((σ.i l2 0).toNatClampNeg)) 1)) (ix := 303) (ci := 14) (k := 1) (pc' := 268) (by decide +kernel) rfl (c_rI (F.s (kE_2 e1.2)) rfl) rfl ?_
  refine ab_fin.br (c := (σ.i (2409 + 3 * ((σ.i l2 0).toNatClampNeg)) 1) ≤ l3) (i := .if_icmp .ge 73) (off := 73) (t := 341) (pc' := 271) (r := []) (by decide +kernel) rfl (by decide +kernel) rfl (fun q => ?_) (fun q => ?_)
  · replace w := w.1 q
    refine ab_fin.q_inc (n := 1) (c := 1) (pc' := 344) (lv' := [(1, .int (l1 + 1)), (0, .ref 0), (2, .ref l2), (3, .int l3)]) (by decide +kernel) (by decide) rfl rfl rfl rfl ?_
    refine ab_fin.s3 (i := .goto (-153)) (k := 3) (t := 191) (st' := []) (by decide +kernel) (ab_gto (by decide +kernel)) ?_
    exact ab_fin.lv ⟨(List.forall_mem_cons.mpr ⟨(List.Mem.tail _ (List.Mem.head _)), (List.forall_mem_cons.mpr ⟨(List.Mem.head _), (fun _ h => absurd h List.not_mem_nil)⟩)⟩), (show ([1, 0, 2, 3] : List Nat).Nodup from by decide)⟩ w
  · replace w := w.2 q
    refine ab_fin.s1i (i := .iconst 0) (k := 1) (pc' := 272) (n := 0) (by decide +kernel) rfl (by decide +kernel) rfl ?_
    refine ab_fin.s2 (i := .istore 4) (k := 2) (pc' := 274) (lv' := [(4, .int 0), (0, .ref 0), (1, .int l1), (2, .ref l2), (3, .int l3)]) (st' := []) (by decide +kernel) rfl rfl ?_
    exact ab_fin.lv ⟨(List.forall_mem_cons.mpr ⟨(List.Mem.tail _ (List.Mem.head _)), (List.forall_mem_cons.mpr ⟨(List.Mem.tail _ (List.Mem.tail _ (List.Mem.head _))), (List.forall_mem_cons.mpr ⟨(List.Mem.tail _ (List.Mem.tail _ (List.Mem.tail _ (List.Mem.head _)))), (List.forall_mem_cons.mpr ⟨(List.Mem.tail _ (List.Mem.tail _ (List.Mem.tail _ (List.Mem.tail _ (List.Mem.head _))))), (List.forall_mem_cons.mpr ⟨(List.Mem.head _), (fun _ h => absurd h List.not_mem_nil)⟩)⟩)⟩)⟩)⟩), (show ([4, 0, 1, 2, 3] : List Nat).Nodup from by decide)⟩ w
theorem S_X23_rebuild_274 {Z : zT} {d : Nat} {σ : Sg} {l1 : Int32} {l2 : Nat} {l3 : Int32} {l4 : Int32} {K : kS} (F : FX ΦR σ.sh σ.r) (p_l2 : sh0R[l2]? = some (Sh.obj 19)) (w : ((σ.i 0 4) ≤ l4 → B_X23_rebuild_255 Z (d + 1) σ l1 l2 (l3 + 1) K) ∧ (¬ (σ.i 0 4) ≤ l4 → ib l4 24 ∧ (ib l3 3 ∧ (ib (σ.i (l2 + 1) l3.toNatClampNeg) 24 ∧ (((σ.i (1880 + 1 + l4.toNatClampNeg) ((σ.i (l2 + 1) l3.toNatClampNeg).toNatClampNeg)) = 0 → B_X23_rebuild_274 Z (d + 1) σ l1 l2 l3 (l4 + 1) K) ∧ (¬ (σ.i (1880 + 1 + l4.toNatClampNeg) ((σ.i (l2 + 1) l3.toNatClampNeg).toNatClampNeg)) = 0 → ib (σ.i l2 0) 24 ∧ (ib l3 3 ∧ (ib l4 24 ∧ (ib ((l1 - (1 : Int32)) >>> ((6 : Int32) &&& 31)) 2 ∧ (ib ((l1 - (1 : Int32)) >>> ((6 : Int32) &&& 31)) 2 ∧ (B_X23_rebuild_274 Z (d + 1) (σ.wl (55 + 1 + 76 * ((σ.i l2 0).toNatClampNeg) + 1 + 25 * l3.toNatClampNeg + 1 + l4.toNatClampNeg) (((l1 - (1 : Int32)) >>> ((6 : Int32) &&& 31)).toNatClampNeg) ((σ.l (55 + 1 + 76 * ((σ.i l2 0).toNatClampNeg) + 1 + 25 * l3.toNatClampNeg + 1 + l4.toNatClampNeg) (((l1 - (1 : Int32)) >>> ((6 : Int32) &&& 31)).toNatClampNeg)) ||| ((1 : Int64) <<< (Int32.toInt64 (l1 - (1 : Int32)) &&& 63)))) l1 l2 l3 (l4 + 1) K))))))))))) : B_X23_rebuild_274 Z (d + 1) σ l1 l2 l3 l4 K := by
  unfold B_X23_rebuild_274
  refine ab_fin.s2 (i := .iload 4) (k := 2) (pc' := 276) (lv' := [(0, .ref 0), (1, .int l1), (2, .ref l2), (3, .int l3), (4, .int l4)]) (st' := [.int l4]) (by decide +kernel) rfl rfl ?_
  refine ab_fin.s2 (i := .aload_n 0) (k := 1) (pc' := 277) (lv' := [(0, .ref 0), (1, .int l1), (2, .ref l2), (3, .int l3), (4, .int l4)]) (st' := [.ref 0, .int l4]) (by decide +kernel) rfl rfl ?_
  refine ab_fin.q_rI (x := (σ.i 0 4)) (ix := 13) (ci := 24) (k := 4) (pc' := 280) (by decide +kernel) rfl (c_rI (F.s s0_0) rfl) rfl ?_
  refine ab_fin.br (c := (σ.i 0 4) ≤ l4) (i := .if_icmp .ge 55) (off := 55) (t := 335) (pc' := 283) (r := []) (by decide +kernel) rfl (by decide +kernel) rfl (fun q => ?_) (fun q => ?_)
  · replace w := w.1 q
    refine ab_fin.q_inc (n := 3) (c := 1) (pc' := 338) (lv' := [(3, .int (l3 + 1)), (0, .ref 0), (1, .int l1), (2, .ref l2), (4, .int l4)]) (by decide +kernel) (by decide) rfl rfl rfl rfl ?_
    refine ab_fin.s3 (i := .goto (-83)) (k := 3) (t := 255) (st' := []) (by decide +kernel) (ab_gto (by decide +kernel)) ?_
    exact ab_fin.lv ⟨(List.forall_mem_cons.mpr ⟨(List.Mem.tail _ (List.Mem.head _)), (List.forall_mem_cons.mpr ⟨(List.Mem.tail _ (List.Mem.tail _ (List.Mem.head _))), (List.forall_mem_cons.mpr ⟨(List.Mem.tail _ (List.Mem.tail _ (List.Mem.tail _ (List.Mem.head _)))), (List.forall_mem_cons.mpr ⟨(List.Mem.head _), (fun _ h => absurd h List.not_mem_nil)⟩)⟩)⟩)⟩), (show ([3, 0, 1, 2, 4] : List Nat).Nodup from by decide)⟩ w
  · replace w := w.2 q
    refine ab_fin.s2 (i := .aload_n 0) (k := 1) (pc' := 284) (lv' := [(0, .ref 0), (1, .int l1), (2, .ref l2), (3, .int l3), (4, .int l4)]) (st' := [.ref 0]) (by decide +kernel) rfl rfl ?_
    refine ab_fin.q_rA (b := 1880) (ix := 490) (ci := 24) (k := 36) (pc' := 287) (by decide +kernel) rfl (c_rA (F.s s0_0) rfl (rM_36 F)) rfl ?_
    refine ab_fin.s2 (i := .iload 4) (k := 2) (pc' := 289) (lv' := [(0, .ref 0), (1, .int l1), (2, .ref l2), (3, .int l3), (4, .int l4)]) (st' := [.int l4, .ref 1880]) (by decide +kernel) rfl rfl ?_
    obtain ⟨e1, w⟩ := w
    refine ab_fin.q_eA (b := (1880 + 1 + l4.toNatClampNeg)) (pc' := 290) (by decide +kernel) (c_eA' (F.s s0_1880) (by decide) rfl e1 rfl (rE_12 F s0_1880)) rfl ?_
    refine ab_fin.s2 (i := .aload_n 2) (k := 1) (pc' := 291) (lv' := [(0, .ref 0), (1, .int l1), (2, .ref l2), (3, .int l3), (4, .int l4)]) (st' := [.ref l2, .ref (1880 + 1 + l4.toNatClampNeg)]) (by decide +kernel) rfl rfl ?_
    refine ab_fin.q_rA (b := (l2 + 1)) (ix := 391) (ci := 19) (k := 5) (pc' := 294) (by decide +kernel) rfl (c_rA (F.s p_l2) rfl (rO_19_5 F p_l2)) rfl ?_
    refine ab_fin.s2 (i := .iload_n 3) (k := 1) (pc' := 295) (lv' := [(0, .ref 0), (1, .int l1), (2, .ref l2), (3, .int l3), (4, .int l4)]) (st' := [.int l3, .ref (l2 + 1), .ref (1880 + 1 + l4.toNatClampNeg)]) (by decide +kernel) rfl rfl ?_
    obtain ⟨e2, w⟩ := w
    refine ab_fin.q_eI (x := (σ.i (l2 + 1) l3.toNatClampNeg)) (pc' := 296) (by decide +kernel) (c_eI' (F.s (kF_19_1 p_l2)) e2 rfl) rfl ?_
    obtain ⟨e3, w⟩ := w
    refine ab_fin.q_eB (x := (σ.i (1880 + 1 + l4.toNatClampNeg) ((σ.i (l2 + 1) l3.toNatClampNeg).toNatClampNeg))) (pc' := 297) (by decide +kernel) (c_eB3' (F.s (kE_1880 e1.2)) e3 rfl) rfl ?_
    refine ab_fin.br (c := (σ.i (1880 + 1 + l4.toNatClampNeg) ((σ.i (l2 + 1) l3.toNatClampNeg).toNatClampNeg)) = 0) (i := .ifCond .eq 32) (off := 32) (t := 329) (pc' := 300) (r := []) (by decide +kernel) rfl (by decide +kernel) rfl (fun q => ?_) (fun q => ?_)
    · replace w := w.1 q
      refine ab_fin.q_inc (n := 4) (c := 1) (pc' := 332) (lv' := [(4, .int (l4 + 1)), (0, .ref 0), (1, .int l1), (2, .ref l2), (3, .int l3)]) (by decide +kernel) (by decide) rfl rfl rfl rfl ?_
      refine ab_fin.s3 (i := .goto (-58)) (k := 3) (t := 274) (st' := []) (by decide +kernel) (ab_gto (by decide +kernel)) ?_
      exact ab_fin.lv ⟨(List.forall_mem_cons.mpr ⟨(List.Mem.tail _ (List.Mem.head _)), (List.forall_mem_cons.mpr ⟨(List.Mem.tail _ (List.Mem.tail _ (List.Mem.head _))), (List.forall_mem_cons.mpr ⟨(List.Mem.tail _ (List.Mem.tail _ (List.Mem.tail _ (List.Mem.head _)))), (List.forall_mem_cons.mpr ⟨(List.Mem.tail _ (List.Mem.tail _ (List.Mem.tail _ (List.Mem.tail _ (List.Mem.head _))))), (List.forall_mem_cons.mpr ⟨(List.Mem.head _), (fun _ h => absurd h List.not_mem_nil)⟩)⟩)⟩)⟩)⟩), (show ([4, 0, 1, 2, 3] : List Nat).Nodup from by decide)⟩ w
    · replace w := w.2 q
      refine ab_fin.s2 (i := .aload_n 0) (k := 1) (pc' := 301) (lv' := [(0, .ref 0), (1, .int l1), (2, .ref l2), (3, .int l3), (4, .int l4)]) (st' := [.ref 0]) (by decide +kernel) rfl rfl ?_
      refine ab_fin.q_rA (b := 55) (ix := 510) (ci := 24) (k := 35) (pc' := 304) (by decide +kernel) rfl (c_rA (F.s s0_0) rfl (rM_35 F)) rfl ?_
      refine ab_fin.s2 (i := .aload_n 2) (k := 1) (pc' := 305) (lv' := [(0, .ref 0), (1, .int l1), (2, .ref l2), (3, .int l3), (4, .int l4)]) (st' := [.ref l2, .ref 55]) (by decide +kernel) rfl rfl ?_
      refine ab_fin.q_rI (x := (σ.i l2 0)) (ix := 323) (ci := 19) (k := 0) (pc' := 308) (by decide +kernel) rfl (c_rI (F.s p_l2) rfl) rfl ?_
      obtain ⟨e4, w⟩ := w
      refine ab_fin.q_eA (b := (55 + 1 + 76 * ((σ.i l2 0).toNatClampNeg))) (pc' := 309) (by decide +kernel) (c_eA' (F.s s0_55) (by decide) rfl e4 rfl (rE_9 F s0_55)) rfl ?_
      refine ab_fin.s2 (i := .iload_n 3) (k := 1) (pc' := 310) (lv' := [(0, .ref 0), (1, .int l1), (2, .ref l2), (3, .int l3), (4, .int l4)]) (st' := [.int l3, .ref (55 + 1 + 76 * ((σ.i l2 0).toNatClampNeg))]) (by decide +kernel) rfl rfl ?_
      obtain ⟨e5, w⟩ := w
      refine ab_fin.q_eA (b := (55 + 1 + 76 * ((σ.i l2 0).toNatClampNeg) + 1 + 25 * l3.toNatClampNeg)) (pc' := 311) (by decide +kernel) (c_eA' (F.s (kE_55 e4.2)) (by decide) rfl e5 rfl (rE_10 F (kE_55 e4.2))) rfl ?_
      refine ab_fin.s2 (i := .iload 4) (k := 2) (pc' := 313) (lv' := [(0, .ref 0), (1, .int l1), (2, .ref l2), (3, .int l3), (4, .int l4)]) (st' := [.int l4, .ref (55 + 1 + 76 * ((σ.i l2 0).toNatClampNeg) + 1 + 25 * l3.toNatClampNeg)]) (by decide +kernel) rfl rfl ?_
      obtain ⟨e6, w⟩ := w
      refine ab_fin.q_eA (b := (55 + 1 + 76 * ((σ.i l2 0).toNatClampNeg) + 1 + 25 * l3.toNatClampNeg + 1 + l4.toNatClampNeg)) (pc' := 314) (by decide +kernel) (c_eA' (F.s (kE_fit1 e4.2 e5.2)) (by decide) rfl e6 rfl (rE_11 F (kE_fit1 e4.2 e5.2))) rfl ?_
      refine ab_fin.s2 (i := .iload_n 1) (k := 1) (pc' := 315) (lv' := [(0, .ref 0), (1, .int l1), (2, .ref l2), (3, .int l3), (4, .int l4)]) (st' := [.int l1, .ref (55 + 1 + 76 * ((σ.i l2 0).toNatClampNeg) + 1 + 25 * l3.toNatClampNeg + 1 + l4.toNatClampNeg)]) (by decide +kernel) rfl rfl ?_
      refine ab_fin.s1i (i := .iconst 1) (k := 1) (pc' := 316) (n := 1) (by decide +kernel) rfl (by decide +kernel) rfl ?_
      refine ab_fin.s1 (i := .isub) (k := 1) (pc' := 317) (st' := [.int (l1 - (1 : Int32)), .ref (55 + 1 + 76 * ((σ.i l2 0).toNatClampNeg) + 1 + 25 * l3.toNatClampNeg + 1 + l4.toNatClampNeg)]) (by decide +kernel) rfl rfl ?_
      refine ab_fin.s1i (i := .bipush 6) (k := 2) (pc' := 319) (n := 6) (by decide +kernel) rfl (by decide +kernel) rfl ?_
      refine ab_fin.s1 (i := .ishr) (k := 1) (pc' := 320) (st' := [.int ((l1 - (1 : Int32)) >>> ((6 : Int32) &&& 31)), .ref (55 + 1 + 76 * ((σ.i l2 0).toNatClampNeg) + 1 + 25 * l3.toNatClampNeg + 1 + l4.toNatClampNeg)]) (by decide +kernel) rfl rfl ?_
      refine ab_fin.s1 (i := .dup2) (k := 1) (pc' := 321) (st' := [.int ((l1 - (1 : Int32)) >>> ((6 : Int32) &&& 31)), .ref (55 + 1 + 76 * ((σ.i l2 0).toNatClampNeg) + 1 + 25 * l3.toNatClampNeg + 1 + l4.toNatClampNeg), .int ((l1 - (1 : Int32)) >>> ((6 : Int32) &&& 31)), .ref (55 + 1 + 76 * ((σ.i l2 0).toNatClampNeg) + 1 + 25 * l3.toNatClampNeg + 1 + l4.toNatClampNeg)]) (by decide +kernel) rfl rfl ?_
      obtain ⟨e7, w⟩ := w
      refine ab_fin.q_eL (x := (σ.l (55 + 1 + 76 * ((σ.i l2 0).toNatClampNeg) + 1 + 25 * l3.toNatClampNeg + 1 + l4.toNatClampNeg) (((l1 - (1 : Int32)) >>> ((6 : Int32) &&& 31)).toNatClampNeg))) (pc' := 322) (by decide +kernel) (c_eL' (F.s (kE_fit2 e4.2 e5.2 e6.2)) e7 rfl) rfl ?_
      refine ab_fin.s1l (i := .lconst 1) (k := 1) (pc' := 323) (n := 1) (by decide +kernel) rfl (by decide +kernel) rfl ?_
      refine ab_fin.s2 (i := .iload_n 1) (k := 1) (pc' := 324) (lv' := [(0, .ref 0), (1, .int l1), (2, .ref l2), (3, .int l3), (4, .int l4)]) (st' := [.int l1, .long 1, .long (σ.l (55 + 1 + 76 * ((σ.i l2 0).toNatClampNeg) + 1 + 25 * l3.toNatClampNeg + 1 + l4.toNatClampNeg) (((l1 - (1 : Int32)) >>> ((6 : Int32) &&& 31)).toNatClampNeg)), .int ((l1 - (1 : Int32)) >>> ((6 : Int32) &&& 31)), .ref (55 + 1 + 76 * ((σ.i l2 0).toNatClampNeg) + 1 + 25 * l3.toNatClampNeg + 1 + l4.toNatClampNeg)]) (by decide +kernel) rfl rfl ?_
      refine ab_fin.s1i (i := .iconst 1) (k := 1) (pc' := 325) (n := 1) (by decide +kernel) rfl (by decide +kernel) rfl ?_
      refine ab_fin.s1 (i := .isub) (k := 1) (pc' := 326) (st' := [.int (l1 - (1 : Int32)), .long 1, .long (σ.l (55 + 1 + 76 * ((σ.i l2 0).toNatClampNeg) + 1 + 25 * l3.toNatClampNeg + 1 + l4.toNatClampNeg) (((l1 - (1 : Int32)) >>> ((6 : Int32) &&& 31)).toNatClampNeg)), .int ((l1 - (1 : Int32)) >>> ((6 : Int32) &&& 31)), .ref (55 + 1 + 76 * ((σ.i l2 0).toNatClampNeg) + 1 + 25 * l3.toNatClampNeg + 1 + l4.toNatClampNeg)]) (by decide +kernel) rfl rfl ?_
      refine ab_fin.s1 (i := .lshl) (k := 1) (pc' := 327) (st' := [.long ((1 : Int64) <<< (Int32.toInt64 (l1 - (1 : Int32)) &&& 63)), .long (σ.l (55 + 1 + 76 * ((σ.i l2 0).toNatClampNeg) + 1 + 25 * l3.toNatClampNeg + 1 + l4.toNatClampNeg) (((l1 - (1 : Int32)) >>> ((6 : Int32) &&& 31)).toNatClampNeg)), .int ((l1 - (1 : Int32)) >>> ((6 : Int32) &&& 31)), .ref (55 + 1 + 76 * ((σ.i l2 0).toNatClampNeg) + 1 + 25 * l3.toNatClampNeg + 1 + l4.toNatClampNeg)]) (by decide +kernel) rfl rfl ?_
      refine ab_fin.s1 (i := .lor) (k := 1) (pc' := 328) (st' := [.long ((σ.l (55 + 1 + 76 * ((σ.i l2 0).toNatClampNeg) + 1 + 25 * l3.toNatClampNeg + 1 + l4.toNatClampNeg) (((l1 - (1 : Int32)) >>> ((6 : Int32) &&& 31)).toNatClampNeg)) ||| ((1 : Int64) <<< (Int32.toInt64 (l1 - (1 : Int32)) &&& 63))), .int ((l1 - (1 : Int32)) >>> ((6 : Int32) &&& 31)), .ref (55 + 1 + 76 * ((σ.i l2 0).toNatClampNeg) + 1 + 25 * l3.toNatClampNeg + 1 + l4.toNatClampNeg)]) (by decide +kernel) rfl rfl ?_
      obtain ⟨e8, w⟩ := w
      refine ab_fin.q_sL (h1 := conc (σ.wl (55 + 1 + 76 * ((σ.i l2 0).toNatClampNeg) + 1 + 25 * l3.toNatClampNeg + 1 + l4.toNatClampNeg) (((l1 - (1 : Int32)) >>> ((6 : Int32) &&& 31)).toNatClampNeg) ((σ.l (55 + 1 + 76 * ((σ.i l2 0).toNatClampNeg) + 1 + 25 * l3.toNatClampNeg + 1 + l4.toNatClampNeg) (((l1 - (1 : Int32)) >>> ((6 : Int32) &&& 31)).toNatClampNeg)) ||| ((1 : Int64) <<< (Int32.toInt64 (l1 - (1 : Int32)) &&& 63))))) (pc' := 329) (by decide +kernel) (c_sL' (F.s (kE_fit2 e4.2 e5.2 e6.2)) e8 rfl) rfl ?_
      refine ab_fin.q_inc (n := 4) (c := 1) (pc' := 332) (lv' := [(4, .int (l4 + 1)), (0, .ref 0), (1, .int l1), (2, .ref l2), (3, .int l3)]) (by decide +kernel) (by decide) rfl rfl rfl rfl ?_
      refine ab_fin.s3 (i := .goto (-58)) (k := 3) (t := 274) (st' := []) (by decide +kernel) (ab_gto (by decide +kernel)) ?_
      exact ab_fin.lv ⟨(List.forall_mem_cons.mpr ⟨(List.Mem.tail _ (List.Mem.head _)), (List.forall_mem_cons.mpr ⟨(List.Mem.tail _ (List.Mem.tail _ (List.Mem.head _))), (List.forall_mem_cons.mpr ⟨(List.Mem.tail _ (List.Mem.tail _ (List.Mem.tail _ (List.Mem.head _)))), (List.forall_mem_cons.mpr ⟨(List.Mem.tail _ (List.Mem.tail _ (List.Mem.tail _ (List.Mem.tail _ (List.Mem.head _))))), (List.forall_mem_cons.mpr ⟨(List.Mem.head _), (fun _ h => absurd h List.not_mem_nil)⟩)⟩)⟩)⟩)⟩), (show ([4, 0, 1, 2, 3] : List Nat).Nodup from by decide)⟩ w
theorem S_X23_rebuild_349 {Z : zT} {d : Nat} {σ : Sg} {l1 : Int32} {K : kS} (F : FX ΦR σ.sh σ.r) (w : ((σ.i 0 5) ≤ l1 → B_X23_forget_0 Z d σ  (yN K fun τ1 => K (.inl none) τ1)) ∧ (¬ (σ.i 0 5) ≤ l1 → B_X23_rebuild_359 Z (d + 1) σ l1 0 K)) : B_X23_rebuild_349 Z (d + 1) σ l1 K := by
  unfold B_X23_rebuild_349
  refine ab_fin.s2 (i := .iload_n 1) (k := 1) (pc' := 350) (lv' := [(0, .ref 0), (1, .int l1)]) (st' := [.int l1]) (by decide +kernel) rfl rfl ?_
  refine ab_fin.s2 (i := .aload_n 0) (k := 1) (pc' := 351) (lv' := [(0, .ref 0), (1, .int l1)]) (st' := [.ref 0, .int l1]) (by decide +kernel) rfl rfl ?_
  refine ab_fin.q_rI (x := (σ.i 0 5)) (ix := 31) (ci := 24) (k := 5) (pc' := 354) (by decide +kernel) rfl (c_rI (F.s s0_0) rfl) rfl ?_
  refine ab_fin.br (c := (σ.i 0 5) ≤ l1) (i := .if_icmp .ge 112) (off := 112) (t := 466) (pc' := 357) (r := []) (by decide +kernel) rfl (by decide +kernel) rfl (fun q => ?_) (fun q => ?_)
  · replace w := w.1 q
    refine ab_fin.s2 (i := .aload_n 0) (k := 1) (pc' := 467) (lv' := [(0, .ref 0), (1, .int l1)]) (st' := [.ref 0]) (by decide +kernel) rfl rfl ?_
    refine ab_fin.q_yN (i := .invokevirtual 520) (k := 3) (y := 5949) (As := [.ref 0]) (rest := []) (M' := (mX23_forget, [])) (lv2 := [(0, .ref 0)]) (pc' := 470) (X := K) (by decide +kernel) (ab_cv rfl rfl (conc_get (σ := σ) (F.s s0_0)) ⟨(Nat.le_of_ble_eq_true rfl), (Nat.le_of_ble_eq_true rfl)⟩ rfl) rfl (Nat.le_of_ble_eq_true rfl) rfl rfl (hY_no fun E => rfl) w (fun τ1 F2 w => ?_)
    exact ab_fin.q_ret (i := .return_) (k := 1) (v := none) (by decide +kernel) rfl F2 w
  · replace w := w.2 q
    refine ab_fin.s1i (i := .iconst 0) (k := 1) (pc' := 358) (n := 0) (by decide +kernel) rfl (by decide +kernel) rfl ?_
    refine ab_fin.s2 (i := .istore_n 2) (k := 1) (pc' := 359) (lv' := [(2, .int 0), (0, .ref 0), (1, .int l1)]) (st' := []) (by decide +kernel) rfl rfl ?_
    exact ab_fin.lv ⟨(List.forall_mem_cons.mpr ⟨(List.Mem.tail _ (List.Mem.head _)), (List.forall_mem_cons.mpr ⟨(List.Mem.tail _ (List.Mem.tail _ (List.Mem.head _))), (List.forall_mem_cons.mpr ⟨(List.Mem.head _), (fun _ h => absurd h List.not_mem_nil)⟩)⟩)⟩), (show ([2, 0, 1] : List Nat).Nodup from by decide)⟩ w
theorem S_X23_rebuild_359 {Z : zT} {d : Nat} {σ : Sg} {l1 : Int32} {l2 : Int32} {K : kS} (F : FX ΦR σ.sh σ.r) (w : (3 ≤ l2 → B_X23_rebuild_349 Z (d + 1) σ (l1 + 1) K) ∧ (¬ 3 ≤ l2 → ib l1 24 ∧ (ib l2 3 ∧ (ib l1 24 ∧ (ib l2 3 ∧ (B_X23_rebuild_384 Z (d + 1) ((σ.wl (2071 + 1 + l1.toNatClampNeg) l2.toNatClampNeg (0 : Int64)).wl (2096 + 1 + l1.toNatClampNeg) l2.toNatClampNeg (0 : Int64)) l1 l2 0 K)))))) : B_X23_rebuild_359 Z (d + 1) σ l1 l2 K := by
  unfold B_X23_rebuild_359
  refine ab_fin.s2 (i := .iload_n 2) (k := 1) (pc' := 360) (lv' := [(0, .ref 0), (1, .int l1), (2, .int l2)]) (st' := [.int l2]) (by decide +kernel) rfl rfl ?_
  refine ab_fin.s1i (i := .iconst 3) (k := 1) (pc' := 361) (n := 3) (by decide +kernel) rfl (by decide +kernel) rfl ?_
  refine ab_fin.br (c := 3 ≤ l2) (i := .if_icmp .ge 99) (off := 99) (t := 460) (pc' := 364) (r := []) (by decide +kernel) rfl (by decide +kernel) rfl (fun q => ?_) (fun q => ?_)
  · replace w := w.1 q
    refine ab_fin.q_inc (n := 1) (c := 1) (pc' := 463) (lv' := [(1, .int (l1 + 1)), (0, .ref 0), (2, .int l2)]) (by decide +kernel) (by decide) rfl rfl rfl rfl ?_
    refine ab_fin.s3 (i := .goto (-114)) (k := 3) (t := 349) (st' := []) (by decide +kernel) (ab_gto (by decide +kernel)) ?_
    exact ab_fin.lv ⟨(List.forall_mem_cons.mpr ⟨(List.Mem.tail _ (List.Mem.head _)), (List.forall_mem_cons.mpr ⟨(List.Mem.head _), (fun _ h => absurd h List.not_mem_nil)⟩)⟩), (show ([1, 0, 2] : List Nat).Nodup from by decide)⟩ w
  · replace w := w.2 q
    refine ab_fin.s2 (i := .aload_n 0) (k := 1) (pc' := 365) (lv' := [(0, .ref 0), (1, .int l1), (2, .int l2)]) (st' := [.ref 0]) (by decide +kernel) rfl rfl ?_
    refine ab_fin.q_rA (b := 2071) (ix := 514) (ci := 24) (k := 57) (pc' := 368) (by decide +kernel) rfl (c_rA (F.s s0_0) rfl (rM_57 F)) rfl ?_
    refine ab_fin.s2 (i := .iload_n 1) (k := 1) (pc' := 369) (lv' := [(0, .ref 0), (1, .int l1), (2, .int l2)]) (st' := [.int l1, .ref 2071]) (by decide +kernel) rfl rfl ?_
    obtain ⟨e1, w⟩ := w
    refine ab_fin.q_eA (b := (2071 + 1 + l1.toNatClampNeg)) (pc' := 370) (by decide +kernel) (c_eA' (F.s s0_2071) (by decide) rfl e1 rfl (rE_11 F s0_2071)) rfl ?_
    refine ab_fin.s2 (i := .iload_n 2) (k := 1) (pc' := 371) (lv' := [(0, .ref 0), (1, .int l1), (2, .int l2)]) (st' := [.int l2, .ref (2071 + 1 + l1.toNatClampNeg)]) (by decide +kernel) rfl rfl ?_
    refine ab_fin.s1l (i := .lconst 0) (k := 1) (pc' := 372) (n := 0) (by decide +kernel) rfl (by decide +kernel) rfl ?_
    obtain ⟨e2, w⟩ := w
    refine ab_fin.q_sL (h1 := conc (σ.wl (2071 + 1 + l1.toNatClampNeg) l2.toNatClampNeg (0 : Int64))) (pc' := 373) (by decide +kernel) (c_sL' (F.s (kE_2071 e1.2)) e2 rfl) rfl ?_
    refine ab_fin.s2 (i := .aload_n 0) (k := 1) (pc' := 374) (lv' := [(0, .ref 0), (1, .int l1), (2, .int l2)]) (st' := [.ref 0]) (by decide +kernel) rfl rfl ?_
    refine ab_fin.q_rA (b := 2096) (ix := 517) (ci := 24) (k := 58) (pc' := 377) (by decide +kernel) rfl (c_rA (F.s s0_0) rfl (rM_58 F)) rfl ?_
    refine ab_fin.s2 (i := .iload_n 1) (k := 1) (pc' := 378) (lv' := [(0, .ref 0), (1, .int l1), (2, .int l2)]) (st' := [.int l1, .ref 2096]) (by decide +kernel) rfl rfl ?_
    obtain ⟨e3, w⟩ := w
    refine ab_fin.q_eA (b := (2096 + 1 + l1.toNatClampNeg)) (pc' := 379) (by decide +kernel) (c_eA' (F.s s0_2096) (by decide) rfl e3 rfl (rE_11 F s0_2096)) rfl ?_
    refine ab_fin.s2 (i := .iload_n 2) (k := 1) (pc' := 380) (lv' := [(0, .ref 0), (1, .int l1), (2, .int l2)]) (st' := [.int l2, .ref (2096 + 1 + l1.toNatClampNeg)]) (by decide +kernel) rfl rfl ?_
    refine ab_fin.s1l (i := .lconst 0) (k := 1) (pc' := 381) (n := 0) (by decide +kernel) rfl (by decide +kernel) rfl ?_
    obtain ⟨e4, w⟩ := w
    refine ab_fin.q_sL (h1 := conc ((σ.wl (2071 + 1 + l1.toNatClampNeg) l2.toNatClampNeg (0 : Int64)).wl (2096 + 1 + l1.toNatClampNeg) l2.toNatClampNeg (0 : Int64))) (pc' := 382) (by decide +kernel) (c_sL' (F.s (kE_2096 e3.2)) e4 rfl) rfl ?_
    refine ab_fin.s1i (i := .iconst 0) (k := 1) (pc' := 383) (n := 0) (by decide +kernel) rfl (by decide +kernel) rfl ?_
    refine ab_fin.s2 (i := .istore_n 3) (k := 1) (pc' := 384) (lv' := [(3, .int 0), (0, .ref 0), (1, .int l1), (2, .int l2)]) (st' := []) (by decide +kernel) rfl rfl ?_
    exact ab_fin.lv ⟨(List.forall_mem_cons.mpr ⟨(List.Mem.tail _ (List.Mem.head _)), (List.forall_mem_cons.mpr ⟨(List.Mem.tail _ (List.Mem.tail _ (List.Mem.head _))), (List.forall_mem_cons.mpr ⟨(List.Mem.tail _ (List.Mem.tail _ (List.Mem.tail _ (List.Mem.head _)))), (List.forall_mem_cons.mpr ⟨(List.Mem.head _), (fun _ h => absurd h List.not_mem_nil)⟩)⟩)⟩)⟩), (show ([3, 0, 1, 2] : List Nat).Nodup from by decide)⟩ w
theorem S_X23_rebuild_384 {Z : zT} {d : Nat} {σ : Sg} {l1 : Int32} {l2 : Int32} {l3 : Int32} {K : kS} (F : FX ΦR σ.sh σ.r) (w : ((σ.i 0 41) ≤ l3 → B_X23_rebuild_359 Z (d + 1) σ l1 (l2 + 1) K) ∧ (¬ (σ.i 0 41) ≤ l3 → ib l1 24 ∧ (ib l2 3 ∧ (ib l1 24 ∧ (ib l2 3 ∧ (ib l3 24 ∧ (ib (σ.i 1932 l3.toNatClampNeg) 24 ∧ (ib l2 3 ∧ (ib l1 24 ∧ (ib l2 3 ∧ (ib l1 24 ∧ (ib l2 3 ∧ (ib l3 24 ∧ (ib (σ.i 1932 l3.toNatClampNeg) 24 ∧ (ib l2 3 ∧ (B_X23_rebuild_384 Z (d + 1) ((σ.wl (2071 + 1 + l1.toNatClampNeg) l2.toNatClampNeg ((σ.l (2071 + 1 + l1.toNatClampNeg) l2.toNatClampNeg) ||| (σ.l (55 + 1 + 76 * l1.toNatClampNeg + 1 + 25 * l2.toNatClampNeg + 1 + ((σ.i 1932 l3.toNatClampNeg).toNatClampNeg)) 0))).wl (2096 + 1 + l1.toNatClampNeg) l2.toNatClampNeg (((σ.wl (2071 + 1 + l1.toNatClampNeg) l2.toNatClampNeg ((σ.l (2071 + 1 + l1.toNatClampNeg) l2.toNatClampNeg) ||| (σ.l (55 + 1 + 76 * l1.toNatClampNeg + 1 + 25 * l2.toNatClampNeg + 1 + ((σ.i 1932 l3.toNatClampNeg).toNatClampNeg)) 0))).l (2096 + 1 + l1.toNatClampNeg) l2.toNatClampNeg) ||| ((σ.wl (2071 + 1 + l1.toNatClampNeg) l2.toNatClampNeg ((σ.l (2071 + 1 + l1.toNatClampNeg) l2.toNatClampNeg) ||| (σ.l (55 + 1 + 76 * l1.toNatClampNeg + 1 + 25 * l2.toNatClampNeg + 1 + ((σ.i 1932 l3.toNatClampNeg).toNatClampNeg)) 0))).l (55 + 1 + 76 * l1.toNatClampNeg + 1 + 25 * l2.toNatClampNeg + 1 + ((σ.i 1932 l3.toNatClampNeg).toNatClampNeg)) 1))) l1 l2 (l3 + 1) K)))))))))))))))) : B_X23_rebuild_384 Z (d + 1) σ l1 l2 l3 K := by
  unfold B_X23_rebuild_384
  refine ab_fin.s2 (i := .iload_n 3) (k := 1) (pc' := 385) (lv' := [(0, .ref 0), (1, .int l1), (2, .int l2), (3, .int l3)]) (st' := [.int l3]) (by decide +kernel) rfl rfl ?_
  refine ab_fin.s2 (i := .aload_n 0) (k := 1) (pc' := 386) (lv' := [(0, .ref 0), (1, .int l1), (2, .int l2), (3, .int l3)]) (st' := [.ref 0, .int l3]) (by decide +kernel) rfl rfl ?_
  refine ab_fin.q_rI (x := (σ.i 0 41)) (ix := 487) (ci := 24) (k := 41) (pc' := 389) (by decide +kernel) rfl (c_rI (F.s s0_0) rfl) rfl ?_
  refine ab_fin.br (c := (σ.i 0 41) ≤ l3) (i := .if_icmp .ge 65) (off := 65) (t := 454) (pc' := 392) (r := []) (by decide +kernel) rfl (by decide +kernel) rfl (fun q => ?_) (fun q => ?_)
  · replace w := w.1 q
    refine ab_fin.q_inc (n := 2) (c := 1) (pc' := 457) (lv' := [(2, .int (l2 + 1)), (0, .ref 0), (1, .int l1), (3, .int l3)]) (by decide +kernel) (by decide) rfl rfl rfl rfl ?_
    refine ab_fin.s3 (i := .goto (-98)) (k := 3) (t := 359) (st' := []) (by decide +kernel) (ab_gto (by decide +kernel)) ?_
    exact ab_fin.lv ⟨(List.forall_mem_cons.mpr ⟨(List.Mem.tail _ (List.Mem.head _)), (List.forall_mem_cons.mpr ⟨(List.Mem.tail _ (List.Mem.tail _ (List.Mem.head _))), (List.forall_mem_cons.mpr ⟨(List.Mem.head _), (fun _ h => absurd h List.not_mem_nil)⟩)⟩)⟩), (show ([2, 0, 1, 3] : List Nat).Nodup from by decide)⟩ w
  · replace w := w.2 q
    refine ab_fin.s2 (i := .aload_n 0) (k := 1) (pc' := 393) (lv' := [(0, .ref 0), (1, .int l1), (2, .int l2), (3, .int l3)]) (st' := [.ref 0]) (by decide +kernel) rfl rfl ?_
    refine ab_fin.q_rA (b := 2071) (ix := 514) (ci := 24) (k := 57) (pc' := 396) (by decide +kernel) rfl (c_rA (F.s s0_0) rfl (rM_57 F)) rfl ?_
    refine ab_fin.s2 (i := .iload_n 1) (k := 1) (pc' := 397) (lv' := [(0, .ref 0), (1, .int l1), (2, .int l2), (3, .int l3)]) (st' := [.int l1, .ref 2071]) (by decide +kernel) rfl rfl ?_
    obtain ⟨e1, w⟩ := w
    refine ab_fin.q_eA (b := (2071 + 1 + l1.toNatClampNeg)) (pc' := 398) (by decide +kernel) (c_eA' (F.s s0_2071) (by decide) rfl e1 rfl (rE_11 F s0_2071)) rfl ?_
    refine ab_fin.s2 (i := .iload_n 2) (k := 1) (pc' := 399) (lv' := [(0, .ref 0), (1, .int l1), (2, .int l2), (3, .int l3)]) (st' := [.int l2, .ref (2071 + 1 + l1.toNatClampNeg)]) (by decide +kernel) rfl rfl ?_
    refine ab_fin.s1 (i := .dup2) (k := 1) (pc' := 400) (st' := [.int l2, .ref (2071 + 1 + l1.toNatClampNeg), .int l2, .ref (2071 + 1 + l1.toNatClampNeg)]) (by decide +kernel) rfl rfl ?_
    obtain ⟨e2, w⟩ := w
    refine ab_fin.q_eL (x := (σ.l (2071 + 1 + l1.toNatClampNeg) l2.toNatClampNeg)) (pc' := 401) (by decide +kernel) (c_eL' (F.s (kE_2071 e1.2)) e2 rfl) rfl ?_
    refine ab_fin.s2 (i := .aload_n 0) (k := 1) (pc' := 402) (lv' := [(0, .ref 0), (1, .int l1), (2, .int l2), (3, .int l3)]) (st' := [.ref 0, .long (σ.l (2071 + 1 + l1.toNatClampNeg) l2.toNatClampNeg), .int l2, .ref (2071 + 1 + l1.toNatClampNeg)]) (by decide +kernel) rfl rfl ?_
    refine ab_fin.q_rA (b := 55) (ix := 510) (ci := 24) (k := 35) (pc' := 405) (by decide +kernel) rfl (c_rA (F.s s0_0) rfl (rM_35 F)) rfl ?_
    refine ab_fin.s2 (i := .iload_n 1) (k := 1) (pc' := 406) (lv' := [(0, .ref 0), (1, .int l1), (2, .int l2), (3, .int l3)]) (st' := [.int l1, .ref 55, .long (σ.l (2071 + 1 + l1.toNatClampNeg) l2.toNatClampNeg), .int l2, .ref (2071 + 1 + l1.toNatClampNeg)]) (by decide +kernel) rfl rfl ?_
    obtain ⟨e3, w⟩ := w
    refine ab_fin.q_eA (b := (55 + 1 + 76 * l1.toNatClampNeg)) (pc' := 407) (by decide +kernel) (c_eA' (F.s s0_55) (by decide) rfl e3 rfl (rE_9 F s0_55)) rfl ?_
    refine ab_fin.s2 (i := .iload_n 2) (k := 1) (pc' := 408) (lv' := [(0, .ref 0), (1, .int l1), (2, .int l2), (3, .int l3)]) (st' := [.int l2, .ref (55 + 1 + 76 * l1.toNatClampNeg), .long (σ.l (2071 + 1 + l1.toNatClampNeg) l2.toNatClampNeg), .int l2, .ref (2071 + 1 + l1.toNatClampNeg)]) (by decide +kernel) rfl rfl ?_
    obtain ⟨e4, w⟩ := w
    refine ab_fin.q_eA (b := (55 + 1 + 76 * l1.toNatClampNeg + 1 + 25 * l2.toNatClampNeg)) (pc' := 409) (by decide +kernel) (c_eA' (F.s (kE_55 e3.2)) (by decide) rfl e4 rfl (rE_10 F (kE_55 e3.2))) rfl ?_
    refine ab_fin.s2 (i := .aload_n 0) (k := 1) (pc' := 410) (lv' := [(0, .ref 0), (1, .int l1), (2, .int l2), (3, .int l3)]) (st' := [.ref 0, .ref (55 + 1 + 76 * l1.toNatClampNeg + 1 + 25 * l2.toNatClampNeg), .long (σ.l (2071 + 1 + l1.toNatClampNeg) l2.toNatClampNeg), .int l2, .ref (2071 + 1 + l1.toNatClampNeg)]) (by decide +kernel) rfl rfl ?_
    refine ab_fin.q_rA (b := 1932) (ix := 497) (ci := 24) (k := 40) (pc' := 413) (by decide +kernel) rfl (c_rA (F.s s0_0) rfl (rM_40 F)) rfl ?_
    refine ab_fin.s2 (i := .iload_n 3) (k := 1) (pc' := 414) (lv' := [(0, .ref 0), (1, .int l1), (2, .int l2), (3, .int l3)]) (st' := [.int l3, .ref 1932, .ref (55 + 1 + 76 * l1.toNatClampNeg + 1 + 25 * l2.toNatClampNeg), .long (σ.l (2071 + 1 + l1.toNatClampNeg) l2.toNatClampNeg), .int l2, .ref (2071 + 1 + l1.toNatClampNeg)]) (by decide +kernel) rfl rfl ?_
    obtain ⟨e5, w⟩ := w
    refine ab_fin.q_eI (x := (σ.i 1932 l3.toNatClampNeg)) (pc' := 415) (by decide +kernel) (c_eI' (F.s s0_1932) e5 rfl) rfl ?_
    obtain ⟨e6, w⟩ := w
    refine ab_fin.q_eA (b := (55 + 1 + 76 * l1.toNatClampNeg + 1 + 25 * l2.toNatClampNeg + 1 + ((σ.i 1932 l3.toNatClampNeg).toNatClampNeg))) (pc' := 416) (by decide +kernel) (c_eA' (F.s (kE_fit1 e3.2 e4.2)) (by decide) rfl e6 rfl (rE_11 F (kE_fit1 e3.2 e4.2))) rfl ?_
    refine ab_fin.s1i (i := .iconst 0) (k := 1) (pc' := 417) (n := 0) (by decide +kernel) rfl (by decide +kernel) rfl ?_
    refine ab_fin.q_eL (x := (σ.l (55 + 1 + 76 * l1.toNatClampNeg + 1 + 25 * l2.toNatClampNeg + 1 + ((σ.i 1932 l3.toNatClampNeg).toNatClampNeg)) 0)) (pc' := 418) (by decide +kernel) (c_eL' (F.s (kE_fit2 e3.2 e4.2 e6.2)) (show ib (0 : Int32) 2 by decide +kernel) (by decide +kernel)) rfl ?_
    refine ab_fin.s1 (i := .lor) (k := 1) (pc' := 419) (st' := [.long ((σ.l (2071 + 1 + l1.toNatClampNeg) l2.toNatClampNeg) ||| (σ.l (55 + 1 + 76 * l1.toNatClampNeg + 1 + 25 * l2.toNatClampNeg + 1 + ((σ.i 1932 l3.toNatClampNeg).toNatClampNeg)) 0)), .int l2, .ref (2071 + 1 + l1.toNatClampNeg)]) (by decide +kernel) rfl rfl ?_
    obtain ⟨e7, w⟩ := w
    refine ab_fin.q_sL (h1 := conc (σ.wl (2071 + 1 + l1.toNatClampNeg) l2.toNatClampNeg ((σ.l (2071 + 1 + l1.toNatClampNeg) l2.toNatClampNeg) ||| (σ.l (55 + 1 + 76 * l1.toNatClampNeg + 1 + 25 * l2.toNatClampNeg + 1 + ((σ.i 1932 l3.toNatClampNeg).toNatClampNeg)) 0)))) (pc' := 420) (by decide +kernel) (c_sL' (F.s (kE_2071 e1.2)) e7 rfl) rfl ?_
    refine ab_fin.s2 (i := .aload_n 0) (k := 1) (pc' := 421) (lv' := [(0, .ref 0), (1, .int l1), (2, .int l2), (3, .int l3)]) (st' := [.ref 0]) (by decide +kernel) rfl rfl ?_
    refine ab_fin.q_rA (b := 2096) (ix := 517) (ci := 24) (k := 58) (pc' := 424) (by decide +kernel) rfl (c_rA (F.s s0_0) rfl (rM_58 F)) rfl ?_
    refine ab_fin.s2 (i := .iload_n 1) (k := 1) (pc' := 425) (lv' := [(0, .ref 0), (1, .int l1), (2, .int l2), (3, .int l3)]) (st' := [.int l1, .ref 2096]) (by decide +kernel) rfl rfl ?_
    obtain ⟨e8, w⟩ := w
    refine ab_fin.q_eA (b := (2096 + 1 + l1.toNatClampNeg)) (pc' := 426) (by decide +kernel) (c_eA' (F.s s0_2096) (by decide) rfl e8 rfl (rE_11 F s0_2096)) rfl ?_
    refine ab_fin.s2 (i := .iload_n 2) (k := 1) (pc' := 427) (lv' := [(0, .ref 0), (1, .int l1), (2, .int l2), (3, .int l3)]) (st' := [.int l2, .ref (2096 + 1 + l1.toNatClampNeg)]) (by decide +kernel) rfl rfl ?_
    refine ab_fin.s1 (i := .dup2) (k := 1) (pc' := 428) (st' := [.int l2, .ref (2096 + 1 + l1.toNatClampNeg), .int l2, .ref (2096 + 1 + l1.toNatClampNeg)]) (by decide +kernel) rfl rfl ?_
    obtain ⟨e9, w⟩ := w
    refine ab_fin.q_eL (x := ((σ.wl (2071 + 1 + l1.toNatClampNeg) l2.toNatClampNeg ((σ.l (2071 + 1 + l1.toNatClampNeg) l2.toNatClampNeg) ||| (σ.l (55 + 1 + 76 * l1.toNatClampNeg + 1 + 25 * l2.toNatClampNeg + 1 + ((σ.i 1932 l3.toNatClampNeg).toNatClampNeg)) 0))).l (2096 + 1 + l1.toNatClampNeg) l2.toNatClampNeg)) (pc' := 429) (by decide +kernel) (c_eL' (F.s (kE_2096 e8.2)) e9 rfl) rfl ?_
    refine ab_fin.s2 (i := .aload_n 0) (k := 1) (pc' := 430) (lv' := [(0, .ref 0), (1, .int l1), (2, .int l2), (3, .int l3)]) (st' := [.ref 0, .long ((σ.wl (2071 + 1 + l1.toNatClampNeg) l2.toNatClampNeg ((σ.l (2071 + 1 + l1.toNatClampNeg) l2.toNatClampNeg) ||| (σ.l (55 + 1 + 76 * l1.toNatClampNeg + 1 + 25 * l2.toNatClampNeg + 1 + ((σ.i 1932 l3.toNatClampNeg).toNatClampNeg)) 0))).l (2096 + 1 + l1.toNatClampNeg) l2.toNatClampNeg), .int l2, .ref (2096 + 1 + l1.toNatClampNeg)]) (by decide +kernel) rfl rfl ?_
    refine ab_fin.q_rA (b := 55) (ix := 510) (ci := 24) (k := 35) (pc' := 433) (by decide +kernel) rfl (c_rA (F.s s0_0) rfl (rM_35 F)) rfl ?_
    refine ab_fin.s2 (i := .iload_n 1) (k := 1) (pc' := 434) (lv' := [(0, .ref 0), (1, .int l1), (2, .int l2), (3, .int l3)]) (st' := [.int l1, .ref 55, .long ((σ.wl (2071 + 1 + l1.toNatClampNeg) l2.toNatClampNeg ((σ.l (2071 + 1 + l1.toNatClampNeg) l2.toNatClampNeg) ||| (σ.l (55 + 1 + 76 * l1.toNatClampNeg + 1 + 25 * l2.toNatClampNeg + 1 + ((σ.i 1932 l3.toNatClampNeg).toNatClampNeg)) 0))).l (2096 + 1 + l1.toNatClampNeg) l2.toNatClampNeg), .int l2, .ref (2096 + 1 + l1.toNatClampNeg)]) (by decide +kernel) rfl rfl ?_
    obtain ⟨e10, w⟩ := w
    refine ab_fin.q_eA (b := (55 + 1 + 76 * l1.toNatClampNeg)) (pc' := 435) (by decide +kernel) (c_eA' (F.s s0_55) (by decide) rfl e10 rfl (rE_9 F s0_55)) rfl ?_
    refine ab_fin.s2 (i := .iload_n 2) (k := 1) (pc' := 436) (lv' := [(0, .ref 0), (1, .int l1), (2, .int l2), (3, .int l3)]) (st' := [.int l2, .ref (55 + 1 + 76 * l1.toNatClampNeg), .long ((σ.wl (2071 + 1 + l1.toNatClampNeg) l2.toNatClampNeg ((σ.l (2071 + 1 + l1.toNatClampNeg) l2.toNatClampNeg) ||| (σ.l (55 + 1 + 76 * l1.toNatClampNeg + 1 + 25 * l2.toNatClampNeg + 1 + ((σ.i 1932 l3.toNatClampNeg).toNatClampNeg)) 0))).l (2096 + 1 + l1.toNatClampNeg) l2.toNatClampNeg), .int l2, .ref (2096 + 1 + l1.toNatClampNeg)]) (by decide +kernel) rfl rfl ?_
    obtain ⟨e11, w⟩ := w
    refine ab_fin.q_eA (b := (55 + 1 + 76 * l1.toNatClampNeg + 1 + 25 * l2.toNatClampNeg)) (pc' := 437) (by decide +kernel) (c_eA' (F.s (kE_55 e10.2)) (by decide) rfl e11 rfl (rE_10 F (kE_55 e10.2))) rfl ?_
    refine ab_fin.s2 (i := .aload_n 0) (k := 1) (pc' := 438) (lv' := [(0, .ref 0), (1, .int l1), (2, .int l2), (3, .int l3)]) (st' := [.ref 0, .ref (55 + 1 + 76 * l1.toNatClampNeg + 1 + 25 * l2.toNatClampNeg), .long ((σ.wl (2071 + 1 + l1.toNatClampNeg) l2.toNatClampNeg ((σ.l (2071 + 1 + l1.toNatClampNeg) l2.toNatClampNeg) ||| (σ.l (55 + 1 + 76 * l1.toNatClampNeg + 1 + 25 * l2.toNatClampNeg + 1 + ((σ.i 1932 l3.toNatClampNeg).toNatClampNeg)) 0))).l (2096 + 1 + l1.toNatClampNeg) l2.toNatClampNeg), .int l2, .ref (2096 + 1 + l1.toNatClampNeg)]) (by decide +kernel) rfl rfl ?_
    refine ab_fin.q_rA (b := 1932) (ix := 497) (ci := 24) (k := 40) (pc' := 441) (by decide +kernel) rfl (c_rA (F.s s0_0) rfl (rM_40 F)) rfl ?_
    refine ab_fin.s2 (i := .iload_n 3) (k := 1) (pc' := 442) (lv' := [(0, .ref 0), (1, .int l1), (2, .int l2), (3, .int l3)]) (st' := [.int l3, .ref 1932, .ref (55 + 1 + 76 * l1.toNatClampNeg + 1 + 25 * l2.toNatClampNeg), .long ((σ.wl (2071 + 1 + l1.toNatClampNeg) l2.toNatClampNeg ((σ.l (2071 + 1 + l1.toNatClampNeg) l2.toNatClampNeg) ||| (σ.l (55 + 1 + 76 * l1.toNatClampNeg + 1 + 25 * l2.toNatClampNeg + 1 + ((σ.i 1932 l3.toNatClampNeg).toNatClampNeg)) 0))).l (2096 + 1 + l1.toNatClampNeg) l2.toNatClampNeg), .int l2, .ref (2096 + 1 + l1.toNatClampNeg)]) (by decide +kernel) rfl rfl ?_
    obtain ⟨e12, w⟩ := w
    refine ab_fin.q_eI (x := (σ.i 1932 l3.toNatClampNeg)) (pc' := 443) (by decide +kernel) (c_eI' (F.s s0_1932) e12 rfl) rfl ?_
    obtain ⟨e13, w⟩ := w
    refine ab_fin.q_eA (b := (55 + 1 + 76 * l1.toNatClampNeg + 1 + 25 * l2.toNatClampNeg + 1 + ((σ.i 1932 l3.toNatClampNeg).toNatClampNeg))) (pc' := 444) (by decide +kernel) (c_eA' (F.s (kE_fit1 e10.2 e11.2)) (by decide) rfl e13 rfl (rE_11 F (kE_fit1 e10.2 e11.2))) rfl ?_
    refine ab_fin.s1i (i := .iconst 1) (k := 1) (pc' := 445) (n := 1) (by decide +kernel) rfl (by decide +kernel) rfl ?_
    refine ab_fin.q_eL (x := ((σ.wl (2071 + 1 + l1.toNatClampNeg) l2.toNatClampNeg ((σ.l (2071 + 1 + l1.toNatClampNeg) l2.toNatClampNeg) ||| (σ.l (55 + 1 + 76 * l1.toNatClampNeg + 1 + 25 * l2.toNatClampNeg + 1 + ((σ.i 1932 l3.toNatClampNeg).toNatClampNeg)) 0))).l (55 + 1 + 76 * l1.toNatClampNeg + 1 + 25 * l2.toNatClampNeg + 1 + ((σ.i 1932 l3.toNatClampNeg).toNatClampNeg)) 1)) (pc' := 446) (by decide +kernel) (c_eL' (F.s (kE_fit2 e10.2 e11.2 e13.2)) (show ib (1 : Int32) 2 by decide +kernel) (by decide +kernel)) rfl ?_
    refine ab_fin.s1 (i := .lor) (k := 1) (pc' := 447) (st' := [.long (((σ.wl (2071 + 1 + l1.toNatClampNeg) l2.toNatClampNeg ((σ.l (2071 + 1 + l1.toNatClampNeg) l2.toNatClampNeg) ||| (σ.l (55 + 1 + 76 * l1.toNatClampNeg + 1 + 25 * l2.toNatClampNeg + 1 + ((σ.i 1932 l3.toNatClampNeg).toNatClampNeg)) 0))).l (2096 + 1 + l1.toNatClampNeg) l2.toNatClampNeg) ||| ((σ.wl (2071 + 1 + l1.toNatClampNeg) l2.toNatClampNeg ((σ.l (2071 + 1 + l1.toNatClampNeg) l2.toNatClampNeg) ||| (σ.l (55 + 1 + 76 * l1.toNatClampNeg + 1 + 25 * l2.toNatClampNeg + 1 + ((σ.i 1932 l3.toNatClampNeg).toNatClampNeg)) 0))).l (55 + 1 + 76 * l1.toNatClampNeg + 1 + 25 * l2.toNatClampNeg + 1 + ((σ.i 1932 l3.toNatClampNeg).toNatClampNeg)) 1)), .int l2, .ref (2096 + 1 + l1.toNatClampNeg)]) (by decide +kernel) rfl rfl ?_
    obtain ⟨e14, w⟩ := w
    refine ab_fin.q_sL (h1 := conc ((σ.wl (2071 + 1 + l1.toNatClampNeg) l2.toNatClampNeg ((σ.l (2071 + 1 + l1.toNatClampNeg) l2.toNatClampNeg) ||| (σ.l (55 + 1 + 76 * l1.toNatClampNeg + 1 + 25 * l2.toNatClampNeg + 1 + ((σ.i 1932 l3.toNatClampNeg).toNatClampNeg)) 0))).wl (2096 + 1 + l1.toNatClampNeg) l2.toNatClampNeg (((σ.wl (2071 + 1 + l1.toNatClampNeg) l2.toNatClampNeg ((σ.l (2071 + 1 + l1.toNatClampNeg) l2.toNatClampNeg) ||| (σ.l (55 + 1 + 76 * l1.toNatClampNeg + 1 + 25 * l2.toNatClampNeg + 1 + ((σ.i 1932 l3.toNatClampNeg).toNatClampNeg)) 0))).l (2096 + 1 + l1.toNatClampNeg) l2.toNatClampNeg) ||| ((σ.wl (2071 + 1 + l1.toNatClampNeg) l2.toNatClampNeg ((σ.l (2071 + 1 + l1.toNatClampNeg) l2.toNatClampNeg) ||| (σ.l (55 + 1 + 76 * l1.toNatClampNeg + 1 + 25 * l2.toNatClampNeg + 1 + ((σ.i 1932 l3.toNatClampNeg).toNatClampNeg)) 0))).l (55 + 1 + 76 * l1.toNatClampNeg + 1 + 25 * l2.toNatClampNeg + 1 + ((σ.i 1932 l3.toNatClampNeg).toNatClampNeg)) 1)))) (pc' := 448) (by decide +kernel) (c_sL' (F.s (kE_2096 e8.2)) e14 rfl) rfl ?_
    refine ab_fin.q_inc (n := 3) (c := 1) (pc' := 451) (lv' := [(3, .int (l3 + 1)), (0, .ref 0), (1, .int l1), (2, .int l2)]) (by decide +kernel) (by decide) rfl rfl rfl rfl ?_
    refine ab_fin.s3 (i := .goto (-67)) (k := 3) (t := 384) (st' := []) (by decide +kernel) (ab_gto (by decide +kernel)) ?_
    exact ab_fin.lv ⟨(List.forall_mem_cons.mpr ⟨(List.Mem.tail _ (List.Mem.head _)), (List.forall_mem_cons.mpr ⟨(List.Mem.tail _ (List.Mem.tail _ (List.Mem.head _))), (List.forall_mem_cons.mpr ⟨(List.Mem.tail _ (List.Mem.tail _ (List.Mem.tail _ (List.Mem.head _)))), (List.forall_mem_cons.mpr ⟨(List.Mem.head _), (fun _ h => absurd h List.not_mem_nil)⟩)⟩)⟩)⟩), (show ([3, 0, 1, 2] : List Nat).Nodup from by decide)⟩ w
theorem S_X23_fits_0 {Z : zT} {d : Nat} {σ : Sg} {l1 : Int32} {l2 : Nat} {K : kS} (F : FX ΦR σ.sh σ.r) (w : ib l1 121 ∧ (B_X23_fits_10 Z (d + 1) σ l2 (2497 + 4 * l1.toNatClampNeg) 0 K)) : B_X23_fits_0 Z (d + 1) σ l1 l2 K := by
  unfold B_X23_fits_0
  refine ab_fin.s2 (i := .aload_n 0) (k := 1) (pc' := 1) (lv' := [(0, .ref 0), (1, .int l1), (2, .ref l2)]) (st' := [.ref 0]) (by decide +kernel) rfl rfl ?_
  refine ab_fin.q_rA (b := 3) (ix := 315) (ci := 24) (k := 2) (pc' := 4) (by decide +kernel) rfl (c_rA (F.s s0_0) rfl (rM_2 F)) rfl ?_
  refine ab_fin.s2 (i := .iload_n 1) (k := 1) (pc' := 5) (lv' := [(0, .ref 0), (1, .int l1), (2, .ref l2)]) (st' := [.int l1, .ref 3]) (by decide +kernel) rfl rfl ?_
  obtain ⟨e1, w⟩ := w
  refine ab_fin.q_eA (b := (2497 + 4 * l1.toNatClampNeg)) (pc' := 6) (by decide +kernel) (c_eA' (F.s s0_3) (by decide) rfl e1 rfl (rE_6 F s0_3 (by decide))) rfl ?_
  refine ab_fin.s2 (i := .astore_n 3) (k := 1) (pc' := 7) (lv' := [(3, .ref (2497 + 4 * l1.toNatClampNeg)), (0, .ref 0), (1, .int l1), (2, .ref l2)]) (st' := []) (by decide +kernel) rfl rfl ?_
  refine ab_fin.s1i (i := .iconst 0) (k := 1) (pc' := 8) (n := 0) (by decide +kernel) rfl (by decide +kernel) rfl ?_
  refine ab_fin.s2 (i := .istore 4) (k := 2) (pc' := 10) (lv' := [(4, .int 0), (3, .ref (2497 + 4 * l1.toNatClampNeg)), (0, .ref 0), (1, .int l1), (2, .ref l2)]) (st' := []) (by decide +kernel) rfl rfl ?_
  exact ab_fin.lv ⟨(List.forall_mem_cons.mpr ⟨(List.Mem.tail _ (List.Mem.tail _ (List.Mem.head _))), (List.forall_mem_cons.mpr ⟨(List.Mem.tail _ (List.Mem.tail _ (List.Mem.tail _ (List.Mem.tail _ (List.Mem.head _))))), (List.forall_mem_cons.mpr ⟨(List.Mem.tail _ (List.Mem.head _)), (List.forall_mem_cons.mpr ⟨(List.Mem.head _), (fun _ h => absurd h List.not_mem_nil)⟩)⟩)⟩)⟩), (show ([4, 3, 0, 1, 2] : List Nat).Nodup from by decide)⟩ w
theorem S_X23_fits_10 {Z : zT} {d : Nat} {σ : Sg} {l2 : Nat} {l3 : Nat} {l4 : Int32} {K : kS} (F : FX ΦR σ.sh σ.r) (p_l3 : sh0R[l3]? = some (Sh.obj 19)) (w : ib (σ.i l3 0) 24 ∧ (((σ.i (2409 + 3 * ((σ.i l3 0).toNatClampNeg)) 1) ≤ l4 → K (.inl (some (.int 1))) σ) ∧ (¬ (σ.i (2409 + 3 * ((σ.i l3 0).toNatClampNeg)) 1) ≤ l4 → ∃ n3, σ.sh[l2]? = some (Sh.arr 0 n3) ∧ (ib l4 n3 ∧ (ib (σ.i l2 l4.toNatClampNeg) 24 ∧ (ib l4 3 ∧ (ib (σ.i (l3 + 1) l4.toNatClampNeg) 24 ∧ ((¬ (σ.i (1880 + 1 + ((σ.i l2 l4.toNatClampNeg).toNatClampNeg)) ((σ.i (l3 + 1) l4.toNatClampNeg).toNatClampNeg)) = 0 → B_X23_fits_10 Z (d + 1) σ l2 l3 (l4 + 1) K) ∧ ((σ.i (1880 + 1 + ((σ.i l2 l4.toNatClampNeg).toNatClampNeg)) ((σ.i (l3 + 1) l4.toNatClampNeg).toNatClampNeg)) = 0 → K (.inl (some (.int 0))) σ))))))))) : B_X23_fits_10 Z (d + 1) σ l2 l3 l4 K := by
  unfold B_X23_fits_10
  refine ab_fin.s2 (i := .iload 4) (k := 2) (pc' := 12) (lv' := [(0, .ref 0), (2, .ref l2), (3, .ref l3), (4, .int l4)]) (st' := [.int l4]) (by decide +kernel) rfl rfl ?_
  refine ab_fin.s2 (i := .aload_n 0) (k := 1) (pc' := 13) (lv' := [(0, .ref 0), (2, .ref l2), (3, .ref l3), (4, .int l4)]) (st' := [.ref 0, .int l4]) (by decide +kernel) rfl rfl ?_
  refine ab_fin.q_rA (b := 2) (ix := 34) (ci := 24) (k := 1) (pc' := 16) (by decide +kernel) rfl (c_rA (F.s s0_0) rfl (rM_1 F)) rfl ?_
  refine ab_fin.s2 (i := .aload_n 3) (k := 1) (pc' := 17) (lv' := [(0, .ref 0), (2, .ref l2), (3, .ref l3), (4, .int l4)]) (st' := [.ref l3, .ref 2, .int l4]) (by decide +kernel) rfl rfl ?_
  refine ab_fin.q_rI (x := (σ.i l3 0)) (ix := 323) (ci := 19) (k := 0) (pc' := 20) (by decide +kernel) rfl (c_rI (F.s p_l3) rfl) rfl ?_
  obtain ⟨e1, w⟩ := w
  refine ab_fin.q_eA (b := (2409 + 3 * ((σ.i l3 0).toNatClampNeg))) (pc' := 21) (by decide +kernel) (c_eA' (F.s s0_2) (by decide) rfl e1 rfl (rE_5 F s0_2)) rfl ?_
  refine ab_fin.q_rI (x := (σ.i (2409 + 3 * ((σ.i l3 0).toNatClampNeg)) 1)) (ix := 303) (ci := 14) (k := 1) (pc' := 24) (by decide +kernel) rfl (c_rI (F.s (kE_2 e1.2)) rfl) rfl ?_
  refine ab_fin.br (c := (σ.i (2409 + 3 * ((σ.i l3 0).toNatClampNeg)) 1) ≤ l4) (i := .if_icmp .ge 31) (off := 31) (t := 55) (pc' := 27) (r := []) (by decide +kernel) rfl (by decide +kernel) rfl (fun q => ?_) (fun q => ?_)
  · replace w := w.1 q
    refine ab_fin.s1i (i := .iconst 1) (k := 1) (pc' := 56) (n := 1) (by decide +kernel) rfl (by decide +kernel) rfl ?_
    exact ab_fin.q_ret (i := .ireturn) (k := 1) (v := some (.int 1)) (by decide +kernel) rfl F w
  · replace w := w.2 q
    refine ab_fin.s2 (i := .aload_n 0) (k := 1) (pc' := 28) (lv' := [(0, .ref 0), (2, .ref l2), (3, .ref l3), (4, .int l4)]) (st' := [.ref 0]) (by decide +kernel) rfl rfl ?_
    refine ab_fin.q_rA (b := 1880) (ix := 490) (ci := 24) (k := 36) (pc' := 31) (by decide +kernel) rfl (c_rA (F.s s0_0) rfl (rM_36 F)) rfl ?_
    refine ab_fin.s2 (i := .aload_n 2) (k := 1) (pc' := 32) (lv' := [(0, .ref 0), (2, .ref l2), (3, .ref l3), (4, .int l4)]) (st' := [.ref l2, .ref 1880]) (by decide +kernel) rfl rfl ?_
    refine ab_fin.s2 (i := .iload 4) (k := 2) (pc' := 34) (lv' := [(0, .ref 0), (2, .ref l2), (3, .ref l3), (4, .int l4)]) (st' := [.int l4, .ref l2, .ref 1880]) (by decide +kernel) rfl rfl ?_
    obtain ⟨n3, e2, w⟩ := w
    obtain ⟨e4, w⟩ := w
    refine ab_fin.q_eI (x := (σ.i l2 l4.toNatClampNeg)) (pc' := 35) (by decide +kernel) (c_eI' e2 e4 rfl) rfl ?_
    obtain ⟨e5, w⟩ := w
    refine ab_fin.q_eA (b := (1880 + 1 + ((σ.i l2 l4.toNatClampNeg).toNatClampNeg))) (pc' := 36) (by decide +kernel) (c_eA' (F.s s0_1880) (by decide) rfl e5 rfl (rE_12 F s0_1880)) rfl ?_
    refine ab_fin.s2 (i := .aload_n 3) (k := 1) (pc' := 37) (lv' := [(0, .ref 0), (2, .ref l2), (3, .ref l3), (4, .int l4)]) (st' := [.ref l3, .ref (1880 + 1 + ((σ.i l2 l4.toNatClampNeg).toNatClampNeg))]) (by decide +kernel) rfl rfl ?_
    refine ab_fin.q_rA (b := (l3 + 1)) (ix := 391) (ci := 19) (k := 5) (pc' := 40) (by decide +kernel) rfl (c_rA (F.s p_l3) rfl (rO_19_5 F p_l3)) rfl ?_
    refine ab_fin.s2 (i := .iload 4) (k := 2) (pc' := 42) (lv' := [(0, .ref 0), (2, .ref l2), (3, .ref l3), (4, .int l4)]) (st' := [.int l4, .ref (l3 + 1), .ref (1880 + 1 + ((σ.i l2 l4.toNatClampNeg).toNatClampNeg))]) (by decide +kernel) rfl rfl ?_
    obtain ⟨e6, w⟩ := w
    refine ab_fin.q_eI (x := (σ.i (l3 + 1) l4.toNatClampNeg)) (pc' := 43) (by decide +kernel) (c_eI' (F.s (kF_19_1 p_l3)) e6 rfl) rfl ?_
    obtain ⟨e7, w⟩ := w
    refine ab_fin.q_eB (x := (σ.i (1880 + 1 + ((σ.i l2 l4.toNatClampNeg).toNatClampNeg)) ((σ.i (l3 + 1) l4.toNatClampNeg).toNatClampNeg))) (pc' := 44) (by decide +kernel) (c_eB3' (F.s (kE_1880 e5.2)) e7 rfl) rfl ?_
    refine ab_fin.br (c := ¬ (σ.i (1880 + 1 + ((σ.i l2 l4.toNatClampNeg).toNatClampNeg)) ((σ.i (l3 + 1) l4.toNatClampNeg).toNatClampNeg)) = 0) (i := .ifCond .ne 5) (off := 5) (t := 49) (pc' := 47) (r := []) (by decide +kernel) rfl (by decide +kernel) rfl (fun q => ?_) (fun q => ?_)
    · replace w := w.1 q
      refine ab_fin.q_inc (n := 4) (c := 1) (pc' := 52) (lv' := [(4, .int (l4 + 1)), (0, .ref 0), (2, .ref l2), (3, .ref l3)]) (by decide +kernel) (by decide) rfl rfl rfl rfl ?_
      refine ab_fin.s3 (i := .goto (-42)) (k := 3) (t := 10) (st' := []) (by decide +kernel) (ab_gto (by decide +kernel)) ?_
      exact ab_fin.lv ⟨(List.forall_mem_cons.mpr ⟨(List.Mem.tail _ (List.Mem.head _)), (List.forall_mem_cons.mpr ⟨(List.Mem.tail _ (List.Mem.tail _ (List.Mem.head _))), (List.forall_mem_cons.mpr ⟨(List.Mem.tail _ (List.Mem.tail _ (List.Mem.tail _ (List.Mem.head _)))), (List.forall_mem_cons.mpr ⟨(List.Mem.head _), (fun _ h => absurd h List.not_mem_nil)⟩)⟩)⟩)⟩), (show ([4, 0, 2, 3] : List Nat).Nodup from by decide)⟩ w
    · replace w := w.2 (Decidable.of_not_not q)
      refine ab_fin.s1i (i := .iconst 0) (k := 1) (pc' := 48) (n := 0) (by decide +kernel) rfl (by decide +kernel) rfl ?_
      exact ab_fin.q_ret (i := .ireturn) (k := 1) (v := some (.int 0)) (by decide +kernel) rfl F w
theorem S_X23_atom_0 {Z : zT} {d : Nat} {σ : Sg} {l1 : Int32} {l2 : Int32} {l3 : Int64} {K : kS} (F : FX ΦR σ.sh σ.r) (w : ib (σ.i 0 47) 128 ∧ (ib (σ.i 0 47) 128 ∧ (ib (σ.i 0 47) 128 ∧ (K (.inl none) ((((σ.wi 1933 ((σ.i 0 47).toNatClampNeg) l1).wi 1934 ((σ.i 0 47).toNatClampNeg) l2).wl 1936 ((σ.i 0 47).toNatClampNeg) l3).wi 0 47 ((σ.i 0 47) + (1 : Int32))))))) : B_X23_atom_0 Z (d + 1) σ l1 l2 l3 K := by
  unfold B_X23_atom_0
  refine ab_fin.s2 (i := .aload_n 0) (k := 1) (pc' := 1) (lv' := [(0, .ref 0), (1, .int l1), (2, .int l2), (3, .long l3)]) (st' := [.ref 0]) (by decide +kernel) rfl rfl ?_
  refine ab_fin.q_rA (b := 1933) (ix := 523) (ci := 24) (k := 42) (pc' := 4) (by decide +kernel) rfl (c_rA (F.s s0_0) rfl (rM_42 F)) rfl ?_
  refine ab_fin.s2 (i := .aload_n 0) (k := 1) (pc' := 5) (lv' := [(0, .ref 0), (1, .int l1), (2, .int l2), (3, .long l3)]) (st' := [.ref 0, .ref 1933]) (by decide +kernel) rfl rfl ?_
  refine ab_fin.q_rI (x := (σ.i 0 47)) (ix := 526) (ci := 24) (k := 47) (pc' := 8) (by decide +kernel) rfl (c_rI (F.s s0_0) rfl) rfl ?_
  refine ab_fin.s2 (i := .iload_n 1) (k := 1) (pc' := 9) (lv' := [(0, .ref 0), (1, .int l1), (2, .int l2), (3, .long l3)]) (st' := [.int l1, .int (σ.i 0 47), .ref 1933]) (by decide +kernel) rfl rfl ?_
  obtain ⟨e1, w⟩ := w
  refine ab_fin.q_sI (h1 := conc (σ.wi 1933 ((σ.i 0 47).toNatClampNeg) l1)) (pc' := 10) (by decide +kernel) (c_sI' (F.s s0_1933) e1 rfl) rfl ?_
  refine ab_fin.s2 (i := .aload_n 0) (k := 1) (pc' := 11) (lv' := [(0, .ref 0), (1, .int l1), (2, .int l2), (3, .long l3)]) (st' := [.ref 0]) (by decide +kernel) rfl rfl ?_
  refine ab_fin.q_rA (b := 1934) (ix := 529) (ci := 24) (k := 43) (pc' := 14) (by decide +kernel) rfl (c_rA (F.s s0_0) rfl (rM_43 F)) rfl ?_
  refine ab_fin.s2 (i := .aload_n 0) (k := 1) (pc' := 15) (lv' := [(0, .ref 0), (1, .int l1), (2, .int l2), (3, .long l3)]) (st' := [.ref 0, .ref 1934]) (by decide +kernel) rfl rfl ?_
  refine ab_fin.q_rI (x := (σ.i 0 47)) (ix := 526) (ci := 24) (k := 47) (pc' := 18) (by decide +kernel) rfl (c_rI (F.s s0_0) rfl) rfl ?_
  refine ab_fin.s2 (i := .iload_n 2) (k := 1) (pc' := 19) (lv' := [(0, .ref 0), (1, .int l1), (2, .int l2), (3, .long l3)]) (st' := [.int l2, .int (σ.i 0 47), .ref 1934]) (by decide +kernel) rfl rfl ?_
  obtain ⟨e2, w⟩ := w
  refine ab_fin.q_sI (h1 := conc ((σ.wi 1933 ((σ.i 0 47).toNatClampNeg) l1).wi 1934 ((σ.i 0 47).toNatClampNeg) l2)) (pc' := 20) (by decide +kernel) (c_sI' (F.s s0_1934) e2 rfl) rfl ?_
  refine ab_fin.s2 (i := .aload_n 0) (k := 1) (pc' := 21) (lv' := [(0, .ref 0), (1, .int l1), (2, .int l2), (3, .long l3)]) (st' := [.ref 0]) (by decide +kernel) rfl rfl ?_
  refine ab_fin.q_rA (b := 1936) (ix := 532) (ci := 24) (k := 45) (pc' := 24) (by decide +kernel) rfl (c_rA (F.s s0_0) rfl (rM_45 F)) rfl ?_
  refine ab_fin.s2 (i := .aload_n 0) (k := 1) (pc' := 25) (lv' := [(0, .ref 0), (1, .int l1), (2, .int l2), (3, .long l3)]) (st' := [.ref 0, .ref 1936]) (by decide +kernel) rfl rfl ?_
  refine ab_fin.q_rI (x := (σ.i 0 47)) (ix := 526) (ci := 24) (k := 47) (pc' := 28) (by decide +kernel) rfl (c_rI (F.s s0_0) rfl) rfl ?_
  refine ab_fin.s2 (i := .lload_n 3) (k := 1) (pc' := 29) (lv' := [(0, .ref 0), (1, .int l1), (2, .int l2), (3, .long l3)]) (st' := [.long l3, .int (σ.i 0 47), .ref 1936]) (by decide +kernel) rfl rfl ?_
  obtain ⟨e3, w⟩ := w
  refine ab_fin.q_sL (h1 := conc (((σ.wi 1933 ((σ.i 0 47).toNatClampNeg) l1).wi 1934 ((σ.i 0 47).toNatClampNeg) l2).wl 1936 ((σ.i 0 47).toNatClampNeg) l3)) (pc' := 30) (by decide +kernel) (c_sL' (F.s s0_1936) e3 rfl) rfl ?_
  refine ab_fin.s2 (i := .aload_n 0) (k := 1) (pc' := 31) (lv' := [(0, .ref 0), (1, .int l1), (2, .int l2), (3, .long l3)]) (st' := [.ref 0]) (by decide +kernel) rfl rfl ?_
  refine ab_fin.s1 (i := .dup) (k := 1) (pc' := 32) (st' := [.ref 0, .ref 0]) (by decide +kernel) rfl rfl ?_
  refine ab_fin.q_rI (x := (σ.i 0 47)) (ix := 526) (ci := 24) (k := 47) (pc' := 35) (by decide +kernel) rfl (c_rI (F.s s0_0) rfl) rfl ?_
  refine ab_fin.s1i (i := .iconst 1) (k := 1) (pc' := 36) (n := 1) (by decide +kernel) rfl (by decide +kernel) rfl ?_
  refine ab_fin.s1 (i := .iadd) (k := 1) (pc' := 37) (st' := [.int ((σ.i 0 47) + (1 : Int32)), .ref 0]) (by decide +kernel) rfl rfl ?_
  refine ab_fin.q_pF (ix := 526) (ci := 24) (k := 47) (h1 := conc ((((σ.wi 1933 ((σ.i 0 47).toNatClampNeg) l1).wi 1934 ((σ.i 0 47).toNatClampNeg) l2).wl 1936 ((σ.i 0 47).toNatClampNeg) l3).wi 0 47 ((σ.i 0 47) + (1 : Int32)))) (pc' := 40) (by decide +kernel) rfl (c_pI (v := ((σ.i 0 47) + (1 : Int32))) (F.s s0_0) rfl) rfl rfl rfl ?_
  exact ab_fin.q_ret (i := .return_) (k := 1) (v := none) (by decide +kernel) rfl F w
theorem S_X23_atoms_0 {Z : zT} {d : Nat} {σ : Sg} {l1 : Rf} {K : kS} (F : FX ΦR σ.sh σ.r) (w : ∃ b1, l1 = Rf.ptr b1 ∧ (σ.sh[b1]? = some (Sh.obj 21) ∧ ((¬ (σ.i b1 0) = 8 → B_X23_atoms_29 Z (d + 1) σ b1 K) ∧ ((σ.i b1 0) = 8 → B_X23_atom_0 Z d σ ((σ.i b1 9) + (1 : Int32)) ((σ.i b1 10) + (1 : Int32)) (σ.l b1 11) (yN K fun τ4 => B_X23_atoms_29 Z (d + 1) τ4 b1 K))))) : B_X23_atoms_0 Z (d + 1) σ l1 K := by
  unfold B_X23_atoms_0
  refine ab_fin.ald (i := .aload_n 1) (n := 1) (k := 1) (pc' := 1) (Or.inl ⟨_, rfl, rfl, rfl⟩) (by decide +kernel) rfl (oR_rv _) rfl ?_
  obtain ⟨b1, e2, w⟩ := w
  rw [show rv l1 = .ref b1 from by rw [e2]; rfl]
  obtain ⟨e3, w⟩ := w
  refine ab_fin.q_rI (x := (σ.i b1 0)) (ix := 432) (ci := 21) (k := 0) (pc' := 4) (by decide +kernel) rfl (c_rI e3 rfl) rfl ?_
  refine ab_fin.s1i (i := .bipush 8) (k := 2) (pc' := 6) (n := 8) (by decide +kernel) rfl (by decide +kernel) rfl ?_
  refine ab_fin.br (c := ¬ (σ.i b1 0) = 8) (i := .if_icmp .ne 23) (off := 23) (t := 29) (pc' := 9) (r := []) (by decide +kernel) rfl (by decide +kernel) rfl (fun q => ?_) (fun q => ?_)
  · replace w := w.1 q
    exact ab_fin.lv ⟨(List.forall_mem_cons.mpr ⟨(List.Mem.head _), (List.forall_mem_cons.mpr ⟨(List.Mem.tail _ (List.Mem.head _)), (fun _ h => absurd h List.not_mem_nil)⟩)⟩), (show ([0, 1] : List Nat).Nodup from by decide)⟩ w
  · replace w := w.2 (Decidable.of_not_not q)
    refine ab_fin.s2 (i := .aload_n 0) (k := 1) (pc' := 10) (lv' := [(0, .ref 0), (1, .ref b1)]) (st' := [.ref 0]) (by decide +kernel) rfl rfl ?_
    refine ab_fin.s2 (i := .aload_n 1) (k := 1) (pc' := 11) (lv' := [(0, .ref 0), (1, .ref b1)]) (st' := [.ref b1, .ref 0]) (by decide +kernel) rfl rfl ?_
    refine ab_fin.q_rI (x := (σ.i b1 9)) (ix := 439) (ci := 21) (k := 9) (pc' := 14) (by decide +kernel) rfl (c_rI e3 rfl) rfl ?_
    refine ab_fin.s1i (i := .iconst 1) (k := 1) (pc' := 15) (n := 1) (by decide +kernel) rfl (by decide +kernel) rfl ?_
    refine ab_fin.s1 (i := .iadd) (k := 1) (pc' := 16) (st' := [.int ((σ.i b1 9) + (1 : Int32)), .ref 0]) (by decide +kernel) rfl rfl ?_
    refine ab_fin.s2 (i := .aload_n 1) (k := 1) (pc' := 17) (lv' := [(0, .ref 0), (1, .ref b1)]) (st' := [.ref b1, .int ((σ.i b1 9) + (1 : Int32)), .ref 0]) (by decide +kernel) rfl rfl ?_
    refine ab_fin.q_rI (x := (σ.i b1 10)) (ix := 450) (ci := 21) (k := 10) (pc' := 20) (by decide +kernel) rfl (c_rI e3 rfl) rfl ?_
    refine ab_fin.s1i (i := .iconst 1) (k := 1) (pc' := 21) (n := 1) (by decide +kernel) rfl (by decide +kernel) rfl ?_
    refine ab_fin.s1 (i := .iadd) (k := 1) (pc' := 22) (st' := [.int ((σ.i b1 10) + (1 : Int32)), .int ((σ.i b1 9) + (1 : Int32)), .ref 0]) (by decide +kernel) rfl rfl ?_
    refine ab_fin.s2 (i := .aload_n 1) (k := 1) (pc' := 23) (lv' := [(0, .ref 0), (1, .ref b1)]) (st' := [.ref b1, .int ((σ.i b1 10) + (1 : Int32)), .int ((σ.i b1 9) + (1 : Int32)), .ref 0]) (by decide +kernel) rfl rfl ?_
    refine ab_fin.q_rL (x := (σ.l b1 11)) (ix := 445) (ci := 21) (k := 11) (pc' := 26) (by decide +kernel) rfl (c_rL e3 rfl) rfl ?_
    refine ab_fin.q_yN (i := .invokevirtual 536) (k := 3) (y := 5940) (As := [.ref 0, .int ((σ.i b1 9) + (1 : Int32)), .int ((σ.i b1 10) + (1 : Int32)), .long (σ.l b1 11)]) (rest := []) (M' := (mX23_atom, [])) (lv2 := [(0, .ref 0), (1, .int ((σ.i b1 9) + (1 : Int32))), (2, .int ((σ.i b1 10) + (1 : Int32))), (3, .long (σ.l b1 11))]) (pc' := 29) (X := K) (by decide +kernel) (ab_cv rfl rfl (conc_get (σ := σ) (F.s s0_0)) ⟨(Nat.le_of_ble_eq_true rfl), (Nat.le_of_ble_eq_true rfl)⟩ rfl) rfl (Nat.le_of_ble_eq_true rfl) rfl rfl (hY_no fun E => rfl) w (fun τ4 F5 w => ?_)
    exact ab_fin.lv ⟨(List.forall_mem_cons.mpr ⟨(List.Mem.head _), (List.forall_mem_cons.mpr ⟨(List.Mem.tail _ (List.Mem.head _)), (fun _ h => absurd h List.not_mem_nil)⟩)⟩), (show ([0, 1] : List Nat).Nodup from by decide)⟩ w
theorem S_X23_atoms_29 {Z : zT} {d : Nat} {σ : Sg} {l1 : Nat} {K : kS} (F : FX ΦR σ.sh σ.r) (w : σ.sh[l1]? = some (Sh.obj 21) ∧ (((σ.r l1 5) = Rf.nul → ((σ.r l1 6) = Rf.nul → K (.inl none) σ) ∧ (¬ (σ.r l1 6) = Rf.nul → B_X23_atoms_0 Z d σ (σ.r l1 6) (yN K fun τ2 => K (.inl none) τ2))) ∧ (¬ (σ.r l1 5) = Rf.nul → B_X23_atoms_0 Z d σ (σ.r l1 5) (yN K fun τ4 => τ4.sh[l1]? = some (Sh.obj 21) ∧ (((τ4.r l1 6) = Rf.nul → K (.inl none) τ4) ∧ (¬ (τ4.r l1 6) = Rf.nul → B_X23_atoms_0 Z d τ4 (τ4.r l1 6) (yN K fun τ7 => K (.inl none) τ7))))))) : B_X23_atoms_29 Z (d + 1) σ l1 K := by
  unfold B_X23_atoms_29
  refine ab_fin.s2 (i := .aload_n 1) (k := 1) (pc' := 30) (lv' := [(0, .ref 0), (1, .ref l1)]) (st' := [.ref l1]) (by decide +kernel) rfl rfl ?_
  obtain ⟨e1, w⟩ := w
  refine ab_fin.q_rV (v := rv (σ.r l1 5)) (ix := 409) (ci := 21) (k := 5) (pc' := 33) (by decide +kernel) rfl (c_rV e1 rfl) rfl ?_
  refine ab_fin.q_nul (off := 11) (t := 44) (pc' := 36) (by decide +kernel) (oR_rv _) (by decide +kernel) rfl (fun q => ?_) (fun q => ?_)
  · replace w := w.1 (rv_null.mp q)
    refine ab_fin.s2 (i := .aload_n 1) (k := 1) (pc' := 45) (lv' := [(0, .ref 0), (1, .ref l1)]) (st' := [.ref l1]) (by decide +kernel) rfl rfl ?_
    refine ab_fin.q_rV (v := rv (σ.r l1 6)) (ix := 414) (ci := 21) (k := 6) (pc' := 48) (by decide +kernel) rfl (c_rV e1 rfl) rfl ?_
    refine ab_fin.q_nul (off := 11) (t := 59) (pc' := 51) (by decide +kernel) (oR_rv _) (by decide +kernel) rfl (fun q => ?_) (fun q => ?_)
    · replace w := w.1 (rv_null.mp q)
      exact ab_fin.q_ret (i := .return_) (k := 1) (v := none) (by decide +kernel) rfl F w
    · replace w := w.2 (fun z => q (rv_null.mpr z))
      refine ab_fin.s2 (i := .aload_n 0) (k := 1) (pc' := 52) (lv' := [(0, .ref 0), (1, .ref l1)]) (st' := [.ref 0]) (by decide +kernel) rfl rfl ?_
      refine ab_fin.s2 (i := .aload_n 1) (k := 1) (pc' := 53) (lv' := [(0, .ref 0), (1, .ref l1)]) (st' := [.ref l1, .ref 0]) (by decide +kernel) rfl rfl ?_
      refine ab_fin.q_rV (v := rv (σ.r l1 6)) (ix := 414) (ci := 21) (k := 6) (pc' := 56) (by decide +kernel) rfl (c_rV e1 rfl) rfl ?_
      refine ab_fin.q_yN (i := .invokevirtual 540) (k := 3) (y := 5941) (As := [.ref 0, rv (σ.r l1 6)]) (rest := []) (M' := (mX23_atoms, [])) (lv2 := [(0, .ref 0), (1, rv (σ.r l1 6))]) (pc' := 59) (X := K) (by decide +kernel) (ab_cv rfl rfl (conc_get (σ := σ) (F.s s0_0)) ⟨(Nat.le_of_ble_eq_true rfl), (Nat.le_of_ble_eq_true rfl)⟩ rfl) rfl (by rw [lg_cnt]; simp only [List.map_cons, List.map_nil, cI, cL, cR1, cN1, cX1, cA (oR_rv _)]; exact Nat.le_of_ble_eq_true rfl) (by rw [lvA (v := .ref 0) rfl, lvA (oR_rv _), lvN]) rfl (hY_no fun E => rfl) w (fun τ2 F3 w => ?_)
      exact ab_fin.q_ret (i := .return_) (k := 1) (v := none) (by decide +kernel) rfl F3 w
  · replace w := w.2 (fun z => q (rv_null.mpr z))
    refine ab_fin.s2 (i := .aload_n 0) (k := 1) (pc' := 37) (lv' := [(0, .ref 0), (1, .ref l1)]) (st' := [.ref 0]) (by decide +kernel) rfl rfl ?_
    refine ab_fin.s2 (i := .aload_n 1) (k := 1) (pc' := 38) (lv' := [(0, .ref 0), (1, .ref l1)]) (st' := [.ref l1, .ref 0]) (by decide +kernel) rfl rfl ?_
    refine ab_fin.q_rV (v := rv (σ.r l1 5)) (ix := 409) (ci := 21) (k := 5) (pc' := 41) (by decide +kernel) rfl (c_rV e1 rfl) rfl ?_
    refine ab_fin.q_yN (i := .invokevirtual 540) (k := 3) (y := 5941) (As := [.ref 0, rv (σ.r l1 5)]) (rest := []) (M' := (mX23_atoms, [])) (lv2 := [(0, .ref 0), (1, rv (σ.r l1 5))]) (pc' := 44) (X := K) (by decide +kernel) (ab_cv rfl rfl (conc_get (σ := σ) (F.s s0_0)) ⟨(Nat.le_of_ble_eq_true rfl), (Nat.le_of_ble_eq_true rfl)⟩ rfl) rfl (by rw [lg_cnt]; simp only [List.map_cons, List.map_nil, cI, cL, cR1, cN1, cX1, cA (oR_rv _)]; exact Nat.le_of_ble_eq_true rfl) (by rw [lvA (v := .ref 0) rfl, lvA (oR_rv _), lvN]) rfl (hY_no fun E => rfl) w (fun τ4 F5 w => ?_)
    refine ab_fin.s2 (i := .aload_n 1) (k := 1) (pc' := 45) (lv' := [(0, .ref 0), (1, .ref l1)]) (st' := [.ref l1]) (by decide +kernel) rfl rfl ?_
    obtain ⟨e6, w⟩ := w
    refine ab_fin.q_rV (v := rv (τ4.r l1 6)) (ix := 414) (ci := 21) (k := 6) (pc' := 48) (by decide +kernel) rfl (c_rV e6 rfl) rfl ?_
    refine ab_fin.q_nul (off := 11) (t := 59) (pc' := 51) (by decide +kernel) (oR_rv _) (by decide +kernel) rfl (fun q => ?_) (fun q => ?_)
    · replace w := w.1 (rv_null.mp q)
      exact ab_fin.q_ret (i := .return_) (k := 1) (v := none) (by decide +kernel) rfl F5 w
    · replace w := w.2 (fun z => q (rv_null.mpr z))
      refine ab_fin.s2 (i := .aload_n 0) (k := 1) (pc' := 52) (lv' := [(0, .ref 0), (1, .ref l1)]) (st' := [.ref 0]) (by decide +kernel) rfl rfl ?_
      refine ab_fin.s2 (i := .aload_n 1) (k := 1) (pc' := 53) (lv' := [(0, .ref 0), (1, .ref l1)]) (st' := [.ref l1, .ref 0]) (by decide +kernel) rfl rfl ?_
      refine ab_fin.q_rV (v := rv (τ4.r l1 6)) (ix := 414) (ci := 21) (k := 6) (pc' := 56) (by decide +kernel) rfl (c_rV e6 rfl) rfl ?_
      refine ab_fin.q_yN (i := .invokevirtual 540) (k := 3) (y := 5941) (As := [.ref 0, rv (τ4.r l1 6)]) (rest := []) (M' := (mX23_atoms, [])) (lv2 := [(0, .ref 0), (1, rv (τ4.r l1 6))]) (pc' := 59) (X := K) (by decide +kernel) (ab_cv rfl rfl (conc_get (σ := τ4) (F5.s s0_0)) ⟨(Nat.le_of_ble_eq_true rfl), (Nat.le_of_ble_eq_true rfl)⟩ rfl) rfl (by rw [lg_cnt]; simp only [List.map_cons, List.map_nil, cI, cL, cR1, cN1, cX1, cA (oR_rv _)]; exact Nat.le_of_ble_eq_true rfl) (by rw [lvA (v := .ref 0) rfl, lvA (oR_rv _), lvN]) rfl (hY_no fun E => rfl) w (fun τ7 F8 w => ?_)
      exact ab_fin.q_ret (i := .return_) (k := 1) (v := none) (by decide +kernel) rfl F8 w
theorem S_X23_see_0 {Z : zT} {d : Nat} {σ : Sg} {l1 : Nat} {K : kS} (F : FX ΦR σ.sh σ.r) (w : B_X23_see_12 Z (d + 1) ((σ.wr 0 51 (Rf.ptr l1)).wi 0 47 (0 : Int32)) 0 K) : B_X23_see_0 Z (d + 1) σ l1 K := by
  unfold B_X23_see_0
  refine ab_fin.s2 (i := .aload_n 0) (k := 1) (pc' := 1) (lv' := [(0, .ref 0), (1, .ref l1)]) (st' := [.ref 0]) (by decide +kernel) rfl rfl ?_
  refine ab_fin.s2 (i := .aload_n 1) (k := 1) (pc' := 2) (lv' := [(0, .ref 0), (1, .ref l1)]) (st' := [.ref l1, .ref 0]) (by decide +kernel) rfl rfl ?_
  have F1 := FX.w (Φ := ΦR) (a := 0) (k := 51) (v := (Rf.ptr l1)) F (cM_51)
  refine ab_fin.q_pF (ix := 543) (ci := 24) (k := 51) (h1 := conc (σ.wr 0 51 (Rf.ptr l1))) (pc' := 5) (by decide +kernel) rfl (c_pR (v := (Rf.ptr l1)) (F.s s0_0) rfl) rfl rfl rfl ?_
  refine ab_fin.s2 (i := .aload_n 0) (k := 1) (pc' := 6) (lv' := [(0, .ref 0), (1, .ref l1)]) (st' := [.ref 0]) (by decide +kernel) rfl rfl ?_
  refine ab_fin.s1i (i := .iconst 0) (k := 1) (pc' := 7) (n := 0) (by decide +kernel) rfl (by decide +kernel) rfl ?_
  refine ab_fin.q_pF (ix := 526) (ci := 24) (k := 47) (h1 := conc ((σ.wr 0 51 (Rf.ptr l1)).wi 0 47 (0 : Int32))) (pc' := 10) (by decide +kernel) rfl (c_pI (v := 0) (F1.s s0_0) rfl) rfl rfl rfl ?_
  refine ab_fin.s1i (i := .iconst 0) (k := 1) (pc' := 11) (n := 0) (by decide +kernel) rfl (by decide +kernel) rfl ?_
  refine ab_fin.s2 (i := .istore_n 2) (k := 1) (pc' := 12) (lv' := [(2, .int 0), (0, .ref 0), (1, .ref l1)]) (st' := []) (by decide +kernel) rfl rfl ?_
  exact ab_fin.lv ⟨(List.forall_mem_cons.mpr ⟨(List.Mem.tail _ (List.Mem.head _)), (List.forall_mem_cons.mpr ⟨(List.Mem.head _), (fun _ h => absurd h List.not_mem_nil)⟩)⟩), (show ([2, 0, 1] : List Nat).Nodup from by decide)⟩ w
theorem S_X23_see_12 {Z : zT} {d : Nat} {σ : Sg} {l2 : Int32} {K : kS} (F : FX ΦR σ.sh σ.r) (w : ((σ.i 0 50) ≤ l2 → B_X23_see_109 Z (d + 1) σ 0 K) ∧ (¬ (σ.i 0 50) ≤ l2 → ib l2 8 ∧ (ib (σ.i 2067 l2.toNatClampNeg) 121 ∧ (B_X23_see_35 Z (d + 1) σ l2 (2497 + 4 * ((σ.i 2067 l2.toNatClampNeg).toNatClampNeg)) 0 K)))) : B_X23_see_12 Z (d + 1) σ l2 K := by
  unfold B_X23_see_12
  refine ab_fin.s2 (i := .iload_n 2) (k := 1) (pc' := 13) (lv' := [(0, .ref 0), (2, .int l2)]) (st' := [.int l2]) (by decide +kernel) rfl rfl ?_
  refine ab_fin.s2 (i := .aload_n 0) (k := 1) (pc' := 14) (lv' := [(0, .ref 0), (2, .int l2)]) (st' := [.ref 0, .int l2]) (by decide +kernel) rfl rfl ?_
  refine ab_fin.q_rI (x := (σ.i 0 50)) (ix := 546) (ci := 24) (k := 50) (pc' := 17) (by decide +kernel) rfl (c_rI (F.s s0_0) rfl) rfl ?_
  refine ab_fin.br (c := (σ.i 0 50) ≤ l2) (i := .if_icmp .ge 90) (off := 90) (t := 107) (pc' := 20) (r := []) (by decide +kernel) rfl (by decide +kernel) rfl (fun q => ?_) (fun q => ?_)
  · replace w := w.1 q
    refine ab_fin.s1i (i := .iconst 0) (k := 1) (pc' := 108) (n := 0) (by decide +kernel) rfl (by decide +kernel) rfl ?_
    refine ab_fin.s2 (i := .istore_n 2) (k := 1) (pc' := 109) (lv' := [(2, .int 0), (0, .ref 0)]) (st' := []) (by decide +kernel) rfl rfl ?_
    exact ab_fin.lv ⟨(List.forall_mem_cons.mpr ⟨(List.Mem.tail _ (List.Mem.head _)), (List.forall_mem_cons.mpr ⟨(List.Mem.head _), (fun _ h => absurd h List.not_mem_nil)⟩)⟩), (show ([2, 0] : List Nat).Nodup from by decide)⟩ w
  · replace w := w.2 q
    refine ab_fin.s2 (i := .aload_n 0) (k := 1) (pc' := 21) (lv' := [(0, .ref 0), (2, .int l2)]) (st' := [.ref 0]) (by decide +kernel) rfl rfl ?_
    refine ab_fin.q_rA (b := 3) (ix := 315) (ci := 24) (k := 2) (pc' := 24) (by decide +kernel) rfl (c_rA (F.s s0_0) rfl (rM_2 F)) rfl ?_
    refine ab_fin.s2 (i := .aload_n 0) (k := 1) (pc' := 25) (lv' := [(0, .ref 0), (2, .int l2)]) (st' := [.ref 0, .ref 3]) (by decide +kernel) rfl rfl ?_
    refine ab_fin.q_rA (b := 2067) (ix := 549) (ci := 24) (k := 49) (pc' := 28) (by decide +kernel) rfl (c_rA (F.s s0_0) rfl (rM_49 F)) rfl ?_
    refine ab_fin.s2 (i := .iload_n 2) (k := 1) (pc' := 29) (lv' := [(0, .ref 0), (2, .int l2)]) (st' := [.int l2, .ref 2067, .ref 3]) (by decide +kernel) rfl rfl ?_
    obtain ⟨e1, w⟩ := w
    refine ab_fin.q_eI (x := (σ.i 2067 l2.toNatClampNeg)) (pc' := 30) (by decide +kernel) (c_eI' (F.s s0_2067) e1 rfl) rfl ?_
    obtain ⟨e2, w⟩ := w
    refine ab_fin.q_eA (b := (2497 + 4 * ((σ.i 2067 l2.toNatClampNeg).toNatClampNeg))) (pc' := 31) (by decide +kernel) (c_eA' (F.s s0_3) (by decide) rfl e2 rfl (rE_6 F s0_3 (by decide))) rfl ?_
    refine ab_fin.s2 (i := .astore_n 3) (k := 1) (pc' := 32) (lv' := [(3, .ref (2497 + 4 * ((σ.i 2067 l2.toNatClampNeg).toNatClampNeg))), (0, .ref 0), (2, .int l2)]) (st' := []) (by decide +kernel) rfl rfl ?_
    refine ab_fin.s1i (i := .iconst 0) (k := 1) (pc' := 33) (n := 0) (by decide +kernel) rfl (by decide +kernel) rfl ?_
    refine ab_fin.s2 (i := .istore 4) (k := 2) (pc' := 35) (lv' := [(4, .int 0), (3, .ref (2497 + 4 * ((σ.i 2067 l2.toNatClampNeg).toNatClampNeg))), (0, .ref 0), (2, .int l2)]) (st' := []) (by decide +kernel) rfl rfl ?_
    exact ab_fin.lv ⟨(List.forall_mem_cons.mpr ⟨(List.Mem.tail _ (List.Mem.tail _ (List.Mem.head _))), (List.forall_mem_cons.mpr ⟨(List.Mem.tail _ (List.Mem.tail _ (List.Mem.tail _ (List.Mem.head _)))), (List.forall_mem_cons.mpr ⟨(List.Mem.tail _ (List.Mem.head _)), (List.forall_mem_cons.mpr ⟨(List.Mem.head _), (fun _ h => absurd h List.not_mem_nil)⟩)⟩)⟩)⟩), (show ([4, 3, 0, 2] : List Nat).Nodup from by decide)⟩ w
theorem S_X23_see_35 {Z : zT} {d : Nat} {σ : Sg} {l2 : Int32} {l3 : Nat} {l4 : Int32} {K : kS} (F : FX ΦR σ.sh σ.r) (p_l3 : sh0R[l3]? = some (Sh.obj 19)) (w : ib (σ.i l3 0) 24 ∧ (((σ.i (2409 + 3 * ((σ.i l3 0).toNatClampNeg)) 1) ≤ l4 → ((σ.r l3 8) = Rf.nul → B_X23_see_12 Z (d + 1) σ (l2 + 1) K) ∧ (¬ (σ.r l3 8) = Rf.nul → B_X23_atoms_0 Z d σ (σ.r l3 8) (yN K fun τ2 => B_X23_see_12 Z (d + 1) τ2 (l2 + 1) K))) ∧ (¬ (σ.i (2409 + 3 * ((σ.i l3 0).toNatClampNeg)) 1) ≤ l4 → ib l4 3 ∧ (((σ.i (l3 + 3) l4.toNatClampNeg) = 0 → B_X23_see_35 Z (d + 1) σ l2 l3 (l4 + 1) K) ∧ (¬ (σ.i (l3 + 3) l4.toNatClampNeg) = 0 → ib l4 3 ∧ (B_X23_atom_0 Z d σ (l4 + (1 : Int32)) 0 ((Int32.toInt64 ((-(σ.i (l3 + 2) l4.toNatClampNeg))))) (yN K fun τ6 => B_X23_see_35 Z (d + 1) τ6 l2 l3 (l4 + 1) K))))))) : B_X23_see_35 Z (d + 1) σ l2 l3 l4 K := by
  unfold B_X23_see_35
  refine ab_fin.s2 (i := .iload 4) (k := 2) (pc' := 37) (lv' := [(0, .ref 0), (2, .int l2), (3, .ref l3), (4, .int l4)]) (st' := [.int l4]) (by decide +kernel) rfl rfl ?_
  refine ab_fin.s2 (i := .aload_n 0) (k := 1) (pc' := 38) (lv' := [(0, .ref 0), (2, .int l2), (3, .ref l3), (4, .int l4)]) (st' := [.ref 0, .int l4]) (by decide +kernel) rfl rfl ?_
  refine ab_fin.q_rA (b := 2) (ix := 34) (ci := 24) (k := 1) (pc' := 41) (by decide +kernel) rfl (c_rA (F.s s0_0) rfl (rM_1 F)) rfl ?_
  refine ab_fin.s2 (i := .aload_n 3) (k := 1) (pc' := 42) (lv' := [(0, .ref 0), (2, .int l2), (3, .ref l3), (4, .int l4)]) (st' := [.ref l3, .ref 2, .int l4]) (by decide +kernel) rfl rfl ?_
  refine ab_fin.q_rI (x := (σ.i l3 0)) (ix := 323) (ci := 19) (k := 0) (pc' := 45) (by decide +kernel) rfl (c_rI (F.s p_l3) rfl) rfl ?_
  obtain ⟨e1, w⟩ := w
  refine ab_fin.q_eA (b := (2409 + 3 * ((σ.i l3 0).toNatClampNeg))) (pc' := 46) (by decide +kernel) (c_eA' (F.s s0_2) (by decide) rfl e1 rfl (rE_5 F s0_2)) rfl ?_
  refine ab_fin.q_rI (x := (σ.i (2409 + 3 * ((σ.i l3 0).toNatClampNeg)) 1)) (ix := 303) (ci := 14) (k := 1) (pc' := 49) (by decide +kernel) rfl (c_rI (F.s (kE_2 e1.2)) rfl) rfl ?_
  refine ab_fin.br (c := (σ.i (2409 + 3 * ((σ.i l3 0).toNatClampNeg)) 1) ≤ l4) (i := .if_icmp .ge 37) (off := 37) (t := 86) (pc' := 52) (r := []) (by decide +kernel) rfl (by decide +kernel) rfl (fun q => ?_) (fun q => ?_)
  · replace w := w.1 q
    refine ab_fin.s2 (i := .aload_n 3) (k := 1) (pc' := 87) (lv' := [(0, .ref 0), (2, .int l2), (3, .ref l3), (4, .int l4)]) (st' := [.ref l3]) (by decide +kernel) rfl rfl ?_
    refine ab_fin.q_rV (v := rv (σ.r l3 8)) (ix := 335) (ci := 19) (k := 8) (pc' := 90) (by decide +kernel) rfl (c_rV (F.s p_l3) rfl) rfl ?_
    refine ab_fin.q_nul (off := 11) (t := 101) (pc' := 93) (by decide +kernel) (oR_rv _) (by decide +kernel) rfl (fun q => ?_) (fun q => ?_)
    · replace w := w.1 (rv_null.mp q)
      refine ab_fin.q_inc (n := 2) (c := 1) (pc' := 104) (lv' := [(2, .int (l2 + 1)), (0, .ref 0), (3, .ref l3), (4, .int l4)]) (by decide +kernel) (by decide) rfl rfl rfl rfl ?_
      refine ab_fin.s3 (i := .goto (-92)) (k := 3) (t := 12) (st' := []) (by decide +kernel) (ab_gto (by decide +kernel)) ?_
      exact ab_fin.lv ⟨(List.forall_mem_cons.mpr ⟨(List.Mem.tail _ (List.Mem.head _)), (List.forall_mem_cons.mpr ⟨(List.Mem.head _), (fun _ h => absurd h List.not_mem_nil)⟩)⟩), (show ([2, 0, 3, 4] : List Nat).Nodup from by decide)⟩ w
    · replace w := w.2 (fun z => q (rv_null.mpr z))
      refine ab_fin.s2 (i := .aload_n 0) (k := 1) (pc' := 94) (lv' := [(0, .ref 0), (2, .int l2), (3, .ref l3), (4, .int l4)]) (st' := [.ref 0]) (by decide +kernel) rfl rfl ?_
      refine ab_fin.s2 (i := .aload_n 3) (k := 1) (pc' := 95) (lv' := [(0, .ref 0), (2, .int l2), (3, .ref l3), (4, .int l4)]) (st' := [.ref l3, .ref 0]) (by decide +kernel) rfl rfl ?_
      refine ab_fin.q_rV (v := rv (σ.r l3 8)) (ix := 335) (ci := 19) (k := 8) (pc' := 98) (by decide +kernel) rfl (c_rV (F.s p_l3) rfl) rfl ?_
      refine ab_fin.q_yN (i := .invokevirtual 540) (k := 3) (y := 5941) (As := [.ref 0, rv (σ.r l3 8)]) (rest := []) (M' := (mX23_atoms, [])) (lv2 := [(0, .ref 0), (1, rv (σ.r l3 8))]) (pc' := 101) (X := K) (by decide +kernel) (ab_cv rfl rfl (conc_get (σ := σ) (F.s s0_0)) ⟨(Nat.le_of_ble_eq_true rfl), (Nat.le_of_ble_eq_true rfl)⟩ rfl) rfl (by rw [lg_cnt]; simp only [List.map_cons, List.map_nil, cI, cL, cR1, cN1, cX1, cA (oR_rv _)]; exact Nat.le_of_ble_eq_true rfl) (by rw [lvA (v := .ref 0) rfl, lvA (oR_rv _), lvN]) rfl (hY_no fun E => rfl) w (fun τ2 F3 w => ?_)
      refine ab_fin.q_inc (n := 2) (c := 1) (pc' := 104) (lv' := [(2, .int (l2 + 1)), (0, .ref 0), (3, .ref l3), (4, .int l4)]) (by decide +kernel) (by decide) rfl rfl rfl rfl ?_
      refine ab_fin.s3 (i := .goto (-92)) (k := 3) (t := 12) (st' := []) (by decide +kernel) (ab_gto (by decide +kernel)) ?_
      exact ab_fin.lv ⟨(List.forall_mem_cons.mpr ⟨(List.Mem.tail _ (List.Mem.head _)), (List.forall_mem_cons.mpr ⟨(List.Mem.head _), (fun _ h => absurd h List.not_mem_nil)⟩)⟩), (show ([2, 0, 3, 4] : List Nat).Nodup from by decide)⟩ w
  · replace w := w.2 q
    refine ab_fin.s2 (i := .aload_n 3) (k := 1) (pc' := 53) (lv' := [(0, .ref 0), (2, .int l2), (3, .ref l3), (4, .int l4)]) (st' := [.ref l3]) (by decide +kernel) rfl rfl ?_
    refine ab_fin.q_rA (b := (l3 + 3)) (ix := 365) (ci := 19) (k := 7) (pc' := 56) (by decide +kernel) rfl (c_rA (F.s p_l3) rfl (rO_19_7 F p_l3)) rfl ?_
    refine ab_fin.s2 (i := .iload 4) (k := 2) (pc' := 58) (lv' := [(0, .ref 0), (2, .int l2), (3, .ref l3), (4, .int l4)]) (st' := [.int l4, .ref (l3 + 3)]) (by decide +kernel) rfl rfl ?_
    obtain ⟨e4, w⟩ := w
    refine ab_fin.q_eB (x := (σ.i (l3 + 3) l4.toNatClampNeg)) (pc' := 59) (by decide +kernel) (c_eB3' (F.s (kF_19_3 p_l3)) e4 rfl) rfl ?_
    refine ab_fin.br (c := (σ.i (l3 + 3) l4.toNatClampNeg) = 0) (i := .ifCond .eq 21) (off := 21) (t := 80) (pc' := 62) (r := []) (by decide +kernel) rfl (by decide +kernel) rfl (fun q => ?_) (fun q => ?_)
    · replace w := w.1 q
      refine ab_fin.q_inc (n := 4) (c := 1) (pc' := 83) (lv' := [(4, .int (l4 + 1)), (0, .ref 0), (2, .int l2), (3, .ref l3)]) (by decide +kernel) (by decide) rfl rfl rfl rfl ?_
      refine ab_fin.s3 (i := .goto (-48)) (k := 3) (t := 35) (st' := []) (by decide +kernel) (ab_gto (by decide +kernel)) ?_
      exact ab_fin.lv ⟨(List.forall_mem_cons.mpr ⟨(List.Mem.tail _ (List.Mem.head _)), (List.forall_mem_cons.mpr ⟨(List.Mem.tail _ (List.Mem.tail _ (List.Mem.head _))), (List.forall_mem_cons.mpr ⟨(List.Mem.tail _ (List.Mem.tail _ (List.Mem.tail _ (List.Mem.head _)))), (List.forall_mem_cons.mpr ⟨(List.Mem.head _), (fun _ h => absurd h List.not_mem_nil)⟩)⟩)⟩)⟩), (show ([4, 0, 2, 3] : List Nat).Nodup from by decide)⟩ w
    · replace w := w.2 q
      refine ab_fin.s2 (i := .aload_n 0) (k := 1) (pc' := 63) (lv' := [(0, .ref 0), (2, .int l2), (3, .ref l3), (4, .int l4)]) (st' := [.ref 0]) (by decide +kernel) rfl rfl ?_
      refine ab_fin.s2 (i := .iload 4) (k := 2) (pc' := 65) (lv' := [(0, .ref 0), (2, .int l2), (3, .ref l3), (4, .int l4)]) (st' := [.int l4, .ref 0]) (by decide +kernel) rfl rfl ?_
      refine ab_fin.s1i (i := .iconst 1) (k := 1) (pc' := 66) (n := 1) (by decide +kernel) rfl (by decide +kernel) rfl ?_
      refine ab_fin.s1 (i := .iadd) (k := 1) (pc' := 67) (st' := [.int (l4 + (1 : Int32)), .ref 0]) (by decide +kernel) rfl rfl ?_
      refine ab_fin.s1i (i := .iconst 0) (k := 1) (pc' := 68) (n := 0) (by decide +kernel) rfl (by decide +kernel) rfl ?_
      refine ab_fin.s2 (i := .aload_n 3) (k := 1) (pc' := 69) (lv' := [(0, .ref 0), (2, .int l2), (3, .ref l3), (4, .int l4)]) (st' := [.ref l3, .int 0, .int (l4 + (1 : Int32)), .ref 0]) (by decide +kernel) rfl rfl ?_
      refine ab_fin.q_rA (b := (l3 + 2)) (ix := 393) (ci := 19) (k := 6) (pc' := 72) (by decide +kernel) rfl (c_rA (F.s p_l3) rfl (rO_19_6 F p_l3)) rfl ?_
      refine ab_fin.s2 (i := .iload 4) (k := 2) (pc' := 74) (lv' := [(0, .ref 0), (2, .int l2), (3, .ref l3), (4, .int l4)]) (st' := [.int l4, .ref (l3 + 2), .int 0, .int (l4 + (1 : Int32)), .ref 0]) (by decide +kernel) rfl rfl ?_
      obtain ⟨e5, w⟩ := w
      refine ab_fin.q_eI (x := (σ.i (l3 + 2) l4.toNatClampNeg)) (pc' := 75) (by decide +kernel) (c_eI' (F.s (kF_19_2 p_l3)) e5 rfl) rfl ?_
      refine ab_fin.s1 (i := .ineg) (k := 1) (pc' := 76) (st' := [.int ((-(σ.i (l3 + 2) l4.toNatClampNeg))), .int 0, .int (l4 + (1 : Int32)), .ref 0]) (by decide +kernel) rfl rfl ?_
      refine ab_fin.s1 (i := .i2l) (k := 1) (pc' := 77) (st' := [.long ((Int32.toInt64 ((-(σ.i (l3 + 2) l4.toNatClampNeg))))), .int 0, .int (l4 + (1 : Int32)), .ref 0]) (by decide +kernel) rfl rfl ?_
      refine ab_fin.q_yN (i := .invokevirtual 536) (k := 3) (y := 5940) (As := [.ref 0, .int (l4 + (1 : Int32)), .int 0, .long ((Int32.toInt64 ((-(σ.i (l3 + 2) l4.toNatClampNeg)))))]) (rest := []) (M' := (mX23_atom, [])) (lv2 := [(0, .ref 0), (1, .int (l4 + (1 : Int32))), (2, .int 0), (3, .long ((Int32.toInt64 ((-(σ.i (l3 + 2) l4.toNatClampNeg))))))]) (pc' := 80) (X := K) (by decide +kernel) (ab_cv rfl rfl (conc_get (σ := σ) (F.s s0_0)) ⟨(Nat.le_of_ble_eq_true rfl), (Nat.le_of_ble_eq_true rfl)⟩ rfl) rfl (Nat.le_of_ble_eq_true rfl) rfl rfl (hY_no fun E => rfl) w (fun τ6 F7 w => ?_)
      refine ab_fin.q_inc (n := 4) (c := 1) (pc' := 83) (lv' := [(4, .int (l4 + 1)), (0, .ref 0), (2, .int l2), (3, .ref l3)]) (by decide +kernel) (by decide) rfl rfl rfl rfl ?_
      refine ab_fin.s3 (i := .goto (-48)) (k := 3) (t := 35) (st' := []) (by decide +kernel) (ab_gto (by decide +kernel)) ?_
      exact ab_fin.lv ⟨(List.forall_mem_cons.mpr ⟨(List.Mem.tail _ (List.Mem.head _)), (List.forall_mem_cons.mpr ⟨(List.Mem.tail _ (List.Mem.tail _ (List.Mem.head _))), (List.forall_mem_cons.mpr ⟨(List.Mem.tail _ (List.Mem.tail _ (List.Mem.tail _ (List.Mem.head _)))), (List.forall_mem_cons.mpr ⟨(List.Mem.head _), (fun _ h => absurd h List.not_mem_nil)⟩)⟩)⟩)⟩), (show ([4, 0, 2, 3] : List Nat).Nodup from by decide)⟩ w
theorem S_X23_see_109 {Z : zT} {d : Nat} {σ : Sg} {l2 : Int32} {K : kS} (F : FX ΦR σ.sh σ.r) (w : (((1 : Int32) <<< ((σ.i 0 50) &&& 31)) ≤ l2 → B_X23_see_134 Z (d + 1) σ 0 K) ∧ (¬ ((1 : Int32) <<< ((σ.i 0 50) &&& 31)) ≤ l2 → ib l2 256 ∧ (B_X23_see_109 Z (d + 1) (σ.wi 2068 l2.toNatClampNeg (vp_nar .boolean (0 : Int32))) (l2 + 1) K))) : B_X23_see_109 Z (d + 1) σ l2 K := by
  unfold B_X23_see_109
  refine ab_fin.s2 (i := .iload_n 2) (k := 1) (pc' := 110) (lv' := [(0, .ref 0), (2, .int l2)]) (st' := [.int l2]) (by decide +kernel) rfl rfl ?_
  refine ab_fin.s1i (i := .iconst 1) (k := 1) (pc' := 111) (n := 1) (by decide +kernel) rfl (by decide +kernel) rfl ?_
  refine ab_fin.s2 (i := .aload_n 0) (k := 1) (pc' := 112) (lv' := [(0, .ref 0), (2, .int l2)]) (st' := [.ref 0, .int 1, .int l2]) (by decide +kernel) rfl rfl ?_
  refine ab_fin.q_rI (x := (σ.i 0 50)) (ix := 546) (ci := 24) (k := 50) (pc' := 115) (by decide +kernel) rfl (c_rI (F.s s0_0) rfl) rfl ?_
  refine ab_fin.s1 (i := .ishl) (k := 1) (pc' := 116) (st' := [.int ((1 : Int32) <<< ((σ.i 0 50) &&& 31)), .int l2]) (by decide +kernel) rfl rfl ?_
  refine ab_fin.br (c := ((1 : Int32) <<< ((σ.i 0 50) &&& 31)) ≤ l2) (i := .if_icmp .ge 16) (off := 16) (t := 132) (pc' := 119) (r := []) (by decide +kernel) rfl (by decide +kernel) rfl (fun q => ?_) (fun q => ?_)
  · replace w := w.1 q
    refine ab_fin.s1i (i := .iconst 0) (k := 1) (pc' := 133) (n := 0) (by decide +kernel) rfl (by decide +kernel) rfl ?_
    refine ab_fin.s2 (i := .istore_n 2) (k := 1) (pc' := 134) (lv' := [(2, .int 0), (0, .ref 0)]) (st' := []) (by decide +kernel) rfl rfl ?_
    exact ab_fin.lv ⟨(List.forall_mem_cons.mpr ⟨(List.Mem.tail _ (List.Mem.head _)), (List.forall_mem_cons.mpr ⟨(List.Mem.head _), (fun _ h => absurd h List.not_mem_nil)⟩)⟩), (show ([2, 0] : List Nat).Nodup from by decide)⟩ w
  · replace w := w.2 q
    refine ab_fin.s2 (i := .aload_n 0) (k := 1) (pc' := 120) (lv' := [(0, .ref 0), (2, .int l2)]) (st' := [.ref 0]) (by decide +kernel) rfl rfl ?_
    refine ab_fin.q_rA (b := 2068) (ix := 552) (ci := 24) (k := 52) (pc' := 123) (by decide +kernel) rfl (c_rA (F.s s0_0) rfl (rM_52 F)) rfl ?_
    refine ab_fin.s2 (i := .iload_n 2) (k := 1) (pc' := 124) (lv' := [(0, .ref 0), (2, .int l2)]) (st' := [.int l2, .ref 2068]) (by decide +kernel) rfl rfl ?_
    refine ab_fin.s1i (i := .iconst 0) (k := 1) (pc' := 125) (n := 0) (by decide +kernel) rfl (by decide +kernel) rfl ?_
    obtain ⟨e1, w⟩ := w
    refine ab_fin.q_sB (h1 := conc (σ.wi 2068 l2.toNatClampNeg (vp_nar .boolean (0 : Int32)))) (pc' := 126) (by decide +kernel) (c_sB3' (F.s s0_2068) e1 rfl) rfl ?_
    refine ab_fin.q_inc (n := 2) (c := 1) (pc' := 129) (lv' := [(2, .int (l2 + 1)), (0, .ref 0)]) (by decide +kernel) (by decide) rfl rfl rfl rfl ?_
    refine ab_fin.s3 (i := .goto (-20)) (k := 3) (t := 109) (st' := []) (by decide +kernel) (ab_gto (by decide +kernel)) ?_
    exact ab_fin.lv ⟨(List.forall_mem_cons.mpr ⟨(List.Mem.tail _ (List.Mem.head _)), (List.forall_mem_cons.mpr ⟨(List.Mem.head _), (fun _ h => absurd h List.not_mem_nil)⟩)⟩), (show ([2, 0] : List Nat).Nodup from by decide)⟩ w
theorem S_X23_see_134 {Z : zT} {d : Nat} {σ : Sg} {l2 : Int32} {K : kS} (F : FX ΦR σ.sh σ.r) (w : (4 ≤ l2 → B_X23_explore_0 Z d (σ.wi 0 54 (0 : Int32)) 0 (yN K fun τ1 => K (.inl none) τ1)) ∧ (¬ 4 ≤ l2 → B_X23_see_141 Z (d + 1) σ l2 0 K)) : B_X23_see_134 Z (d + 1) σ l2 K := by
  unfold B_X23_see_134
  refine ab_fin.s2 (i := .iload_n 2) (k := 1) (pc' := 135) (lv' := [(0, .ref 0), (2, .int l2)]) (st' := [.int l2]) (by decide +kernel) rfl rfl ?_
  refine ab_fin.s1i (i := .iconst 4) (k := 1) (pc' := 136) (n := 4) (by decide +kernel) rfl (by decide +kernel) rfl ?_
  refine ab_fin.br (c := 4 ≤ l2) (i := .if_icmp .ge 74) (off := 74) (t := 210) (pc' := 139) (r := []) (by decide +kernel) rfl (by decide +kernel) rfl (fun q => ?_) (fun q => ?_)
  · replace w := w.1 q
    refine ab_fin.s2 (i := .aload_n 0) (k := 1) (pc' := 211) (lv' := [(0, .ref 0), (2, .int l2)]) (st' := [.ref 0]) (by decide +kernel) rfl rfl ?_
    refine ab_fin.s1i (i := .iconst 0) (k := 1) (pc' := 212) (n := 0) (by decide +kernel) rfl (by decide +kernel) rfl ?_
    refine ab_fin.q_pF (ix := 560) (ci := 24) (k := 54) (h1 := conc (σ.wi 0 54 (0 : Int32))) (pc' := 215) (by decide +kernel) rfl (c_pI (v := 0) (F.s s0_0) rfl) rfl rfl rfl ?_
    refine ab_fin.s2 (i := .aload_n 0) (k := 1) (pc' := 216) (lv' := [(0, .ref 0), (2, .int l2)]) (st' := [.ref 0]) (by decide +kernel) rfl rfl ?_
    refine ab_fin.s1i (i := .iconst 0) (k := 1) (pc' := 217) (n := 0) (by decide +kernel) rfl (by decide +kernel) rfl ?_
    refine ab_fin.q_yN (i := .invokevirtual 563) (k := 3) (y := 5943) (As := [.ref 0, .int 0]) (rest := []) (M' := (mX23_explore, [])) (lv2 := [(0, .ref 0), (1, .int 0)]) (pc' := 220) (X := K) (by decide +kernel) (ab_cv rfl rfl (conc_get (σ := (σ.wi 0 54 (0 : Int32))) (F.s s0_0)) ⟨(Nat.le_of_ble_eq_true rfl), (Nat.le_of_ble_eq_true rfl)⟩ rfl) rfl (Nat.le_of_ble_eq_true rfl) rfl rfl (hY_no fun E => rfl) w (fun τ1 F2 w => ?_)
    exact ab_fin.q_ret (i := .return_) (k := 1) (v := none) (by decide +kernel) rfl F2 w
  · replace w := w.2 q
    refine ab_fin.s1i (i := .iconst 0) (k := 1) (pc' := 140) (n := 0) (by decide +kernel) rfl (by decide +kernel) rfl ?_
    refine ab_fin.s2 (i := .istore_n 3) (k := 1) (pc' := 141) (lv' := [(3, .int 0), (0, .ref 0), (2, .int l2)]) (st' := []) (by decide +kernel) rfl rfl ?_
    exact ab_fin.lv ⟨(List.forall_mem_cons.mpr ⟨(List.Mem.tail _ (List.Mem.head _)), (List.forall_mem_cons.mpr ⟨(List.Mem.tail _ (List.Mem.tail _ (List.Mem.head _))), (List.forall_mem_cons.mpr ⟨(List.Mem.head _), (fun _ h => absurd h List.not_mem_nil)⟩)⟩)⟩), (show ([3, 0, 2] : List Nat).Nodup from by decide)⟩ w
theorem S_X23_see_141 {Z : zT} {d : Nat} {σ : Sg} {l2 : Int32} {l3 : Int32} {K : kS} (F : FX ΦR σ.sh σ.r) (w : (4 ≤ l3 → B_X23_see_134 Z (d + 1) σ (l2 + 1) K) ∧ (¬ 4 ≤ l3 → (¬ l2 = 0 → B_X23_see_157 Z (d + 1) σ l2 l3 2147483647 K) ∧ (l2 = 0 → B_X23_see_157 Z (d + 1) σ l2 l3 0 K))) : B_X23_see_141 Z (d + 1) σ l2 l3 K := by
  unfold B_X23_see_141
  refine ab_fin.s2 (i := .iload_n 3) (k := 1) (pc' := 142) (lv' := [(0, .ref 0), (2, .int l2), (3, .int l3)]) (st' := [.int l3]) (by decide +kernel) rfl rfl ?_
  refine ab_fin.s1i (i := .iconst 4) (k := 1) (pc' := 143) (n := 4) (by decide +kernel) rfl (by decide +kernel) rfl ?_
  refine ab_fin.br (c := 4 ≤ l3) (i := .if_icmp .ge 61) (off := 61) (t := 204) (pc' := 146) (r := []) (by decide +kernel) rfl (by decide +kernel) rfl (fun q => ?_) (fun q => ?_)
  · replace w := w.1 q
    refine ab_fin.q_inc (n := 2) (c := 1) (pc' := 207) (lv' := [(2, .int (l2 + 1)), (0, .ref 0), (3, .int l3)]) (by decide +kernel) (by decide) rfl rfl rfl rfl ?_
    refine ab_fin.s3 (i := .goto (-73)) (k := 3) (t := 134) (st' := []) (by decide +kernel) (ab_gto (by decide +kernel)) ?_
    exact ab_fin.lv ⟨(List.forall_mem_cons.mpr ⟨(List.Mem.tail _ (List.Mem.head _)), (List.forall_mem_cons.mpr ⟨(List.Mem.head _), (fun _ h => absurd h List.not_mem_nil)⟩)⟩), (show ([2, 0, 3] : List Nat).Nodup from by decide)⟩ w
  · replace w := w.2 q
    refine ab_fin.s2 (i := .iload_n 2) (k := 1) (pc' := 147) (lv' := [(0, .ref 0), (2, .int l2), (3, .int l3)]) (st' := [.int l2]) (by decide +kernel) rfl rfl ?_
    refine ab_fin.br (c := ¬ l2 = 0) (i := .ifCond .ne 7) (off := 7) (t := 154) (pc' := 150) (r := []) (by decide +kernel) rfl (by decide +kernel) rfl (fun q => ?_) (fun q => ?_)
    · replace w := w.1 q
      refine ab_fin.s7 (i := .ldc2_w 216) (k := 3) (pc' := 157) (st' := [.long 2147483647]) (by decide +kernel) rfl rfl ?_
      exact ab_fin.lv ⟨(List.forall_mem_cons.mpr ⟨(List.Mem.head _), (List.forall_mem_cons.mpr ⟨(List.Mem.tail _ (List.Mem.head _)), (List.forall_mem_cons.mpr ⟨(List.Mem.tail _ (List.Mem.tail _ (List.Mem.head _))), (fun _ h => absurd h List.not_mem_nil)⟩)⟩)⟩), (show ([0, 2, 3] : List Nat).Nodup from by decide)⟩ w
    · replace w := w.2 (Decidable.of_not_not q)
      refine ab_fin.s1l (i := .lconst 0) (k := 1) (pc' := 151) (n := 0) (by decide +kernel) rfl (by decide +kernel) rfl ?_
      refine ab_fin.s3 (i := .goto 6) (k := 3) (t := 157) (st' := [.long 0]) (by decide +kernel) (ab_gto (by decide +kernel)) ?_
      exact ab_fin.lv ⟨(List.forall_mem_cons.mpr ⟨(List.Mem.head _), (List.forall_mem_cons.mpr ⟨(List.Mem.tail _ (List.Mem.head _)), (List.forall_mem_cons.mpr ⟨(List.Mem.tail _ (List.Mem.tail _ (List.Mem.head _))), (fun _ h => absurd h List.not_mem_nil)⟩)⟩)⟩), (show ([0, 2, 3] : List Nat).Nodup from by decide)⟩ w
theorem S_X23_see_157 {Z : zT} {d : Nat} {σ : Sg} {l2 : Int32} {l3 : Int32} {s0 : Int64} {K : kS} (F : FX ΦR σ.sh σ.r) (w : (¬ l3 = 0 → B_X23_see_170 Z (d + 1) σ l2 l3 s0 2147483648 K) ∧ (l3 = 0 → B_X23_see_170 Z (d + 1) σ l2 l3 s0 0 K)) : B_X23_see_157 Z (d + 1) σ l2 l3 s0 K := by
  unfold B_X23_see_157
  refine ab_fin.s2 (i := .lstore 4) (k := 2) (pc' := 159) (lv' := [(4, .long s0), (0, .ref 0), (2, .int l2), (3, .int l3)]) (st' := []) (by decide +kernel) rfl rfl ?_
  refine ab_fin.s2 (i := .iload_n 3) (k := 1) (pc' := 160) (lv' := [(4, .long s0), (0, .ref 0), (2, .int l2), (3, .int l3)]) (st' := [.int l3]) (by decide +kernel) rfl rfl ?_
  refine ab_fin.br (c := ¬ l3 = 0) (i := .ifCond .ne 7) (off := 7) (t := 167) (pc' := 163) (r := []) (by decide +kernel) rfl (by decide +kernel) rfl (fun q => ?_) (fun q => ?_)
  · replace w := w.1 q
    refine ab_fin.s7 (i := .ldc2_w 555) (k := 3) (pc' := 170) (st' := [.long 2147483648]) (by decide +kernel) rfl rfl ?_
    exact ab_fin.lv ⟨(List.forall_mem_cons.mpr ⟨(List.Mem.tail _ (List.Mem.head _)), (List.forall_mem_cons.mpr ⟨(List.Mem.tail _ (List.Mem.tail _ (List.Mem.head _))), (List.forall_mem_cons.mpr ⟨(List.Mem.tail _ (List.Mem.tail _ (List.Mem.tail _ (List.Mem.head _)))), (List.forall_mem_cons.mpr ⟨(List.Mem.head _), (fun _ h => absurd h List.not_mem_nil)⟩)⟩)⟩)⟩), (show ([4, 0, 2, 3] : List Nat).Nodup from by decide)⟩ w
  · replace w := w.2 (Decidable.of_not_not q)
    refine ab_fin.s1l (i := .lconst 0) (k := 1) (pc' := 164) (n := 0) (by decide +kernel) rfl (by decide +kernel) rfl ?_
    refine ab_fin.s3 (i := .goto 6) (k := 3) (t := 170) (st' := [.long 0]) (by decide +kernel) (ab_gto (by decide +kernel)) ?_
    exact ab_fin.lv ⟨(List.forall_mem_cons.mpr ⟨(List.Mem.tail _ (List.Mem.head _)), (List.forall_mem_cons.mpr ⟨(List.Mem.tail _ (List.Mem.tail _ (List.Mem.head _))), (List.forall_mem_cons.mpr ⟨(List.Mem.tail _ (List.Mem.tail _ (List.Mem.tail _ (List.Mem.head _)))), (List.forall_mem_cons.mpr ⟨(List.Mem.head _), (fun _ h => absurd h List.not_mem_nil)⟩)⟩)⟩)⟩), (show ([4, 0, 2, 3] : List Nat).Nodup from by decide)⟩ w
theorem S_X23_see_170 {Z : zT} {d : Nat} {σ : Sg} {l2 : Int32} {l3 : Int32} {l4 : Int64} {s0 : Int64} {K : kS} (F : FX ΦR σ.sh σ.r) (w : (¬ l2 = l3 → ib (((4 : Int32) * l2) + l3) 16 ∧ (B_X23_see_141 Z (d + 1) (σ.wl (1937 + 1 + 0) ((((4 : Int32) * l2) + l3).toNatClampNeg) (l4 + s0)) l2 (l3 + 1) K)) ∧ (l2 = l3 → ib (((4 : Int32) * l2) + l3) 16 ∧ (B_X23_see_141 Z (d + 1) (σ.wl (1937 + 1 + 0) ((((4 : Int32) * l2) + l3).toNatClampNeg) (0 : Int64)) l2 (l3 + 1) K))) : B_X23_see_170 Z (d + 1) σ l2 l3 l4 s0 K := by
  unfold B_X23_see_170
  refine ab_fin.s2 (i := .lstore 6) (k := 2) (pc' := 172) (lv' := [(6, .long s0), (0, .ref 0), (2, .int l2), (3, .int l3), (4, .long l4)]) (st' := []) (by decide +kernel) rfl rfl ?_
  refine ab_fin.s2 (i := .aload_n 0) (k := 1) (pc' := 173) (lv' := [(6, .long s0), (0, .ref 0), (2, .int l2), (3, .int l3), (4, .long l4)]) (st' := [.ref 0]) (by decide +kernel) rfl rfl ?_
  refine ab_fin.q_rA (b := 1937) (ix := 557) (ci := 24) (k := 46) (pc' := 176) (by decide +kernel) rfl (c_rA (F.s s0_0) rfl (rM_46 F)) rfl ?_
  refine ab_fin.s1i (i := .iconst 0) (k := 1) (pc' := 177) (n := 0) (by decide +kernel) rfl (by decide +kernel) rfl ?_
  refine ab_fin.q_eA (b := (1937 + 1 + 0)) (pc' := 178) (by decide +kernel) (c_eA' (F.s s0_1937) (by decide) rfl (show ib (0 : Int32) 129 by decide +kernel) (by decide +kernel) (rE_11 F s0_1937)) rfl ?_
  refine ab_fin.s1i (i := .iconst 4) (k := 1) (pc' := 179) (n := 4) (by decide +kernel) rfl (by decide +kernel) rfl ?_
  refine ab_fin.s2 (i := .iload_n 2) (k := 1) (pc' := 180) (lv' := [(6, .long s0), (0, .ref 0), (2, .int l2), (3, .int l3), (4, .long l4)]) (st' := [.int l2, .int 4, .ref (1937 + 1 + 0)]) (by decide +kernel) rfl rfl ?_
  refine ab_fin.s1 (i := .imul) (k := 1) (pc' := 181) (st' := [.int ((4 : Int32) * l2), .ref (1937 + 1 + 0)]) (by decide +kernel) rfl rfl ?_
  refine ab_fin.s2 (i := .iload_n 3) (k := 1) (pc' := 182) (lv' := [(6, .long s0), (0, .ref 0), (2, .int l2), (3, .int l3), (4, .long l4)]) (st' := [.int l3, .int ((4 : Int32) * l2), .ref (1937 + 1 + 0)]) (by decide +kernel) rfl rfl ?_
  refine ab_fin.s1 (i := .iadd) (k := 1) (pc' := 183) (st' := [.int (((4 : Int32) * l2) + l3), .ref (1937 + 1 + 0)]) (by decide +kernel) rfl rfl ?_
  refine ab_fin.s2 (i := .iload_n 2) (k := 1) (pc' := 184) (lv' := [(6, .long s0), (0, .ref 0), (2, .int l2), (3, .int l3), (4, .long l4)]) (st' := [.int l2, .int (((4 : Int32) * l2) + l3), .ref (1937 + 1 + 0)]) (by decide +kernel) rfl rfl ?_
  refine ab_fin.s2 (i := .iload_n 3) (k := 1) (pc' := 185) (lv' := [(6, .long s0), (0, .ref 0), (2, .int l2), (3, .int l3), (4, .long l4)]) (st' := [.int l3, .int l2, .int (((4 : Int32) * l2) + l3), .ref (1937 + 1 + 0)]) (by decide +kernel) rfl rfl ?_
  refine ab_fin.br (c := ¬ l2 = l3) (i := .if_icmp .ne 7) (off := 7) (t := 192) (pc' := 188) (r := [.int (((4 : Int32) * l2) + l3), .ref (1937 + 1 + 0)]) (by decide +kernel) rfl (by decide +kernel) rfl (fun q => ?_) (fun q => ?_)
  · replace w := w.1 q
    refine ab_fin.s2 (i := .lload 4) (k := 2) (pc' := 194) (lv' := [(6, .long s0), (0, .ref 0), (2, .int l2), (3, .int l3), (4, .long l4)]) (st' := [.long l4, .int (((4 : Int32) * l2) + l3), .ref (1937 + 1 + 0)]) (by decide +kernel) rfl rfl ?_
    refine ab_fin.s2 (i := .lload 6) (k := 2) (pc' := 196) (lv' := [(6, .long s0), (0, .ref 0), (2, .int l2), (3, .int l3), (4, .long l4)]) (st' := [.long s0, .long l4, .int (((4 : Int32) * l2) + l3), .ref (1937 + 1 + 0)]) (by decide +kernel) rfl rfl ?_
    refine ab_fin.s1 (i := .ladd) (k := 1) (pc' := 197) (st' := [.long (l4 + s0), .int (((4 : Int32) * l2) + l3), .ref (1937 + 1 + 0)]) (by decide +kernel) rfl rfl ?_
    obtain ⟨e1, w⟩ := w
    refine ab_fin.q_sL (h1 := conc (σ.wl (1937 + 1 + 0) ((((4 : Int32) * l2) + l3).toNatClampNeg) (l4 + s0))) (pc' := 198) (by decide +kernel) (c_sL' (F.s (kE_1937 (show 0 < 129 by decide))) e1 rfl) rfl ?_
    refine ab_fin.q_inc (n := 3) (c := 1) (pc' := 201) (lv' := [(3, .int (l3 + 1)), (6, .long s0), (0, .ref 0), (2, .int l2), (4, .long l4)]) (by decide +kernel) (by decide) rfl rfl rfl rfl ?_
    refine ab_fin.s3 (i := .goto (-60)) (k := 3) (t := 141) (st' := []) (by decide +kernel) (ab_gto (by decide +kernel)) ?_
    exact ab_fin.lv ⟨(List.forall_mem_cons.mpr ⟨(List.Mem.tail _ (List.Mem.tail _ (List.Mem.head _))), (List.forall_mem_cons.mpr ⟨(List.Mem.tail _ (List.Mem.tail _ (List.Mem.tail _ (List.Mem.head _)))), (List.forall_mem_cons.mpr ⟨(List.Mem.head _), (fun _ h => absurd h List.not_mem_nil)⟩)⟩)⟩), (show ([3, 6, 0, 2, 4] : List Nat).Nodup from by decide)⟩ w
  · replace w := w.2 (Decidable.of_not_not q)
    refine ab_fin.s1l (i := .lconst 0) (k := 1) (pc' := 189) (n := 0) (by decide +kernel) rfl (by decide +kernel) rfl ?_
    refine ab_fin.s3 (i := .goto 8) (k := 3) (t := 197) (st' := [.long 0, .int (((4 : Int32) * l2) + l3), .ref (1937 + 1 + 0)]) (by decide +kernel) (ab_gto (by decide +kernel)) ?_
    obtain ⟨e2, w⟩ := w
    refine ab_fin.q_sL (h1 := conc (σ.wl (1937 + 1 + 0) ((((4 : Int32) * l2) + l3).toNatClampNeg) (0 : Int64))) (pc' := 198) (by decide +kernel) (c_sL' (F.s (kE_1937 (show 0 < 129 by decide))) e2 rfl) rfl ?_
    refine ab_fin.q_inc (n := 3) (c := 1) (pc' := 201) (lv' := [(3, .int (l3 + 1)), (6, .long s0), (0, .ref 0), (2, .int l2), (4, .long l4)]) (by decide +kernel) (by decide) rfl rfl rfl rfl ?_
    refine ab_fin.s3 (i := .goto (-60)) (k := 3) (t := 141) (st' := []) (by decide +kernel) (ab_gto (by decide +kernel)) ?_
    exact ab_fin.lv ⟨(List.forall_mem_cons.mpr ⟨(List.Mem.tail _ (List.Mem.tail _ (List.Mem.head _))), (List.forall_mem_cons.mpr ⟨(List.Mem.tail _ (List.Mem.tail _ (List.Mem.tail _ (List.Mem.head _)))), (List.forall_mem_cons.mpr ⟨(List.Mem.head _), (fun _ h => absurd h List.not_mem_nil)⟩)⟩)⟩), (show ([3, 6, 0, 2, 4] : List Nat).Nodup from by decide)⟩ w
theorem S_X23_explore_0 {Z : zT} {d : Nat} {σ : Sg} {l1 : Int32} {K : kS} (F : FX ΦR σ.sh σ.r) (w : (¬ (σ.i 0 54) = ((1 : Int32) <<< ((σ.i 0 50) &&& 31)) → B_X23_explore_31 Z (d + 1) ((σ.wi 0 48 (0 : Int32)).wi 0 53 l1) l1 0 1 0 K) ∧ ((σ.i 0 54) = ((1 : Int32) <<< ((σ.i 0 50) &&& 31)) → K (.inl none) σ)) : B_X23_explore_0 Z (d + 1) σ l1 K := by
  unfold B_X23_explore_0
  refine ab_fin.s2 (i := .aload_n 0) (k := 1) (pc' := 1) (lv' := [(0, .ref 0), (1, .int l1)]) (st' := [.ref 0]) (by decide +kernel) rfl rfl ?_
  refine ab_fin.q_rI (x := (σ.i 0 54)) (ix := 560) (ci := 24) (k := 54) (pc' := 4) (by decide +kernel) rfl (c_rI (F.s s0_0) rfl) rfl ?_
  refine ab_fin.s1i (i := .iconst 1) (k := 1) (pc' := 5) (n := 1) (by decide +kernel) rfl (by decide +kernel) rfl ?_
  refine ab_fin.s2 (i := .aload_n 0) (k := 1) (pc' := 6) (lv' := [(0, .ref 0), (1, .int l1)]) (st' := [.ref 0, .int 1, .int (σ.i 0 54)]) (by decide +kernel) rfl rfl ?_
  refine ab_fin.q_rI (x := (σ.i 0 50)) (ix := 546) (ci := 24) (k := 50) (pc' := 9) (by decide +kernel) rfl (c_rI (F.s s0_0) rfl) rfl ?_
  refine ab_fin.s1 (i := .ishl) (k := 1) (pc' := 10) (st' := [.int ((1 : Int32) <<< ((σ.i 0 50) &&& 31)), .int (σ.i 0 54)]) (by decide +kernel) rfl rfl ?_
  refine ab_fin.br (c := ¬ (σ.i 0 54) = ((1 : Int32) <<< ((σ.i 0 50) &&& 31))) (i := .if_icmp .ne 4) (off := 4) (t := 14) (pc' := 13) (r := []) (by decide +kernel) rfl (by decide +kernel) rfl (fun q => ?_) (fun q => ?_)
  · replace w := w.1 q
    refine ab_fin.s1i (i := .iconst 0) (k := 1) (pc' := 15) (n := 0) (by decide +kernel) rfl (by decide +kernel) rfl ?_
    refine ab_fin.s2 (i := .istore_n 2) (k := 1) (pc' := 16) (lv' := [(2, .int 0), (0, .ref 0), (1, .int l1)]) (st' := []) (by decide +kernel) rfl rfl ?_
    refine ab_fin.s1i (i := .iconst 1) (k := 1) (pc' := 17) (n := 1) (by decide +kernel) rfl (by decide +kernel) rfl ?_
    refine ab_fin.s2 (i := .istore_n 3) (k := 1) (pc' := 18) (lv' := [(3, .int 1), (2, .int 0), (0, .ref 0), (1, .int l1)]) (st' := []) (by decide +kernel) rfl rfl ?_
    refine ab_fin.s2 (i := .aload_n 0) (k := 1) (pc' := 19) (lv' := [(3, .int 1), (2, .int 0), (0, .ref 0), (1, .int l1)]) (st' := [.ref 0]) (by decide +kernel) rfl rfl ?_
    refine ab_fin.s1i (i := .iconst 0) (k := 1) (pc' := 20) (n := 0) (by decide +kernel) rfl (by decide +kernel) rfl ?_
    refine ab_fin.q_pF (ix := 566) (ci := 24) (k := 48) (h1 := conc (σ.wi 0 48 (0 : Int32))) (pc' := 23) (by decide +kernel) rfl (c_pI (v := 0) (F.s s0_0) rfl) rfl rfl rfl ?_
    refine ab_fin.s2 (i := .aload_n 0) (k := 1) (pc' := 24) (lv' := [(3, .int 1), (2, .int 0), (0, .ref 0), (1, .int l1)]) (st' := [.ref 0]) (by decide +kernel) rfl rfl ?_
    refine ab_fin.s2 (i := .iload_n 1) (k := 1) (pc' := 25) (lv' := [(3, .int 1), (2, .int 0), (0, .ref 0), (1, .int l1)]) (st' := [.int l1, .ref 0]) (by decide +kernel) rfl rfl ?_
    refine ab_fin.q_pF (ix := 569) (ci := 24) (k := 53) (h1 := conc ((σ.wi 0 48 (0 : Int32)).wi 0 53 l1)) (pc' := 28) (by decide +kernel) rfl (c_pI (v := l1) (F.s s0_0) rfl) rfl rfl rfl ?_
    refine ab_fin.s1i (i := .iconst 0) (k := 1) (pc' := 29) (n := 0) (by decide +kernel) rfl (by decide +kernel) rfl ?_
    refine ab_fin.s2 (i := .istore 4) (k := 2) (pc' := 31) (lv' := [(4, .int 0), (3, .int 1), (2, .int 0), (0, .ref 0), (1, .int l1)]) (st' := []) (by decide +kernel) rfl rfl ?_
    exact ab_fin.lv ⟨(List.forall_mem_cons.mpr ⟨(List.Mem.tail _ (List.Mem.tail _ (List.Mem.tail _ (List.Mem.head _)))), (List.forall_mem_cons.mpr ⟨(List.Mem.tail _ (List.Mem.tail _ (List.Mem.tail _ (List.Mem.tail _ (List.Mem.head _))))), (List.forall_mem_cons.mpr ⟨(List.Mem.tail _ (List.Mem.tail _ (List.Mem.head _))), (List.forall_mem_cons.mpr ⟨(List.Mem.tail _ (List.Mem.head _)), (List.forall_mem_cons.mpr ⟨(List.Mem.head _), (fun _ h => absurd h List.not_mem_nil)⟩)⟩)⟩)⟩)⟩), (show ([4, 3, 2, 0, 1] : List Nat).Nodup from by decide)⟩ w
  · replace w := w.2 (Decidable.of_not_not q)
    exact ab_fin.q_ret (i := .return_) (k := 1) (v := none) (by decide +kernel) rfl F w
theorem S_X23_explore_31 {Z : zT} {d : Nat} {σ : Sg} {l1 : Int32} {l2 : Int32} {l3 : Int32} {l4 : Int32} {K : kS} (F : FX ΦR σ.sh σ.r) (w : ((σ.i 0 50) ≤ l4 → (l3 = 0 → ib l1 128 ∧ (ib l1 128 ∧ (ib l1 128 ∧ (B_X23_explore_151 Z (d + 1) σ l1 (σ.i 1933 l1.toNatClampNeg) (σ.i 1934 l1.toNatClampNeg) (σ.l 1936 l1.toNatClampNeg) (-1) K)))) ∧ (¬ l3 = 0 → ib l2 256 ∧ ((¬ (σ.i 2068 l2.toNatClampNeg) = 0 → ib l2 256 ∧ (K (.inl none) (σ.wi 2068 l2.toNatClampNeg (vp_nar .boolean (1 : Int32))))) ∧ ((σ.i 2068 l2.toNatClampNeg) = 0 → ib l2 256 ∧ (K (.inl none) ((σ.wi 0 54 ((σ.i 0 54) + (1 : Int32))).wi 2068 l2.toNatClampNeg (vp_nar .boolean (1 : Int32)))))))) ∧ (¬ (σ.i 0 50) ≤ l4 → ib l4 8 ∧ (ib (σ.i 2067 l4.toNatClampNeg) 121 ∧ (B_X23_takes_0 Z d σ (2497 + 4 * ((σ.i 2067 l4.toNatClampNeg).toNatClampNeg)) (yI K fun v11 τ9 => (l3 = 0 → B_X23_explore_72 Z (d + 1) τ9 l1 l2 l4 v11 K) ∧ (¬ l3 = 0 → (v11 = 2 → B_X23_explore_72 Z (d + 1) τ9 l1 l2 l4 v11 K) ∧ (¬ v11 = 2 → B_X23_explore_73 Z (d + 1) τ9 l1 l2 l4 v11 1 K))))))) : B_X23_explore_31 Z (d + 1) σ l1 l2 l3 l4 K := by
  unfold B_X23_explore_31
  refine ab_fin.s2 (i := .iload 4) (k := 2) (pc' := 33) (lv' := [(0, .ref 0), (1, .int l1), (2, .int l2), (3, .int l3), (4, .int l4)]) (st' := [.int l4]) (by decide +kernel) rfl rfl ?_
  refine ab_fin.s2 (i := .aload_n 0) (k := 1) (pc' := 34) (lv' := [(0, .ref 0), (1, .int l1), (2, .int l2), (3, .int l3), (4, .int l4)]) (st' := [.ref 0, .int l4]) (by decide +kernel) rfl rfl ?_
  refine ab_fin.q_rI (x := (σ.i 0 50)) (ix := 546) (ci := 24) (k := 50) (pc' := 37) (by decide +kernel) rfl (c_rI (F.s s0_0) rfl) rfl ?_
  refine ab_fin.br (c := (σ.i 0 50) ≤ l4) (i := .if_icmp .ge 56) (off := 56) (t := 93) (pc' := 40) (r := []) (by decide +kernel) rfl (by decide +kernel) rfl (fun q => ?_) (fun q => ?_)
  · replace w := w.1 q
    refine ab_fin.s2 (i := .iload_n 3) (k := 1) (pc' := 94) (lv' := [(0, .ref 0), (1, .int l1), (2, .int l2), (3, .int l3), (4, .int l4)]) (st' := [.int l3]) (by decide +kernel) rfl rfl ?_
    refine ab_fin.br (c := l3 = 0) (i := .ifCond .eq 30) (off := 30) (t := 124) (pc' := 97) (r := []) (by decide +kernel) rfl (by decide +kernel) rfl (fun q => ?_) (fun q => ?_)
    · replace w := w.1 q
      refine ab_fin.s2 (i := .aload_n 0) (k := 1) (pc' := 125) (lv' := [(0, .ref 0), (1, .int l1), (2, .int l2), (3, .int l3), (4, .int l4)]) (st' := [.ref 0]) (by decide +kernel) rfl rfl ?_
      refine ab_fin.q_rA (b := 1933) (ix := 523) (ci := 24) (k := 42) (pc' := 128) (by decide +kernel) rfl (c_rA (F.s s0_0) rfl (rM_42 F)) rfl ?_
      refine ab_fin.s2 (i := .iload_n 1) (k := 1) (pc' := 129) (lv' := [(0, .ref 0), (1, .int l1), (2, .int l2), (3, .int l3), (4, .int l4)]) (st' := [.int l1, .ref 1933]) (by decide +kernel) rfl rfl ?_
      obtain ⟨e1, w⟩ := w
      refine ab_fin.q_eI (x := (σ.i 1933 l1.toNatClampNeg)) (pc' := 130) (by decide +kernel) (c_eI' (F.s s0_1933) e1 rfl) rfl ?_
      refine ab_fin.s2 (i := .istore 4) (k := 2) (pc' := 132) (lv' := [(4, .int (σ.i 1933 l1.toNatClampNeg)), (0, .ref 0), (1, .int l1), (2, .int l2), (3, .int l3)]) (st' := []) (by decide +kernel) rfl rfl ?_
      refine ab_fin.s2 (i := .aload_n 0) (k := 1) (pc' := 133) (lv' := [(4, .int (σ.i 1933 l1.toNatClampNeg)), (0, .ref 0), (1, .int l1), (2, .int l2), (3, .int l3)]) (st' := [.ref 0]) (by decide +kernel) rfl rfl ?_
      refine ab_fin.q_rA (b := 1934) (ix := 529) (ci := 24) (k := 43) (pc' := 136) (by decide +kernel) rfl (c_rA (F.s s0_0) rfl (rM_43 F)) rfl ?_
      refine ab_fin.s2 (i := .iload_n 1) (k := 1) (pc' := 137) (lv' := [(4, .int (σ.i 1933 l1.toNatClampNeg)), (0, .ref 0), (1, .int l1), (2, .int l2), (3, .int l3)]) (st' := [.int l1, .ref 1934]) (by decide +kernel) rfl rfl ?_
      obtain ⟨e2, w⟩ := w
      refine ab_fin.q_eI (x := (σ.i 1934 l1.toNatClampNeg)) (pc' := 138) (by decide +kernel) (c_eI' (F.s s0_1934) e2 rfl) rfl ?_
      refine ab_fin.s2 (i := .istore 5) (k := 2) (pc' := 140) (lv' := [(5, .int (σ.i 1934 l1.toNatClampNeg)), (4, .int (σ.i 1933 l1.toNatClampNeg)), (0, .ref 0), (1, .int l1), (2, .int l2), (3, .int l3)]) (st' := []) (by decide +kernel) rfl rfl ?_
      refine ab_fin.s2 (i := .aload_n 0) (k := 1) (pc' := 141) (lv' := [(5, .int (σ.i 1934 l1.toNatClampNeg)), (4, .int (σ.i 1933 l1.toNatClampNeg)), (0, .ref 0), (1, .int l1), (2, .int l2), (3, .int l3)]) (st' := [.ref 0]) (by decide +kernel) rfl rfl ?_
      refine ab_fin.q_rA (b := 1936) (ix := 532) (ci := 24) (k := 45) (pc' := 144) (by decide +kernel) rfl (c_rA (F.s s0_0) rfl (rM_45 F)) rfl ?_
      refine ab_fin.s2 (i := .iload_n 1) (k := 1) (pc' := 145) (lv' := [(5, .int (σ.i 1934 l1.toNatClampNeg)), (4, .int (σ.i 1933 l1.toNatClampNeg)), (0, .ref 0), (1, .int l1), (2, .int l2), (3, .int l3)]) (st' := [.int l1, .ref 1936]) (by decide +kernel) rfl rfl ?_
      obtain ⟨e3, w⟩ := w
      refine ab_fin.q_eL (x := (σ.l 1936 l1.toNatClampNeg)) (pc' := 146) (by decide +kernel) (c_eL' (F.s s0_1936) e3 rfl) rfl ?_
      refine ab_fin.s2 (i := .lstore 6) (k := 2) (pc' := 148) (lv' := [(6, .long (σ.l 1936 l1.toNatClampNeg)), (5, .int (σ.i 1934 l1.toNatClampNeg)), (4, .int (σ.i 1933 l1.toNatClampNeg)), (0, .ref 0), (1, .int l1), (2, .int l2), (3, .int l3)]) (st' := []) (by decide +kernel) rfl rfl ?_
      refine ab_fin.s1i (i := .iconst (-1)) (k := 1) (pc' := 149) (n := (-1)) (by decide +kernel) rfl (by decide +kernel) rfl ?_
      refine ab_fin.s2 (i := .istore 8) (k := 2) (pc' := 151) (lv' := [(8, .int (-1)), (6, .long (σ.l 1936 l1.toNatClampNeg)), (5, .int (σ.i 1934 l1.toNatClampNeg)), (4, .int (σ.i 1933 l1.toNatClampNeg)), (0, .ref 0), (1, .int l1), (2, .int l2), (3, .int l3)]) (st' := []) (by decide +kernel) rfl rfl ?_
      exact ab_fin.lv ⟨(List.forall_mem_cons.mpr ⟨(List.Mem.tail _ (List.Mem.tail _ (List.Mem.tail _ (List.Mem.tail _ (List.Mem.head _))))), (List.forall_mem_cons.mpr ⟨(List.Mem.tail _ (List.Mem.tail _ (List.Mem.tail _ (List.Mem.tail _ (List.Mem.tail _ (List.Mem.head _)))))), (List.forall_mem_cons.mpr ⟨(List.Mem.tail _ (List.Mem.tail _ (List.Mem.tail _ (List.Mem.head _)))), (List.forall_mem_cons.mpr ⟨(List.Mem.tail _ (List.Mem.tail _ (List.Mem.head _))), (List.forall_mem_cons.mpr ⟨(List.Mem.tail _ (List.Mem.head _)), (List.forall_mem_cons.mpr ⟨(List.Mem.head _), (fun _ h => absurd h List.not_mem_nil)⟩)⟩)⟩)⟩)⟩)⟩), (show ([8, 6, 5, 4, 0, 1, 2, 3] : List Nat).Nodup from by decide)⟩ w
    · replace w := w.2 q
      refine ab_fin.s2 (i := .aload_n 0) (k := 1) (pc' := 98) (lv' := [(0, .ref 0), (1, .int l1), (2, .int l2), (3, .int l3), (4, .int l4)]) (st' := [.ref 0]) (by decide +kernel) rfl rfl ?_
      refine ab_fin.q_rA (b := 2068) (ix := 552) (ci := 24) (k := 52) (pc' := 101) (by decide +kernel) rfl (c_rA (F.s s0_0) rfl (rM_52 F)) rfl ?_
      refine ab_fin.s2 (i := .iload_n 2) (k := 1) (pc' := 102) (lv' := [(0, .ref 0), (1, .int l1), (2, .int l2), (3, .int l3), (4, .int l4)]) (st' := [.int l2, .ref 2068]) (by decide +kernel) rfl rfl ?_
      obtain ⟨e4, w⟩ := w
      refine ab_fin.q_eB (x := (σ.i 2068 l2.toNatClampNeg)) (pc' := 103) (by decide +kernel) (c_eB3' (F.s s0_2068) e4 rfl) rfl ?_
      refine ab_fin.br (c := ¬ (σ.i 2068 l2.toNatClampNeg) = 0) (i := .ifCond .ne 13) (off := 13) (t := 116) (pc' := 106) (r := []) (by decide +kernel) rfl (by decide +kernel) rfl (fun q => ?_) (fun q => ?_)
      · replace w := w.1 q
        refine ab_fin.s2 (i := .aload_n 0) (k := 1) (pc' := 117) (lv' := [(0, .ref 0), (1, .int l1), (2, .int l2), (3, .int l3), (4, .int l4)]) (st' := [.ref 0]) (by decide +kernel) rfl rfl ?_
        refine ab_fin.q_rA (b := 2068) (ix := 552) (ci := 24) (k := 52) (pc' := 120) (by decide +kernel) rfl (c_rA (F.s s0_0) rfl (rM_52 F)) rfl ?_
        refine ab_fin.s2 (i := .iload_n 2) (k := 1) (pc' := 121) (lv' := [(0, .ref 0), (1, .int l1), (2, .int l2), (3, .int l3), (4, .int l4)]) (st' := [.int l2, .ref 2068]) (by decide +kernel) rfl rfl ?_
        refine ab_fin.s1i (i := .iconst 1) (k := 1) (pc' := 122) (n := 1) (by decide +kernel) rfl (by decide +kernel) rfl ?_
        obtain ⟨e5, w⟩ := w
        refine ab_fin.q_sB (h1 := conc (σ.wi 2068 l2.toNatClampNeg (vp_nar .boolean (1 : Int32)))) (pc' := 123) (by decide +kernel) (c_sB3' (F.s s0_2068) e5 rfl) rfl ?_
        exact ab_fin.q_ret (i := .return_) (k := 1) (v := none) (by decide +kernel) rfl F w
      · replace w := w.2 (Decidable.of_not_not q)
        refine ab_fin.s2 (i := .aload_n 0) (k := 1) (pc' := 107) (lv' := [(0, .ref 0), (1, .int l1), (2, .int l2), (3, .int l3), (4, .int l4)]) (st' := [.ref 0]) (by decide +kernel) rfl rfl ?_
        refine ab_fin.s1 (i := .dup) (k := 1) (pc' := 108) (st' := [.ref 0, .ref 0]) (by decide +kernel) rfl rfl ?_
        refine ab_fin.q_rI (x := (σ.i 0 54)) (ix := 560) (ci := 24) (k := 54) (pc' := 111) (by decide +kernel) rfl (c_rI (F.s s0_0) rfl) rfl ?_
        refine ab_fin.s1i (i := .iconst 1) (k := 1) (pc' := 112) (n := 1) (by decide +kernel) rfl (by decide +kernel) rfl ?_
        refine ab_fin.s1 (i := .iadd) (k := 1) (pc' := 113) (st' := [.int ((σ.i 0 54) + (1 : Int32)), .ref 0]) (by decide +kernel) rfl rfl ?_
        refine ab_fin.q_pF (ix := 560) (ci := 24) (k := 54) (h1 := conc (σ.wi 0 54 ((σ.i 0 54) + (1 : Int32)))) (pc' := 116) (by decide +kernel) rfl (c_pI (v := ((σ.i 0 54) + (1 : Int32))) (F.s s0_0) rfl) rfl rfl rfl ?_
        refine ab_fin.s2 (i := .aload_n 0) (k := 1) (pc' := 117) (lv' := [(0, .ref 0), (1, .int l1), (2, .int l2), (3, .int l3), (4, .int l4)]) (st' := [.ref 0]) (by decide +kernel) rfl rfl ?_
        refine ab_fin.q_rA (b := 2068) (ix := 552) (ci := 24) (k := 52) (pc' := 120) (by decide +kernel) rfl (c_rA (F.s s0_0) rfl (rM_52 F)) rfl ?_
        refine ab_fin.s2 (i := .iload_n 2) (k := 1) (pc' := 121) (lv' := [(0, .ref 0), (1, .int l1), (2, .int l2), (3, .int l3), (4, .int l4)]) (st' := [.int l2, .ref 2068]) (by decide +kernel) rfl rfl ?_
        refine ab_fin.s1i (i := .iconst 1) (k := 1) (pc' := 122) (n := 1) (by decide +kernel) rfl (by decide +kernel) rfl ?_
        obtain ⟨e6, w⟩ := w
        refine ab_fin.q_sB (h1 := conc ((σ.wi 0 54 ((σ.i 0 54) + (1 : Int32))).wi 2068 l2.toNatClampNeg (vp_nar .boolean (1 : Int32)))) (pc' := 123) (by decide +kernel) (c_sB3' (F.s s0_2068) e6 rfl) rfl ?_
        exact ab_fin.q_ret (i := .return_) (k := 1) (v := none) (by decide +kernel) rfl F w
  · replace w := w.2 q
    refine ab_fin.s2 (i := .aload_n 0) (k := 1) (pc' := 41) (lv' := [(0, .ref 0), (1, .int l1), (2, .int l2), (3, .int l3), (4, .int l4)]) (st' := [.ref 0]) (by decide +kernel) rfl rfl ?_
    refine ab_fin.s2 (i := .aload_n 0) (k := 1) (pc' := 42) (lv' := [(0, .ref 0), (1, .int l1), (2, .int l2), (3, .int l3), (4, .int l4)]) (st' := [.ref 0, .ref 0]) (by decide +kernel) rfl rfl ?_
    refine ab_fin.q_rA (b := 3) (ix := 315) (ci := 24) (k := 2) (pc' := 45) (by decide +kernel) rfl (c_rA (F.s s0_0) rfl (rM_2 F)) rfl ?_
    refine ab_fin.s2 (i := .aload_n 0) (k := 1) (pc' := 46) (lv' := [(0, .ref 0), (1, .int l1), (2, .int l2), (3, .int l3), (4, .int l4)]) (st' := [.ref 0, .ref 3, .ref 0]) (by decide +kernel) rfl rfl ?_
    refine ab_fin.q_rA (b := 2067) (ix := 549) (ci := 24) (k := 49) (pc' := 49) (by decide +kernel) rfl (c_rA (F.s s0_0) rfl (rM_49 F)) rfl ?_
    refine ab_fin.s2 (i := .iload 4) (k := 2) (pc' := 51) (lv' := [(0, .ref 0), (1, .int l1), (2, .int l2), (3, .int l3), (4, .int l4)]) (st' := [.int l4, .ref 2067, .ref 3, .ref 0]) (by decide +kernel) rfl rfl ?_
    obtain ⟨e7, w⟩ := w
    refine ab_fin.q_eI (x := (σ.i 2067 l4.toNatClampNeg)) (pc' := 52) (by decide +kernel) (c_eI' (F.s s0_2067) e7 rfl) rfl ?_
    obtain ⟨e8, w⟩ := w
    refine ab_fin.q_eA (b := (2497 + 4 * ((σ.i 2067 l4.toNatClampNeg).toNatClampNeg))) (pc' := 53) (by decide +kernel) (c_eA' (F.s s0_3) (by decide) rfl e8 rfl (rE_6 F s0_3 (by decide))) rfl ?_
    refine ab_fin.q_yI (i := .invokevirtual 572) (k := 3) (y := 5947) (As := [.ref 0, .ref (2497 + 4 * ((σ.i 2067 l4.toNatClampNeg).toNatClampNeg))]) (rest := []) (M' := (mX23_takes, [])) (lv2 := [(0, .ref 0), (1, .ref (2497 + 4 * ((σ.i 2067 l4.toNatClampNeg).toNatClampNeg)))]) (pc' := 56) (X := K) (by decide +kernel) (ab_cv rfl rfl (conc_get (σ := σ) (F.s s0_0)) ⟨(Nat.le_of_ble_eq_true rfl), (Nat.le_of_ble_eq_true rfl)⟩ rfl) rfl (Nat.le_of_ble_eq_true rfl) rfl rfl (hY_no fun E => rfl) w (fun v11 τ9 F10 w => ?_)
    refine ab_fin.s2 (i := .istore 5) (k := 2) (pc' := 58) (lv' := [(5, .int v11), (0, .ref 0), (1, .int l1), (2, .int l2), (3, .int l3), (4, .int l4)]) (st' := []) (by decide +kernel) rfl rfl ?_
    refine ab_fin.s2 (i := .iload_n 3) (k := 1) (pc' := 59) (lv' := [(5, .int v11), (0, .ref 0), (1, .int l1), (2, .int l2), (3, .int l3), (4, .int l4)]) (st' := [.int l3]) (by decide +kernel) rfl rfl ?_
    refine ab_fin.br (c := l3 = 0) (i := .ifCond .eq 13) (off := 13) (t := 72) (pc' := 62) (r := []) (by decide +kernel) rfl (by decide +kernel) rfl (fun q => ?_) (fun q => ?_)
    · replace w := w.1 q
      exact ab_fin.lv ⟨(List.forall_mem_cons.mpr ⟨(List.Mem.tail _ (List.Mem.head _)), (List.forall_mem_cons.mpr ⟨(List.Mem.tail _ (List.Mem.tail _ (List.Mem.head _))), (List.forall_mem_cons.mpr ⟨(List.Mem.tail _ (List.Mem.tail _ (List.Mem.tail _ (List.Mem.head _)))), (List.forall_mem_cons.mpr ⟨(List.Mem.tail _ (List.Mem.tail _ (List.Mem.tail _ (List.Mem.tail _ (List.Mem.tail _ (List.Mem.head _)))))), (List.forall_mem_cons.mpr ⟨(List.Mem.head _), (fun _ h => absurd h List.not_mem_nil)⟩)⟩)⟩)⟩)⟩), (show ([5, 0, 1, 2, 3, 4] : List Nat).Nodup from by decide)⟩ w
    · replace w := w.2 q
      refine ab_fin.s2 (i := .iload 5) (k := 2) (pc' := 64) (lv' := [(5, .int v11), (0, .ref 0), (1, .int l1), (2, .int l2), (3, .int l3), (4, .int l4)]) (st' := [.int v11]) (by decide +kernel) rfl rfl ?_
      refine ab_fin.s1i (i := .iconst 2) (k := 1) (pc' := 65) (n := 2) (by decide +kernel) rfl (by decide +kernel) rfl ?_
      refine ab_fin.br (c := v11 = 2) (i := .if_icmp .eq 7) (off := 7) (t := 72) (pc' := 68) (r := []) (by decide +kernel) rfl (by decide +kernel) rfl (fun q => ?_) (fun q => ?_)
      · replace w := w.1 q
        exact ab_fin.lv ⟨(List.forall_mem_cons.mpr ⟨(List.Mem.tail _ (List.Mem.head _)), (List.forall_mem_cons.mpr ⟨(List.Mem.tail _ (List.Mem.tail _ (List.Mem.head _))), (List.forall_mem_cons.mpr ⟨(List.Mem.tail _ (List.Mem.tail _ (List.Mem.tail _ (List.Mem.head _)))), (List.forall_mem_cons.mpr ⟨(List.Mem.tail _ (List.Mem.tail _ (List.Mem.tail _ (List.Mem.tail _ (List.Mem.tail _ (List.Mem.head _)))))), (List.forall_mem_cons.mpr ⟨(List.Mem.head _), (fun _ h => absurd h List.not_mem_nil)⟩)⟩)⟩)⟩)⟩), (show ([5, 0, 1, 2, 3, 4] : List Nat).Nodup from by decide)⟩ w
      · replace w := w.2 q
        refine ab_fin.s1i (i := .iconst 1) (k := 1) (pc' := 69) (n := 1) (by decide +kernel) rfl (by decide +kernel) rfl ?_
        refine ab_fin.s3 (i := .goto 4) (k := 3) (t := 73) (st' := [.int 1]) (by decide +kernel) (ab_gto (by decide +kernel)) ?_
        exact ab_fin.lv ⟨(List.forall_mem_cons.mpr ⟨(List.Mem.tail _ (List.Mem.head _)), (List.forall_mem_cons.mpr ⟨(List.Mem.tail _ (List.Mem.tail _ (List.Mem.head _))), (List.forall_mem_cons.mpr ⟨(List.Mem.tail _ (List.Mem.tail _ (List.Mem.tail _ (List.Mem.head _)))), (List.forall_mem_cons.mpr ⟨(List.Mem.tail _ (List.Mem.tail _ (List.Mem.tail _ (List.Mem.tail _ (List.Mem.tail _ (List.Mem.head _)))))), (List.forall_mem_cons.mpr ⟨(List.Mem.head _), (fun _ h => absurd h List.not_mem_nil)⟩)⟩)⟩)⟩)⟩), (show ([5, 0, 1, 2, 3, 4] : List Nat).Nodup from by decide)⟩ w
theorem S_X23_explore_72 {Z : zT} {d : Nat} {σ : Sg} {l1 : Int32} {l2 : Int32} {l4 : Int32} {l5 : Int32} {K : kS} (F : FX ΦR σ.sh σ.r) (w : B_X23_explore_73 Z (d + 1) σ l1 l2 l4 l5 0 K) : B_X23_explore_72 Z (d + 1) σ l1 l2 l4 l5 K := by
  unfold B_X23_explore_72
  refine ab_fin.s1i (i := .iconst 0) (k := 1) (pc' := 73) (n := 0) (by decide +kernel) rfl (by decide +kernel) rfl ?_
  exact ab_fin.lv ⟨(List.forall_mem_cons.mpr ⟨(List.Mem.head _), (List.forall_mem_cons.mpr ⟨(List.Mem.tail _ (List.Mem.head _)), (List.forall_mem_cons.mpr ⟨(List.Mem.tail _ (List.Mem.tail _ (List.Mem.head _))), (List.forall_mem_cons.mpr ⟨(List.Mem.tail _ (List.Mem.tail _ (List.Mem.tail _ (List.Mem.head _)))), (List.forall_mem_cons.mpr ⟨(List.Mem.tail _ (List.Mem.tail _ (List.Mem.tail _ (List.Mem.tail _ (List.Mem.head _))))), (fun _ h => absurd h List.not_mem_nil)⟩)⟩)⟩)⟩)⟩), (show ([0, 1, 2, 4, 5] : List Nat).Nodup from by decide)⟩ w
theorem S_X23_explore_73 {Z : zT} {d : Nat} {σ : Sg} {l1 : Int32} {l2 : Int32} {l4 : Int32} {l5 : Int32} {s0 : Int32} {K : kS} (F : FX ΦR σ.sh σ.r) (w : (¬ l5 = 1 → B_X23_explore_31 Z (d + 1) σ l1 l2 s0 (l4 + 1) K) ∧ (l5 = 1 → B_X23_explore_31 Z (d + 1) σ l1 (l2 ||| ((1 : Int32) <<< (l4 &&& 31))) s0 (l4 + 1) K)) : B_X23_explore_73 Z (d + 1) σ l1 l2 l4 l5 s0 K := by
  unfold B_X23_explore_73
  refine ab_fin.s2 (i := .istore_n 3) (k := 1) (pc' := 74) (lv' := [(3, .int s0), (0, .ref 0), (1, .int l1), (2, .int l2), (4, .int l4), (5, .int l5)]) (st' := []) (by decide +kernel) rfl rfl ?_
  refine ab_fin.s2 (i := .iload 5) (k := 2) (pc' := 76) (lv' := [(3, .int s0), (0, .ref 0), (1, .int l1), (2, .int l2), (4, .int l4), (5, .int l5)]) (st' := [.int l5]) (by decide +kernel) rfl rfl ?_
  refine ab_fin.s1i (i := .iconst 1) (k := 1) (pc' := 77) (n := 1) (by decide +kernel) rfl (by decide +kernel) rfl ?_
  refine ab_fin.br (c := ¬ l5 = 1) (i := .if_icmp .ne 10) (off := 10) (t := 87) (pc' := 80) (r := []) (by decide +kernel) rfl (by decide +kernel) rfl (fun q => ?_) (fun q => ?_)
  · replace w := w.1 q
    refine ab_fin.q_inc (n := 4) (c := 1) (pc' := 90) (lv' := [(4, .int (l4 + 1)), (3, .int s0), (0, .ref 0), (1, .int l1), (2, .int l2), (5, .int l5)]) (by decide +kernel) (by decide) rfl rfl rfl rfl ?_
    refine ab_fin.s3 (i := .goto (-59)) (k := 3) (t := 31) (st' := []) (by decide +kernel) (ab_gto (by decide +kernel)) ?_
    exact ab_fin.lv ⟨(List.forall_mem_cons.mpr ⟨(List.Mem.tail _ (List.Mem.tail _ (List.Mem.head _))), (List.forall_mem_cons.mpr ⟨(List.Mem.tail _ (List.Mem.tail _ (List.Mem.tail _ (List.Mem.head _)))), (List.forall_mem_cons.mpr ⟨(List.Mem.tail _ (List.Mem.tail _ (List.Mem.tail _ (List.Mem.tail _ (List.Mem.head _))))), (List.forall_mem_cons.mpr ⟨(List.Mem.tail _ (List.Mem.head _)), (List.forall_mem_cons.mpr ⟨(List.Mem.head _), (fun _ h => absurd h List.not_mem_nil)⟩)⟩)⟩)⟩)⟩), (show ([4, 3, 0, 1, 2, 5] : List Nat).Nodup from by decide)⟩ w
  · replace w := w.2 (Decidable.of_not_not q)
    refine ab_fin.s2 (i := .iload_n 2) (k := 1) (pc' := 81) (lv' := [(3, .int s0), (0, .ref 0), (1, .int l1), (2, .int l2), (4, .int l4), (5, .int l5)]) (st' := [.int l2]) (by decide +kernel) rfl rfl ?_
    refine ab_fin.s1i (i := .iconst 1) (k := 1) (pc' := 82) (n := 1) (by decide +kernel) rfl (by decide +kernel) rfl ?_
    refine ab_fin.s2 (i := .iload 4) (k := 2) (pc' := 84) (lv' := [(3, .int s0), (0, .ref 0), (1, .int l1), (2, .int l2), (4, .int l4), (5, .int l5)]) (st' := [.int l4, .int 1, .int l2]) (by decide +kernel) rfl rfl ?_
    refine ab_fin.s1 (i := .ishl) (k := 1) (pc' := 85) (st' := [.int ((1 : Int32) <<< (l4 &&& 31)), .int l2]) (by decide +kernel) rfl rfl ?_
    refine ab_fin.s1 (i := .ior) (k := 1) (pc' := 86) (st' := [.int (l2 ||| ((1 : Int32) <<< (l4 &&& 31)))]) (by decide +kernel) rfl rfl ?_
    refine ab_fin.s2 (i := .istore_n 2) (k := 1) (pc' := 87) (lv' := [(2, .int (l2 ||| ((1 : Int32) <<< (l4 &&& 31)))), (3, .int s0), (0, .ref 0), (1, .int l1), (4, .int l4), (5, .int l5)]) (st' := []) (by decide +kernel) rfl rfl ?_
    refine ab_fin.q_inc (n := 4) (c := 1) (pc' := 90) (lv' := [(4, .int (l4 + 1)), (2, .int (l2 ||| ((1 : Int32) <<< (l4 &&& 31)))), (3, .int s0), (0, .ref 0), (1, .int l1), (5, .int l5)]) (by decide +kernel) (by decide) rfl rfl rfl rfl ?_
    refine ab_fin.s3 (i := .goto (-59)) (k := 3) (t := 31) (st' := []) (by decide +kernel) (ab_gto (by decide +kernel)) ?_
    exact ab_fin.lv ⟨(List.forall_mem_cons.mpr ⟨(List.Mem.tail _ (List.Mem.tail _ (List.Mem.tail _ (List.Mem.head _)))), (List.forall_mem_cons.mpr ⟨(List.Mem.tail _ (List.Mem.tail _ (List.Mem.tail _ (List.Mem.tail _ (List.Mem.head _))))), (List.forall_mem_cons.mpr ⟨(List.Mem.tail _ (List.Mem.head _)), (List.forall_mem_cons.mpr ⟨(List.Mem.tail _ (List.Mem.tail _ (List.Mem.head _))), (List.forall_mem_cons.mpr ⟨(List.Mem.head _), (fun _ h => absurd h List.not_mem_nil)⟩)⟩)⟩)⟩)⟩), (show ([4, 2, 3, 0, 1, 5] : List Nat).Nodup from by decide)⟩ w
theorem S_X23_explore_151 {Z : zT} {d : Nat} {σ : Sg} {l1 : Int32} {l4 : Int32} {l5 : Int32} {l6 : Int64} {l8 : Int32} {K : kS} (F : FX ΦR σ.sh σ.r) (w : (1 < l8 → K (.inl none) σ) ∧ (¬ 1 < l8 → B_X23_explore_160 Z (d + 1) σ l1 l4 l5 l6 l8 0 K)) : B_X23_explore_151 Z (d + 1) σ l1 l4 l5 l6 l8 K := by
  unfold B_X23_explore_151
  refine ab_fin.s2 (i := .iload 8) (k := 2) (pc' := 153) (lv' := [(0, .ref 0), (1, .int l1), (4, .int l4), (5, .int l5), (6, .long l6), (8, .int l8)]) (st' := [.int l8]) (by decide +kernel) rfl rfl ?_
  refine ab_fin.s1i (i := .iconst 1) (k := 1) (pc' := 154) (n := 1) (by decide +kernel) rfl (by decide +kernel) rfl ?_
  refine ab_fin.br (c := 1 < l8) (i := .if_icmp .gt 176) (off := 176) (t := 330) (pc' := 157) (r := []) (by decide +kernel) rfl (by decide +kernel) rfl (fun q => ?_) (fun q => ?_)
  · replace w := w.1 q
    exact ab_fin.q_ret (i := .return_) (k := 1) (v := none) (by decide +kernel) rfl F w
  · replace w := w.2 q
    refine ab_fin.s1i (i := .iconst 0) (k := 1) (pc' := 158) (n := 0) (by decide +kernel) rfl (by decide +kernel) rfl ?_
    refine ab_fin.s2 (i := .istore 9) (k := 2) (pc' := 160) (lv' := [(9, .int 0), (0, .ref 0), (1, .int l1), (4, .int l4), (5, .int l5), (6, .long l6), (8, .int l8)]) (st' := []) (by decide +kernel) rfl rfl ?_
    exact ab_fin.lv ⟨(List.forall_mem_cons.mpr ⟨(List.Mem.tail _ (List.Mem.head _)), (List.forall_mem_cons.mpr ⟨(List.Mem.tail _ (List.Mem.tail _ (List.Mem.head _))), (List.forall_mem_cons.mpr ⟨(List.Mem.tail _ (List.Mem.tail _ (List.Mem.tail _ (List.Mem.head _)))), (List.forall_mem_cons.mpr ⟨(List.Mem.tail _ (List.Mem.tail _ (List.Mem.tail _ (List.Mem.tail _ (List.Mem.head _))))), (List.forall_mem_cons.mpr ⟨(List.Mem.tail _ (List.Mem.tail _ (List.Mem.tail _ (List.Mem.tail _ (List.Mem.tail _ (List.Mem.head _)))))), (List.forall_mem_cons.mpr ⟨(List.Mem.tail _ (List.Mem.tail _ (List.Mem.tail _ (List.Mem.tail _ (List.Mem.tail _ (List.Mem.tail _ (List.Mem.head _))))))), (List.forall_mem_cons.mpr ⟨(List.Mem.head _), (fun _ h => absurd h List.not_mem_nil)⟩)⟩)⟩)⟩)⟩)⟩)⟩), (show ([9, 0, 1, 4, 5, 6, 8] : List Nat).Nodup from by decide)⟩ w
theorem S_X23_explore_160 {Z : zT} {d : Nat} {σ : Sg} {l1 : Int32} {l4 : Int32} {l5 : Int32} {l6 : Int64} {l8 : Int32} {l9 : Int32} {K : kS} (F : FX ΦR σ.sh σ.r) (w : (16 ≤ l9 → (¬ l4 = l5 → (0 < l8 → B_X23_explore_257 Z (d + 1) σ l1 l4 l5 l6 l8 K) ∧ (¬ 0 < l8 → ib (l1 + (1 : Int32)) 129 ∧ ((0 ≤ l8 → B_X23_explore_251 Z (d + 1) σ l1 l4 l5 l6 l8 (1937 + 1 + ((l1 + (1 : Int32)).toNatClampNeg)) l4 l5 ((-l6)) K) ∧ (¬ 0 ≤ l8 → B_X23_explore_251 Z (d + 1) σ l1 l4 l5 l6 l8 (1937 + 1 + ((l1 + (1 : Int32)).toNatClampNeg)) l4 l5 (((-l6)) - (1 : Int64)) K)))) ∧ (l4 = l5 → B_J13_signum_95d88_0 Z d σ l6 (yI K fun v4 τ2 => (¬ v4 = l8 → B_X23_explore_299 Z (d + 1) τ2 l1 l4 l5 l6 l8 0 K) ∧ (v4 = l8 → B_X23_explore_299 Z (d + 1) τ2 l1 l4 l5 l6 l8 1 K)))) ∧ (¬ 16 ≤ l9 → ib (l1 + (1 : Int32)) 129 ∧ (ib l1 129 ∧ (ib l9 16 ∧ (ib l9 16 ∧ (B_X23_explore_160 Z (d + 1) (σ.wl (1937 + 1 + ((l1 + (1 : Int32)).toNatClampNeg)) l9.toNatClampNeg (σ.l (1937 + 1 + l1.toNatClampNeg) l9.toNatClampNeg)) l1 l4 l5 l6 l8 (l9 + 1) K)))))) : B_X23_explore_160 Z (d + 1) σ l1 l4 l5 l6 l8 l9 K := by
  unfold B_X23_explore_160
  refine ab_fin.s2 (i := .iload 9) (k := 2) (pc' := 162) (lv' := [(0, .ref 0), (1, .int l1), (4, .int l4), (5, .int l5), (6, .long l6), (8, .int l8), (9, .int l9)]) (st' := [.int l9]) (by decide +kernel) rfl rfl ?_
  refine ab_fin.s1i (i := .bipush 16) (k := 2) (pc' := 164) (n := 16) (by decide +kernel) rfl (by decide +kernel) rfl ?_
  refine ab_fin.br (c := 16 ≤ l9) (i := .if_icmp .ge 29) (off := 29) (t := 193) (pc' := 167) (r := []) (by decide +kernel) rfl (by decide +kernel) rfl (fun q => ?_) (fun q => ?_)
  · replace w := w.1 q
    refine ab_fin.s2 (i := .iload 4) (k := 2) (pc' := 195) (lv' := [(0, .ref 0), (1, .int l1), (4, .int l4), (5, .int l5), (6, .long l6), (8, .int l8), (9, .int l9)]) (st' := [.int l4]) (by decide +kernel) rfl rfl ?_
    refine ab_fin.s2 (i := .iload 5) (k := 2) (pc' := 197) (lv' := [(0, .ref 0), (1, .int l1), (4, .int l4), (5, .int l5), (6, .long l6), (8, .int l8), (9, .int l9)]) (st' := [.int l5, .int l4]) (by decide +kernel) rfl rfl ?_
    refine ab_fin.br (c := ¬ l4 = l5) (i := .if_icmp .ne 21) (off := 21) (t := 218) (pc' := 200) (r := []) (by decide +kernel) rfl (by decide +kernel) rfl (fun q => ?_) (fun q => ?_)
    · replace w := w.1 q
      refine ab_fin.s2 (i := .iload 8) (k := 2) (pc' := 220) (lv' := [(0, .ref 0), (1, .int l1), (4, .int l4), (5, .int l5), (6, .long l6), (8, .int l8), (9, .int l9)]) (st' := [.int l8]) (by decide +kernel) rfl rfl ?_
      refine ab_fin.br (c := 0 < l8) (i := .ifCond .gt 37) (off := 37) (t := 257) (pc' := 223) (r := []) (by decide +kernel) rfl (by decide +kernel) rfl (fun q => ?_) (fun q => ?_)
      · replace w := w.1 q
        exact ab_fin.lv ⟨(List.forall_mem_cons.mpr ⟨(List.Mem.head _), (List.forall_mem_cons.mpr ⟨(List.Mem.tail _ (List.Mem.head _)), (List.forall_mem_cons.mpr ⟨(List.Mem.tail _ (List.Mem.tail _ (List.Mem.head _))), (List.forall_mem_cons.mpr ⟨(List.Mem.tail _ (List.Mem.tail _ (List.Mem.tail _ (List.Mem.head _)))), (List.forall_mem_cons.mpr ⟨(List.Mem.tail _ (List.Mem.tail _ (List.Mem.tail _ (List.Mem.tail _ (List.Mem.head _))))), (List.forall_mem_cons.mpr ⟨(List.Mem.tail _ (List.Mem.tail _ (List.Mem.tail _ (List.Mem.tail _ (List.Mem.tail _ (List.Mem.head _)))))), (fun _ h => absurd h List.not_mem_nil)⟩)⟩)⟩)⟩)⟩)⟩), (show ([0, 1, 4, 5, 6, 8, 9] : List Nat).Nodup from by decide)⟩ w
      · replace w := w.2 q
        refine ab_fin.s2 (i := .aload_n 0) (k := 1) (pc' := 224) (lv' := [(0, .ref 0), (1, .int l1), (4, .int l4), (5, .int l5), (6, .long l6), (8, .int l8), (9, .int l9)]) (st' := [.ref 0]) (by decide +kernel) rfl rfl ?_
        refine ab_fin.q_rA (b := 1937) (ix := 557) (ci := 24) (k := 46) (pc' := 227) (by decide +kernel) rfl (c_rA (F.s s0_0) rfl (rM_46 F)) rfl ?_
        refine ab_fin.s2 (i := .iload_n 1) (k := 1) (pc' := 228) (lv' := [(0, .ref 0), (1, .int l1), (4, .int l4), (5, .int l5), (6, .long l6), (8, .int l8), (9, .int l9)]) (st' := [.int l1, .ref 1937]) (by decide +kernel) rfl rfl ?_
        refine ab_fin.s1i (i := .iconst 1) (k := 1) (pc' := 229) (n := 1) (by decide +kernel) rfl (by decide +kernel) rfl ?_
        refine ab_fin.s1 (i := .iadd) (k := 1) (pc' := 230) (st' := [.int (l1 + (1 : Int32)), .ref 1937]) (by decide +kernel) rfl rfl ?_
        obtain ⟨e1, w⟩ := w
        refine ab_fin.q_eA (b := (1937 + 1 + ((l1 + (1 : Int32)).toNatClampNeg))) (pc' := 231) (by decide +kernel) (c_eA' (F.s s0_1937) (by decide) rfl e1 rfl (rE_11 F s0_1937)) rfl ?_
        refine ab_fin.s2 (i := .iload 4) (k := 2) (pc' := 233) (lv' := [(0, .ref 0), (1, .int l1), (4, .int l4), (5, .int l5), (6, .long l6), (8, .int l8), (9, .int l9)]) (st' := [.int l4, .ref (1937 + 1 + ((l1 + (1 : Int32)).toNatClampNeg))]) (by decide +kernel) rfl rfl ?_
        refine ab_fin.s2 (i := .iload 5) (k := 2) (pc' := 235) (lv' := [(0, .ref 0), (1, .int l1), (4, .int l4), (5, .int l5), (6, .long l6), (8, .int l8), (9, .int l9)]) (st' := [.int l5, .int l4, .ref (1937 + 1 + ((l1 + (1 : Int32)).toNatClampNeg))]) (by decide +kernel) rfl rfl ?_
        refine ab_fin.s2 (i := .iload 8) (k := 2) (pc' := 237) (lv' := [(0, .ref 0), (1, .int l1), (4, .int l4), (5, .int l5), (6, .long l6), (8, .int l8), (9, .int l9)]) (st' := [.int l8, .int l5, .int l4, .ref (1937 + 1 + ((l1 + (1 : Int32)).toNatClampNeg))]) (by decide +kernel) rfl rfl ?_
        refine ab_fin.br (c := 0 ≤ l8) (i := .ifCond .ge 11) (off := 11) (t := 248) (pc' := 240) (r := [.int l5, .int l4, .ref (1937 + 1 + ((l1 + (1 : Int32)).toNatClampNeg))]) (by decide +kernel) rfl (by decide +kernel) rfl (fun q => ?_) (fun q => ?_)
        · replace w := w.1 q
          refine ab_fin.s2 (i := .lload 6) (k := 2) (pc' := 250) (lv' := [(0, .ref 0), (1, .int l1), (4, .int l4), (5, .int l5), (6, .long l6), (8, .int l8), (9, .int l9)]) (st' := [.long l6, .int l5, .int l4, .ref (1937 + 1 + ((l1 + (1 : Int32)).toNatClampNeg))]) (by decide +kernel) rfl rfl ?_
          refine ab_fin.s1 (i := .lneg) (k := 1) (pc' := 251) (st' := [.long ((-l6)), .int l5, .int l4, .ref (1937 + 1 + ((l1 + (1 : Int32)).toNatClampNeg))]) (by decide +kernel) rfl rfl ?_
          exact ab_fin.lv ⟨(List.forall_mem_cons.mpr ⟨(List.Mem.head _), (List.forall_mem_cons.mpr ⟨(List.Mem.tail _ (List.Mem.head _)), (List.forall_mem_cons.mpr ⟨(List.Mem.tail _ (List.Mem.tail _ (List.Mem.head _))), (List.forall_mem_cons.mpr ⟨(List.Mem.tail _ (List.Mem.tail _ (List.Mem.tail _ (List.Mem.head _)))), (List.forall_mem_cons.mpr ⟨(List.Mem.tail _ (List.Mem.tail _ (List.Mem.tail _ (List.Mem.tail _ (List.Mem.head _))))), (List.forall_mem_cons.mpr ⟨(List.Mem.tail _ (List.Mem.tail _ (List.Mem.tail _ (List.Mem.tail _ (List.Mem.tail _ (List.Mem.head _)))))), (fun _ h => absurd h List.not_mem_nil)⟩)⟩)⟩)⟩)⟩)⟩), (show ([0, 1, 4, 5, 6, 8, 9] : List Nat).Nodup from by decide)⟩ w
        · replace w := w.2 q
          refine ab_fin.s2 (i := .lload 6) (k := 2) (pc' := 242) (lv' := [(0, .ref 0), (1, .int l1), (4, .int l4), (5, .int l5), (6, .long l6), (8, .int l8), (9, .int l9)]) (st' := [.long l6, .int l5, .int l4, .ref (1937 + 1 + ((l1 + (1 : Int32)).toNatClampNeg))]) (by decide +kernel) rfl rfl ?_
          refine ab_fin.s1 (i := .lneg) (k := 1) (pc' := 243) (st' := [.long ((-l6)), .int l5, .int l4, .ref (1937 + 1 + ((l1 + (1 : Int32)).toNatClampNeg))]) (by decide +kernel) rfl rfl ?_
          refine ab_fin.s1l (i := .lconst 1) (k := 1) (pc' := 244) (n := 1) (by decide +kernel) rfl (by decide +kernel) rfl ?_
          refine ab_fin.s1 (i := .lsub) (k := 1) (pc' := 245) (st' := [.long (((-l6)) - (1 : Int64)), .int l5, .int l4, .ref (1937 + 1 + ((l1 + (1 : Int32)).toNatClampNeg))]) (by decide +kernel) rfl rfl ?_
          refine ab_fin.s3 (i := .goto 6) (k := 3) (t := 251) (st' := [.long (((-l6)) - (1 : Int64)), .int l5, .int l4, .ref (1937 + 1 + ((l1 + (1 : Int32)).toNatClampNeg))]) (by decide +kernel) (ab_gto (by decide +kernel)) ?_
          exact ab_fin.lv ⟨(List.forall_mem_cons.mpr ⟨(List.Mem.head _), (List.forall_mem_cons.mpr ⟨(List.Mem.tail _ (List.Mem.head _)), (List.forall_mem_cons.mpr ⟨(List.Mem.tail _ (List.Mem.tail _ (List.Mem.head _))), (List.forall_mem_cons.mpr ⟨(List.Mem.tail _ (List.Mem.tail _ (List.Mem.tail _ (List.Mem.head _)))), (List.forall_mem_cons.mpr ⟨(List.Mem.tail _ (List.Mem.tail _ (List.Mem.tail _ (List.Mem.tail _ (List.Mem.head _))))), (List.forall_mem_cons.mpr ⟨(List.Mem.tail _ (List.Mem.tail _ (List.Mem.tail _ (List.Mem.tail _ (List.Mem.tail _ (List.Mem.head _)))))), (fun _ h => absurd h List.not_mem_nil)⟩)⟩)⟩)⟩)⟩)⟩), (show ([0, 1, 4, 5, 6, 8, 9] : List Nat).Nodup from by decide)⟩ w
    · replace w := w.2 (Decidable.of_not_not q)
      refine ab_fin.s2 (i := .lload 6) (k := 2) (pc' := 202) (lv' := [(0, .ref 0), (1, .int l1), (4, .int l4), (5, .int l5), (6, .long l6), (8, .int l8), (9, .int l9)]) (st' := [.long l6]) (by decide +kernel) rfl rfl ?_
      refine ab_fin.q_yI (i := .invokestatic 576) (k := 3) (y := 8962) (As := [.long l6]) (rest := []) (M' := (mJ13_signum_95d88, [])) (lv2 := [(0, .long l6)]) (pc' := 205) (X := K) (by decide +kernel) (ab_cs rfl rfl ⟨(Nat.le_of_ble_eq_true rfl), (Nat.le_of_ble_eq_true rfl)⟩ rfl) rfl (Nat.le_of_ble_eq_true rfl) rfl rfl (hY_no fun E => rfl) w (fun v4 τ2 F3 w => ?_)
      refine ab_fin.s2 (i := .iload 8) (k := 2) (pc' := 207) (lv' := [(0, .ref 0), (1, .int l1), (4, .int l4), (5, .int l5), (6, .long l6), (8, .int l8), (9, .int l9)]) (st' := [.int l8, .int v4]) (by decide +kernel) rfl rfl ?_
      refine ab_fin.br (c := ¬ v4 = l8) (i := .if_icmp .ne 7) (off := 7) (t := 214) (pc' := 210) (r := []) (by decide +kernel) rfl (by decide +kernel) rfl (fun q => ?_) (fun q => ?_)
      · replace w := w.1 q
        refine ab_fin.s1i (i := .iconst 0) (k := 1) (pc' := 215) (n := 0) (by decide +kernel) rfl (by decide +kernel) rfl ?_
        refine ab_fin.s3 (i := .goto 84) (k := 3) (t := 299) (st' := [.int 0]) (by decide +kernel) (ab_gto (by decide +kernel)) ?_
        exact ab_fin.lv ⟨(List.forall_mem_cons.mpr ⟨(List.Mem.head _), (List.forall_mem_cons.mpr ⟨(List.Mem.tail _ (List.Mem.head _)), (List.forall_mem_cons.mpr ⟨(List.Mem.tail _ (List.Mem.tail _ (List.Mem.head _))), (List.forall_mem_cons.mpr ⟨(List.Mem.tail _ (List.Mem.tail _ (List.Mem.tail _ (List.Mem.head _)))), (List.forall_mem_cons.mpr ⟨(List.Mem.tail _ (List.Mem.tail _ (List.Mem.tail _ (List.Mem.tail _ (List.Mem.head _))))), (List.forall_mem_cons.mpr ⟨(List.Mem.tail _ (List.Mem.tail _ (List.Mem.tail _ (List.Mem.tail _ (List.Mem.tail _ (List.Mem.head _)))))), (fun _ h => absurd h List.not_mem_nil)⟩)⟩)⟩)⟩)⟩)⟩), (show ([0, 1, 4, 5, 6, 8, 9] : List Nat).Nodup from by decide)⟩ w
      · replace w := w.2 (Decidable.of_not_not q)
        refine ab_fin.s1i (i := .iconst 1) (k := 1) (pc' := 211) (n := 1) (by decide +kernel) rfl (by decide +kernel) rfl ?_
        refine ab_fin.s3 (i := .goto 88) (k := 3) (t := 299) (st' := [.int 1]) (by decide +kernel) (ab_gto (by decide +kernel)) ?_
        exact ab_fin.lv ⟨(List.forall_mem_cons.mpr ⟨(List.Mem.head _), (List.forall_mem_cons.mpr ⟨(List.Mem.tail _ (List.Mem.head _)), (List.forall_mem_cons.mpr ⟨(List.Mem.tail _ (List.Mem.tail _ (List.Mem.head _))), (List.forall_mem_cons.mpr ⟨(List.Mem.tail _ (List.Mem.tail _ (List.Mem.tail _ (List.Mem.head _)))), (List.forall_mem_cons.mpr ⟨(List.Mem.tail _ (List.Mem.tail _ (List.Mem.tail _ (List.Mem.tail _ (List.Mem.head _))))), (List.forall_mem_cons.mpr ⟨(List.Mem.tail _ (List.Mem.tail _ (List.Mem.tail _ (List.Mem.tail _ (List.Mem.tail _ (List.Mem.head _)))))), (fun _ h => absurd h List.not_mem_nil)⟩)⟩)⟩)⟩)⟩)⟩), (show ([0, 1, 4, 5, 6, 8, 9] : List Nat).Nodup from by decide)⟩ w
  · replace w := w.2 q
    refine ab_fin.s2 (i := .aload_n 0) (k := 1) (pc' := 168) (lv' := [(0, .ref 0), (1, .int l1), (4, .int l4), (5, .int l5), (6, .long l6), (8, .int l8), (9, .int l9)]) (st' := [.ref 0]) (by decide +kernel) rfl rfl ?_
    refine ab_fin.q_rA (b := 1937) (ix := 557) (ci := 24) (k := 46) (pc' := 171) (by decide +kernel) rfl (c_rA (F.s s0_0) rfl (rM_46 F)) rfl ?_
    refine ab_fin.s2 (i := .iload_n 1) (k := 1) (pc' := 172) (lv' := [(0, .ref 0), (1, .int l1), (4, .int l4), (5, .int l5), (6, .long l6), (8, .int l8), (9, .int l9)]) (st' := [.int l1, .ref 1937]) (by decide +kernel) rfl rfl ?_
    refine ab_fin.s1i (i := .iconst 1) (k := 1) (pc' := 173) (n := 1) (by decide +kernel) rfl (by decide +kernel) rfl ?_
    refine ab_fin.s1 (i := .iadd) (k := 1) (pc' := 174) (st' := [.int (l1 + (1 : Int32)), .ref 1937]) (by decide +kernel) rfl rfl ?_
    obtain ⟨e5, w⟩ := w
    refine ab_fin.q_eA (b := (1937 + 1 + ((l1 + (1 : Int32)).toNatClampNeg))) (pc' := 175) (by decide +kernel) (c_eA' (F.s s0_1937) (by decide) rfl e5 rfl (rE_11 F s0_1937)) rfl ?_
    refine ab_fin.s2 (i := .iload 9) (k := 2) (pc' := 177) (lv' := [(0, .ref 0), (1, .int l1), (4, .int l4), (5, .int l5), (6, .long l6), (8, .int l8), (9, .int l9)]) (st' := [.int l9, .ref (1937 + 1 + ((l1 + (1 : Int32)).toNatClampNeg))]) (by decide +kernel) rfl rfl ?_
    refine ab_fin.s2 (i := .aload_n 0) (k := 1) (pc' := 178) (lv' := [(0, .ref 0), (1, .int l1), (4, .int l4), (5, .int l5), (6, .long l6), (8, .int l8), (9, .int l9)]) (st' := [.ref 0, .int l9, .ref (1937 + 1 + ((l1 + (1 : Int32)).toNatClampNeg))]) (by decide +kernel) rfl rfl ?_
    refine ab_fin.q_rA (b := 1937) (ix := 557) (ci := 24) (k := 46) (pc' := 181) (by decide +kernel) rfl (c_rA (F.s s0_0) rfl (rM_46 F)) rfl ?_
    refine ab_fin.s2 (i := .iload_n 1) (k := 1) (pc' := 182) (lv' := [(0, .ref 0), (1, .int l1), (4, .int l4), (5, .int l5), (6, .long l6), (8, .int l8), (9, .int l9)]) (st' := [.int l1, .ref 1937, .int l9, .ref (1937 + 1 + ((l1 + (1 : Int32)).toNatClampNeg))]) (by decide +kernel) rfl rfl ?_
    obtain ⟨e6, w⟩ := w
    refine ab_fin.q_eA (b := (1937 + 1 + l1.toNatClampNeg)) (pc' := 183) (by decide +kernel) (c_eA' (F.s s0_1937) (by decide) rfl e6 rfl (rE_11 F s0_1937)) rfl ?_
    refine ab_fin.s2 (i := .iload 9) (k := 2) (pc' := 185) (lv' := [(0, .ref 0), (1, .int l1), (4, .int l4), (5, .int l5), (6, .long l6), (8, .int l8), (9, .int l9)]) (st' := [.int l9, .ref (1937 + 1 + l1.toNatClampNeg), .int l9, .ref (1937 + 1 + ((l1 + (1 : Int32)).toNatClampNeg))]) (by decide +kernel) rfl rfl ?_
    obtain ⟨e7, w⟩ := w
    refine ab_fin.q_eL (x := (σ.l (1937 + 1 + l1.toNatClampNeg) l9.toNatClampNeg)) (pc' := 186) (by decide +kernel) (c_eL' (F.s (kE_1937 e6.2)) e7 rfl) rfl ?_
    obtain ⟨e8, w⟩ := w
    refine ab_fin.q_sL (h1 := conc (σ.wl (1937 + 1 + ((l1 + (1 : Int32)).toNatClampNeg)) l9.toNatClampNeg (σ.l (1937 + 1 + l1.toNatClampNeg) l9.toNatClampNeg))) (pc' := 187) (by decide +kernel) (c_sL' (F.s (kE_1937 e5.2)) e8 rfl) rfl ?_
    refine ab_fin.q_inc (n := 9) (c := 1) (pc' := 190) (lv' := [(9, .int (l9 + 1)), (0, .ref 0), (1, .int l1), (4, .int l4), (5, .int l5), (6, .long l6), (8, .int l8)]) (by decide +kernel) (by decide) rfl rfl rfl rfl ?_
    refine ab_fin.s3 (i := .goto (-30)) (k := 3) (t := 160) (st' := []) (by decide +kernel) (ab_gto (by decide +kernel)) ?_
    exact ab_fin.lv ⟨(List.forall_mem_cons.mpr ⟨(List.Mem.tail _ (List.Mem.head _)), (List.forall_mem_cons.mpr ⟨(List.Mem.tail _ (List.Mem.tail _ (List.Mem.head _))), (List.forall_mem_cons.mpr ⟨(List.Mem.tail _ (List.Mem.tail _ (List.Mem.tail _ (List.Mem.head _)))), (List.forall_mem_cons.mpr ⟨(List.Mem.tail _ (List.Mem.tail _ (List.Mem.tail _ (List.Mem.tail _ (List.Mem.head _))))), (List.forall_mem_cons.mpr ⟨(List.Mem.tail _ (List.Mem.tail _ (List.Mem.tail _ (List.Mem.tail _ (List.Mem.tail _ (List.Mem.head _)))))), (List.forall_mem_cons.mpr ⟨(List.Mem.tail _ (List.Mem.tail _ (List.Mem.tail _ (List.Mem.tail _ (List.Mem.tail _ (List.Mem.tail _ (List.Mem.head _))))))), (List.forall_mem_cons.mpr ⟨(List.Mem.head _), (fun _ h => absurd h List.not_mem_nil)⟩)⟩)⟩)⟩)⟩)⟩)⟩), (show ([9, 0, 1, 4, 5, 6, 8] : List Nat).Nodup from by decide)⟩ w
theorem S_X23_explore_251 {Z : zT} {d : Nat} {σ : Sg} {l1 : Int32} {l4 : Int32} {l5 : Int32} {l6 : Int64} {l8 : Int32} {s0 : Nat} {s1 : Int32} {s2 : Int32} {s3 : Int64} {K : kS} (F : FX ΦR σ.sh σ.r) (p_s0 : sh0R[s0]? = some (Sh.arr 1 16)) (w : B_X23_bound_0 Z d σ s0 s1 s2 s3 (yI K fun v3 τ1 => (v3 = 0 → B_X23_explore_298 Z (d + 1) τ1 l1 l4 l5 l6 l8 K) ∧ (¬ v3 = 0 → B_X23_explore_257 Z (d + 1) τ1 l1 l4 l5 l6 l8 K))) : B_X23_explore_251 Z (d + 1) σ l1 l4 l5 l6 l8 s0 s1 s2 s3 K := by
  unfold B_X23_explore_251
  refine ab_fin.q_yI (i := .invokestatic 582) (k := 3) (y := 5944) (As := [.ref s0, .int s1, .int s2, .long s3]) (rest := []) (M' := (mX23_bound, [])) (lv2 := [(0, .ref s0), (1, .int s1), (2, .int s2), (3, .long s3)]) (pc' := 254) (X := K) (by decide +kernel) (ab_cs rfl rfl ⟨(Nat.le_of_ble_eq_true rfl), (Nat.le_of_ble_eq_true rfl)⟩ rfl) rfl (Nat.le_of_ble_eq_true rfl) rfl rfl (hY_no fun E => rfl) w (fun v3 τ1 F2 w => ?_)
  refine ab_fin.br (c := v3 = 0) (i := .ifCond .eq 44) (off := 44) (t := 298) (pc' := 257) (r := []) (by decide +kernel) rfl (by decide +kernel) rfl (fun q => ?_) (fun q => ?_)
  · replace w := w.1 q
    exact ab_fin.lv ⟨(List.forall_mem_cons.mpr ⟨(List.Mem.head _), (List.forall_mem_cons.mpr ⟨(List.Mem.tail _ (List.Mem.head _)), (List.forall_mem_cons.mpr ⟨(List.Mem.tail _ (List.Mem.tail _ (List.Mem.head _))), (List.forall_mem_cons.mpr ⟨(List.Mem.tail _ (List.Mem.tail _ (List.Mem.tail _ (List.Mem.head _)))), (List.forall_mem_cons.mpr ⟨(List.Mem.tail _ (List.Mem.tail _ (List.Mem.tail _ (List.Mem.tail _ (List.Mem.head _))))), (List.forall_mem_cons.mpr ⟨(List.Mem.tail _ (List.Mem.tail _ (List.Mem.tail _ (List.Mem.tail _ (List.Mem.tail _ (List.Mem.head _)))))), (fun _ h => absurd h List.not_mem_nil)⟩)⟩)⟩)⟩)⟩)⟩), (show ([0, 1, 4, 5, 6, 8] : List Nat).Nodup from by decide)⟩ w
  · replace w := w.2 q
    exact ab_fin.lv ⟨(List.forall_mem_cons.mpr ⟨(List.Mem.head _), (List.forall_mem_cons.mpr ⟨(List.Mem.tail _ (List.Mem.head _)), (List.forall_mem_cons.mpr ⟨(List.Mem.tail _ (List.Mem.tail _ (List.Mem.head _))), (List.forall_mem_cons.mpr ⟨(List.Mem.tail _ (List.Mem.tail _ (List.Mem.tail _ (List.Mem.head _)))), (List.forall_mem_cons.mpr ⟨(List.Mem.tail _ (List.Mem.tail _ (List.Mem.tail _ (List.Mem.tail _ (List.Mem.head _))))), (List.forall_mem_cons.mpr ⟨(List.Mem.tail _ (List.Mem.tail _ (List.Mem.tail _ (List.Mem.tail _ (List.Mem.tail _ (List.Mem.head _)))))), (fun _ h => absurd h List.not_mem_nil)⟩)⟩)⟩)⟩)⟩)⟩), (show ([0, 1, 4, 5, 6, 8] : List Nat).Nodup from by decide)⟩ w
theorem S_X23_explore_257 {Z : zT} {d : Nat} {σ : Sg} {l1 : Int32} {l4 : Int32} {l5 : Int32} {l6 : Int64} {l8 : Int32} {K : kS} (F : FX ΦR σ.sh σ.r) (w : (l8 < 0 → B_X23_explore_294 Z (d + 1) σ l1 l4 l5 l6 l8 K) ∧ (¬ l8 < 0 → ib (l1 + (1 : Int32)) 129 ∧ ((l8 ≤ 0 → B_X23_explore_288 Z (d + 1) σ l1 l4 l5 l6 l8 (1937 + 1 + ((l1 + (1 : Int32)).toNatClampNeg)) l5 l4 l6 K) ∧ (¬ l8 ≤ 0 → B_X23_explore_288 Z (d + 1) σ l1 l4 l5 l6 l8 (1937 + 1 + ((l1 + (1 : Int32)).toNatClampNeg)) l5 l4 (l6 - (1 : Int64)) K)))) : B_X23_explore_257 Z (d + 1) σ l1 l4 l5 l6 l8 K := by
  unfold B_X23_explore_257
  refine ab_fin.s2 (i := .iload 8) (k := 2) (pc' := 259) (lv' := [(0, .ref 0), (1, .int l1), (4, .int l4), (5, .int l5), (6, .long l6), (8, .int l8)]) (st' := [.int l8]) (by decide +kernel) rfl rfl ?_
  refine ab_fin.br (c := l8 < 0) (i := .ifCond .lt 35) (off := 35) (t := 294) (pc' := 262) (r := []) (by decide +kernel) rfl (by decide +kernel) rfl (fun q => ?_) (fun q => ?_)
  · replace w := w.1 q
    exact ab_fin.lv ⟨(List.forall_mem_cons.mpr ⟨(List.Mem.head _), (List.forall_mem_cons.mpr ⟨(List.Mem.tail _ (List.Mem.head _)), (List.forall_mem_cons.mpr ⟨(List.Mem.tail _ (List.Mem.tail _ (List.Mem.head _))), (List.forall_mem_cons.mpr ⟨(List.Mem.tail _ (List.Mem.tail _ (List.Mem.tail _ (List.Mem.head _)))), (List.forall_mem_cons.mpr ⟨(List.Mem.tail _ (List.Mem.tail _ (List.Mem.tail _ (List.Mem.tail _ (List.Mem.head _))))), (List.forall_mem_cons.mpr ⟨(List.Mem.tail _ (List.Mem.tail _ (List.Mem.tail _ (List.Mem.tail _ (List.Mem.tail _ (List.Mem.head _)))))), (fun _ h => absurd h List.not_mem_nil)⟩)⟩)⟩)⟩)⟩)⟩), (show ([0, 1, 4, 5, 6, 8] : List Nat).Nodup from by decide)⟩ w
  · replace w := w.2 q
    refine ab_fin.s2 (i := .aload_n 0) (k := 1) (pc' := 263) (lv' := [(0, .ref 0), (1, .int l1), (4, .int l4), (5, .int l5), (6, .long l6), (8, .int l8)]) (st' := [.ref 0]) (by decide +kernel) rfl rfl ?_
    refine ab_fin.q_rA (b := 1937) (ix := 557) (ci := 24) (k := 46) (pc' := 266) (by decide +kernel) rfl (c_rA (F.s s0_0) rfl (rM_46 F)) rfl ?_
    refine ab_fin.s2 (i := .iload_n 1) (k := 1) (pc' := 267) (lv' := [(0, .ref 0), (1, .int l1), (4, .int l4), (5, .int l5), (6, .long l6), (8, .int l8)]) (st' := [.int l1, .ref 1937]) (by decide +kernel) rfl rfl ?_
    refine ab_fin.s1i (i := .iconst 1) (k := 1) (pc' := 268) (n := 1) (by decide +kernel) rfl (by decide +kernel) rfl ?_
    refine ab_fin.s1 (i := .iadd) (k := 1) (pc' := 269) (st' := [.int (l1 + (1 : Int32)), .ref 1937]) (by decide +kernel) rfl rfl ?_
    obtain ⟨e1, w⟩ := w
    refine ab_fin.q_eA (b := (1937 + 1 + ((l1 + (1 : Int32)).toNatClampNeg))) (pc' := 270) (by decide +kernel) (c_eA' (F.s s0_1937) (by decide) rfl e1 rfl (rE_11 F s0_1937)) rfl ?_
    refine ab_fin.s2 (i := .iload 5) (k := 2) (pc' := 272) (lv' := [(0, .ref 0), (1, .int l1), (4, .int l4), (5, .int l5), (6, .long l6), (8, .int l8)]) (st' := [.int l5, .ref (1937 + 1 + ((l1 + (1 : Int32)).toNatClampNeg))]) (by decide +kernel) rfl rfl ?_
    refine ab_fin.s2 (i := .iload 4) (k := 2) (pc' := 274) (lv' := [(0, .ref 0), (1, .int l1), (4, .int l4), (5, .int l5), (6, .long l6), (8, .int l8)]) (st' := [.int l4, .int l5, .ref (1937 + 1 + ((l1 + (1 : Int32)).toNatClampNeg))]) (by decide +kernel) rfl rfl ?_
    refine ab_fin.s2 (i := .iload 8) (k := 2) (pc' := 276) (lv' := [(0, .ref 0), (1, .int l1), (4, .int l4), (5, .int l5), (6, .long l6), (8, .int l8)]) (st' := [.int l8, .int l4, .int l5, .ref (1937 + 1 + ((l1 + (1 : Int32)).toNatClampNeg))]) (by decide +kernel) rfl rfl ?_
    refine ab_fin.br (c := l8 ≤ 0) (i := .ifCond .le 10) (off := 10) (t := 286) (pc' := 279) (r := [.int l4, .int l5, .ref (1937 + 1 + ((l1 + (1 : Int32)).toNatClampNeg))]) (by decide +kernel) rfl (by decide +kernel) rfl (fun q => ?_) (fun q => ?_)
    · replace w := w.1 q
      refine ab_fin.s2 (i := .lload 6) (k := 2) (pc' := 288) (lv' := [(0, .ref 0), (1, .int l1), (4, .int l4), (5, .int l5), (6, .long l6), (8, .int l8)]) (st' := [.long l6, .int l4, .int l5, .ref (1937 + 1 + ((l1 + (1 : Int32)).toNatClampNeg))]) (by decide +kernel) rfl rfl ?_
      exact ab_fin.lv ⟨(List.forall_mem_cons.mpr ⟨(List.Mem.head _), (List.forall_mem_cons.mpr ⟨(List.Mem.tail _ (List.Mem.head _)), (List.forall_mem_cons.mpr ⟨(List.Mem.tail _ (List.Mem.tail _ (List.Mem.head _))), (List.forall_mem_cons.mpr ⟨(List.Mem.tail _ (List.Mem.tail _ (List.Mem.tail _ (List.Mem.head _)))), (List.forall_mem_cons.mpr ⟨(List.Mem.tail _ (List.Mem.tail _ (List.Mem.tail _ (List.Mem.tail _ (List.Mem.head _))))), (List.forall_mem_cons.mpr ⟨(List.Mem.tail _ (List.Mem.tail _ (List.Mem.tail _ (List.Mem.tail _ (List.Mem.tail _ (List.Mem.head _)))))), (fun _ h => absurd h List.not_mem_nil)⟩)⟩)⟩)⟩)⟩)⟩), (show ([0, 1, 4, 5, 6, 8] : List Nat).Nodup from by decide)⟩ w
    · replace w := w.2 q
      refine ab_fin.s2 (i := .lload 6) (k := 2) (pc' := 281) (lv' := [(0, .ref 0), (1, .int l1), (4, .int l4), (5, .int l5), (6, .long l6), (8, .int l8)]) (st' := [.long l6, .int l4, .int l5, .ref (1937 + 1 + ((l1 + (1 : Int32)).toNatClampNeg))]) (by decide +kernel) rfl rfl ?_
      refine ab_fin.s1l (i := .lconst 1) (k := 1) (pc' := 282) (n := 1) (by decide +kernel) rfl (by decide +kernel) rfl ?_
      refine ab_fin.s1 (i := .lsub) (k := 1) (pc' := 283) (st' := [.long (l6 - (1 : Int64)), .int l4, .int l5, .ref (1937 + 1 + ((l1 + (1 : Int32)).toNatClampNeg))]) (by decide +kernel) rfl rfl ?_
      refine ab_fin.s3 (i := .goto 5) (k := 3) (t := 288) (st' := [.long (l6 - (1 : Int64)), .int l4, .int l5, .ref (1937 + 1 + ((l1 + (1 : Int32)).toNatClampNeg))]) (by decide +kernel) (ab_gto (by decide +kernel)) ?_
      exact ab_fin.lv ⟨(List.forall_mem_cons.mpr ⟨(List.Mem.head _), (List.forall_mem_cons.mpr ⟨(List.Mem.tail _ (List.Mem.head _)), (List.forall_mem_cons.mpr ⟨(List.Mem.tail _ (List.Mem.tail _ (List.Mem.head _))), (List.forall_mem_cons.mpr ⟨(List.Mem.tail _ (List.Mem.tail _ (List.Mem.tail _ (List.Mem.head _)))), (List.forall_mem_cons.mpr ⟨(List.Mem.tail _ (List.Mem.tail _ (List.Mem.tail _ (List.Mem.tail _ (List.Mem.head _))))), (List.forall_mem_cons.mpr ⟨(List.Mem.tail _ (List.Mem.tail _ (List.Mem.tail _ (List.Mem.tail _ (List.Mem.tail _ (List.Mem.head _)))))), (fun _ h => absurd h List.not_mem_nil)⟩)⟩)⟩)⟩)⟩)⟩), (show ([0, 1, 4, 5, 6, 8] : List Nat).Nodup from by decide)⟩ w
theorem S_X23_explore_288 {Z : zT} {d : Nat} {σ : Sg} {l1 : Int32} {l4 : Int32} {l5 : Int32} {l6 : Int64} {l8 : Int32} {s0 : Nat} {s1 : Int32} {s2 : Int32} {s3 : Int64} {K : kS} (F : FX ΦR σ.sh σ.r) (p_s0 : sh0R[s0]? = some (Sh.arr 1 16)) (w : B_X23_bound_0 Z d σ s0 s1 s2 s3 (yI K fun v3 τ1 => (v3 = 0 → B_X23_explore_298 Z (d + 1) τ1 l1 l4 l5 l6 l8 K) ∧ (¬ v3 = 0 → B_X23_explore_294 Z (d + 1) τ1 l1 l4 l5 l6 l8 K))) : B_X23_explore_288 Z (d + 1) σ l1 l4 l5 l6 l8 s0 s1 s2 s3 K := by
  unfold B_X23_explore_288
  refine ab_fin.q_yI (i := .invokestatic 582) (k := 3) (y := 5944) (As := [.ref s0, .int s1, .int s2, .long s3]) (rest := []) (M' := (mX23_bound, [])) (lv2 := [(0, .ref s0), (1, .int s1), (2, .int s2), (3, .long s3)]) (pc' := 291) (X := K) (by decide +kernel) (ab_cs rfl rfl ⟨(Nat.le_of_ble_eq_true rfl), (Nat.le_of_ble_eq_true rfl)⟩ rfl) rfl (Nat.le_of_ble_eq_true rfl) rfl rfl (hY_no fun E => rfl) w (fun v3 τ1 F2 w => ?_)
  refine ab_fin.br (c := v3 = 0) (i := .ifCond .eq 7) (off := 7) (t := 298) (pc' := 294) (r := []) (by decide +kernel) rfl (by decide +kernel) rfl (fun q => ?_) (fun q => ?_)
  · replace w := w.1 q
    exact ab_fin.lv ⟨(List.forall_mem_cons.mpr ⟨(List.Mem.head _), (List.forall_mem_cons.mpr ⟨(List.Mem.tail _ (List.Mem.head _)), (List.forall_mem_cons.mpr ⟨(List.Mem.tail _ (List.Mem.tail _ (List.Mem.head _))), (List.forall_mem_cons.mpr ⟨(List.Mem.tail _ (List.Mem.tail _ (List.Mem.tail _ (List.Mem.head _)))), (List.forall_mem_cons.mpr ⟨(List.Mem.tail _ (List.Mem.tail _ (List.Mem.tail _ (List.Mem.tail _ (List.Mem.head _))))), (List.forall_mem_cons.mpr ⟨(List.Mem.tail _ (List.Mem.tail _ (List.Mem.tail _ (List.Mem.tail _ (List.Mem.tail _ (List.Mem.head _)))))), (fun _ h => absurd h List.not_mem_nil)⟩)⟩)⟩)⟩)⟩)⟩), (show ([0, 1, 4, 5, 6, 8] : List Nat).Nodup from by decide)⟩ w
  · replace w := w.2 q
    exact ab_fin.lv ⟨(List.forall_mem_cons.mpr ⟨(List.Mem.head _), (List.forall_mem_cons.mpr ⟨(List.Mem.tail _ (List.Mem.head _)), (List.forall_mem_cons.mpr ⟨(List.Mem.tail _ (List.Mem.tail _ (List.Mem.head _))), (List.forall_mem_cons.mpr ⟨(List.Mem.tail _ (List.Mem.tail _ (List.Mem.tail _ (List.Mem.head _)))), (List.forall_mem_cons.mpr ⟨(List.Mem.tail _ (List.Mem.tail _ (List.Mem.tail _ (List.Mem.tail _ (List.Mem.head _))))), (List.forall_mem_cons.mpr ⟨(List.Mem.tail _ (List.Mem.tail _ (List.Mem.tail _ (List.Mem.tail _ (List.Mem.tail _ (List.Mem.head _)))))), (fun _ h => absurd h List.not_mem_nil)⟩)⟩)⟩)⟩)⟩)⟩), (show ([0, 1, 4, 5, 6, 8] : List Nat).Nodup from by decide)⟩ w
theorem S_X23_explore_294 {Z : zT} {d : Nat} {σ : Sg} {l1 : Int32} {l4 : Int32} {l5 : Int32} {l6 : Int64} {l8 : Int32} {K : kS} (F : FX ΦR σ.sh σ.r) (w : B_X23_explore_299 Z (d + 1) σ l1 l4 l5 l6 l8 1 K) : B_X23_explore_294 Z (d + 1) σ l1 l4 l5 l6 l8 K := by
  unfold B_X23_explore_294
  refine ab_fin.s1i (i := .iconst 1) (k := 1) (pc' := 295) (n := 1) (by decide +kernel) rfl (by decide +kernel) rfl ?_
  refine ab_fin.s3 (i := .goto 4) (k := 3) (t := 299) (st' := [.int 1]) (by decide +kernel) (ab_gto (by decide +kernel)) ?_
  exact ab_fin.lv ⟨(List.forall_mem_cons.mpr ⟨(List.Mem.head _), (List.forall_mem_cons.mpr ⟨(List.Mem.tail _ (List.Mem.head _)), (List.forall_mem_cons.mpr ⟨(List.Mem.tail _ (List.Mem.tail _ (List.Mem.head _))), (List.forall_mem_cons.mpr ⟨(List.Mem.tail _ (List.Mem.tail _ (List.Mem.tail _ (List.Mem.head _)))), (List.forall_mem_cons.mpr ⟨(List.Mem.tail _ (List.Mem.tail _ (List.Mem.tail _ (List.Mem.tail _ (List.Mem.head _))))), (List.forall_mem_cons.mpr ⟨(List.Mem.tail _ (List.Mem.tail _ (List.Mem.tail _ (List.Mem.tail _ (List.Mem.tail _ (List.Mem.head _)))))), (fun _ h => absurd h List.not_mem_nil)⟩)⟩)⟩)⟩)⟩)⟩), (show ([0, 1, 4, 5, 6, 8] : List Nat).Nodup from by decide)⟩ w
theorem S_X23_explore_298 {Z : zT} {d : Nat} {σ : Sg} {l1 : Int32} {l4 : Int32} {l5 : Int32} {l6 : Int64} {l8 : Int32} {K : kS} (F : FX ΦR σ.sh σ.r) (w : B_X23_explore_299 Z (d + 1) σ l1 l4 l5 l6 l8 0 K) : B_X23_explore_298 Z (d + 1) σ l1 l4 l5 l6 l8 K := by
  unfold B_X23_explore_298
  refine ab_fin.s1i (i := .iconst 0) (k := 1) (pc' := 299) (n := 0) (by decide +kernel) rfl (by decide +kernel) rfl ?_
  exact ab_fin.lv ⟨(List.forall_mem_cons.mpr ⟨(List.Mem.head _), (List.forall_mem_cons.mpr ⟨(List.Mem.tail _ (List.Mem.head _)), (List.forall_mem_cons.mpr ⟨(List.Mem.tail _ (List.Mem.tail _ (List.Mem.head _))), (List.forall_mem_cons.mpr ⟨(List.Mem.tail _ (List.Mem.tail _ (List.Mem.tail _ (List.Mem.head _)))), (List.forall_mem_cons.mpr ⟨(List.Mem.tail _ (List.Mem.tail _ (List.Mem.tail _ (List.Mem.tail _ (List.Mem.head _))))), (List.forall_mem_cons.mpr ⟨(List.Mem.tail _ (List.Mem.tail _ (List.Mem.tail _ (List.Mem.tail _ (List.Mem.tail _ (List.Mem.head _)))))), (fun _ h => absurd h List.not_mem_nil)⟩)⟩)⟩)⟩)⟩)⟩), (show ([0, 1, 4, 5, 6, 8] : List Nat).Nodup from by decide)⟩ w
theorem S_X23_explore_299 {Z : zT} {d : Nat} {σ : Sg} {l1 : Int32} {l4 : Int32} {l5 : Int32} {l6 : Int64} {l8 : Int32} {s0 : Int32} {K : kS} (F : FX ΦR σ.sh σ.r) (w : (¬ s0 = 0 → ib l1 128 ∧ (B_X23_explore_0 Z d (σ.wi 1935 l1.toNatClampNeg l8) (l1 + (1 : Int32)) (yN K fun τ2 => B_X23_explore_151 Z (d + 1) τ2 l1 l4 l5 l6 (l8 + 1) K))) ∧ (s0 = 0 → B_X23_explore_151 Z (d + 1) σ l1 l4 l5 l6 (l8 + 1) K)) : B_X23_explore_299 Z (d + 1) σ l1 l4 l5 l6 l8 s0 K := by
  unfold B_X23_explore_299
  refine ab_fin.s2 (i := .istore 9) (k := 2) (pc' := 301) (lv' := [(9, .int s0), (0, .ref 0), (1, .int l1), (4, .int l4), (5, .int l5), (6, .long l6), (8, .int l8)]) (st' := []) (by decide +kernel) rfl rfl ?_
  refine ab_fin.s2 (i := .iload 9) (k := 2) (pc' := 303) (lv' := [(9, .int s0), (0, .ref 0), (1, .int l1), (4, .int l4), (5, .int l5), (6, .long l6), (8, .int l8)]) (st' := [.int s0]) (by decide +kernel) rfl rfl ?_
  refine ab_fin.br (c := ¬ s0 = 0) (i := .ifCond .ne 6) (off := 6) (t := 309) (pc' := 306) (r := []) (by decide +kernel) rfl (by decide +kernel) rfl (fun q => ?_) (fun q => ?_)
  · replace w := w.1 q
    refine ab_fin.s2 (i := .aload_n 0) (k := 1) (pc' := 310) (lv' := [(9, .int s0), (0, .ref 0), (1, .int l1), (4, .int l4), (5, .int l5), (6, .long l6), (8, .int l8)]) (st' := [.ref 0]) (by decide +kernel) rfl rfl ?_
    refine ab_fin.q_rA (b := 1935) (ix := 586) (ci := 24) (k := 44) (pc' := 313) (by decide +kernel) rfl (c_rA (F.s s0_0) rfl (rM_44 F)) rfl ?_
    refine ab_fin.s2 (i := .iload_n 1) (k := 1) (pc' := 314) (lv' := [(9, .int s0), (0, .ref 0), (1, .int l1), (4, .int l4), (5, .int l5), (6, .long l6), (8, .int l8)]) (st' := [.int l1, .ref 1935]) (by decide +kernel) rfl rfl ?_
    refine ab_fin.s2 (i := .iload 8) (k := 2) (pc' := 316) (lv' := [(9, .int s0), (0, .ref 0), (1, .int l1), (4, .int l4), (5, .int l5), (6, .long l6), (8, .int l8)]) (st' := [.int l8, .int l1, .ref 1935]) (by decide +kernel) rfl rfl ?_
    obtain ⟨e1, w⟩ := w
    refine ab_fin.q_sI (h1 := conc (σ.wi 1935 l1.toNatClampNeg l8)) (pc' := 317) (by decide +kernel) (c_sI' (F.s s0_1935) e1 rfl) rfl ?_
    refine ab_fin.s2 (i := .aload_n 0) (k := 1) (pc' := 318) (lv' := [(9, .int s0), (0, .ref 0), (1, .int l1), (4, .int l4), (5, .int l5), (6, .long l6), (8, .int l8)]) (st' := [.ref 0]) (by decide +kernel) rfl rfl ?_
    refine ab_fin.s2 (i := .iload_n 1) (k := 1) (pc' := 319) (lv' := [(9, .int s0), (0, .ref 0), (1, .int l1), (4, .int l4), (5, .int l5), (6, .long l6), (8, .int l8)]) (st' := [.int l1, .ref 0]) (by decide +kernel) rfl rfl ?_
    refine ab_fin.s1i (i := .iconst 1) (k := 1) (pc' := 320) (n := 1) (by decide +kernel) rfl (by decide +kernel) rfl ?_
    refine ab_fin.s1 (i := .iadd) (k := 1) (pc' := 321) (st' := [.int (l1 + (1 : Int32)), .ref 0]) (by decide +kernel) rfl rfl ?_
    refine ab_fin.q_yN (i := .invokevirtual 563) (k := 3) (y := 5943) (As := [.ref 0, .int (l1 + (1 : Int32))]) (rest := []) (M' := (mX23_explore, [])) (lv2 := [(0, .ref 0), (1, .int (l1 + (1 : Int32)))]) (pc' := 324) (X := K) (by decide +kernel) (ab_cv rfl rfl (conc_get (σ := (σ.wi 1935 l1.toNatClampNeg l8)) (F.s s0_0)) ⟨(Nat.le_of_ble_eq_true rfl), (Nat.le_of_ble_eq_true rfl)⟩ rfl) rfl (Nat.le_of_ble_eq_true rfl) rfl rfl (hY_no fun E => rfl) w (fun τ2 F3 w => ?_)
    refine ab_fin.q_inc (n := 8) (c := 1) (pc' := 327) (lv' := [(8, .int (l8 + 1)), (9, .int s0), (0, .ref 0), (1, .int l1), (4, .int l4), (5, .int l5), (6, .long l6)]) (by decide +kernel) (by decide) rfl rfl rfl rfl ?_
    refine ab_fin.s3 (i := .goto (-176)) (k := 3) (t := 151) (st' := []) (by decide +kernel) (ab_gto (by decide +kernel)) ?_
    exact ab_fin.lv ⟨(List.forall_mem_cons.mpr ⟨(List.Mem.tail _ (List.Mem.tail _ (List.Mem.head _))), (List.forall_mem_cons.mpr ⟨(List.Mem.tail _ (List.Mem.tail _ (List.Mem.tail _ (List.Mem.head _)))), (List.forall_mem_cons.mpr ⟨(List.Mem.tail _ (List.Mem.tail _ (List.Mem.tail _ (List.Mem.tail _ (List.Mem.head _))))), (List.forall_mem_cons.mpr ⟨(List.Mem.tail _ (List.Mem.tail _ (List.Mem.tail _ (List.Mem.tail _ (List.Mem.tail _ (List.Mem.head _)))))), (List.forall_mem_cons.mpr ⟨(List.Mem.tail _ (List.Mem.tail _ (List.Mem.tail _ (List.Mem.tail _ (List.Mem.tail _ (List.Mem.tail _ (List.Mem.head _))))))), (List.forall_mem_cons.mpr ⟨(List.Mem.head _), (fun _ h => absurd h List.not_mem_nil)⟩)⟩)⟩)⟩)⟩)⟩), (show ([8, 9, 0, 1, 4, 5, 6] : List Nat).Nodup from by decide)⟩ w
  · replace w := w.2 (Decidable.of_not_not q)
    refine ab_fin.s3 (i := .goto 18) (k := 3) (t := 324) (st' := []) (by decide +kernel) (ab_gto (by decide +kernel)) ?_
    refine ab_fin.q_inc (n := 8) (c := 1) (pc' := 327) (lv' := [(8, .int (l8 + 1)), (9, .int s0), (0, .ref 0), (1, .int l1), (4, .int l4), (5, .int l5), (6, .long l6)]) (by decide +kernel) (by decide) rfl rfl rfl rfl ?_
    refine ab_fin.s3 (i := .goto (-176)) (k := 3) (t := 151) (st' := []) (by decide +kernel) (ab_gto (by decide +kernel)) ?_
    exact ab_fin.lv ⟨(List.forall_mem_cons.mpr ⟨(List.Mem.tail _ (List.Mem.tail _ (List.Mem.head _))), (List.forall_mem_cons.mpr ⟨(List.Mem.tail _ (List.Mem.tail _ (List.Mem.tail _ (List.Mem.head _)))), (List.forall_mem_cons.mpr ⟨(List.Mem.tail _ (List.Mem.tail _ (List.Mem.tail _ (List.Mem.tail _ (List.Mem.head _))))), (List.forall_mem_cons.mpr ⟨(List.Mem.tail _ (List.Mem.tail _ (List.Mem.tail _ (List.Mem.tail _ (List.Mem.tail _ (List.Mem.head _)))))), (List.forall_mem_cons.mpr ⟨(List.Mem.tail _ (List.Mem.tail _ (List.Mem.tail _ (List.Mem.tail _ (List.Mem.tail _ (List.Mem.tail _ (List.Mem.head _))))))), (List.forall_mem_cons.mpr ⟨(List.Mem.head _), (fun _ h => absurd h List.not_mem_nil)⟩)⟩)⟩)⟩)⟩)⟩), (show ([8, 9, 0, 1, 4, 5, 6] : List Nat).Nodup from by decide)⟩ w
theorem S_X23_bound_0 {Z : zT} {d : Nat} {σ : Sg} {l0 : Nat} {l1 : Int32} {l2 : Int32} {l3 : Int64} {K : kS} (F : FX ΦR σ.sh σ.r) (w : ∃ n2, σ.sh[l0]? = some (Sh.arr 1 n2) ∧ (ib (((4 : Int32) * l2) + l1) n2 ∧ ((0 ≤ (lg_cmp ((σ.l l0 ((((4 : Int32) * l2) + l1).toNatClampNeg)) + l3) (0 : Int64)) → B_X23_bound_19 Z (d + 1) σ l0 l1 l2 l3 0 K) ∧ (¬ 0 ≤ (lg_cmp ((σ.l l0 ((((4 : Int32) * l2) + l1).toNatClampNeg)) + l3) (0 : Int64)) → K (.inl (some (.int 0))) σ)))) : B_X23_bound_0 Z (d + 1) σ l0 l1 l2 l3 K := by
  unfold B_X23_bound_0
  refine ab_fin.s2 (i := .aload_n 0) (k := 1) (pc' := 1) (lv' := [(0, .ref l0), (1, .int l1), (2, .int l2), (3, .long l3)]) (st' := [.ref l0]) (by decide +kernel) rfl rfl ?_
  refine ab_fin.s1i (i := .iconst 4) (k := 1) (pc' := 2) (n := 4) (by decide +kernel) rfl (by decide +kernel) rfl ?_
  refine ab_fin.s2 (i := .iload_n 2) (k := 1) (pc' := 3) (lv' := [(0, .ref l0), (1, .int l1), (2, .int l2), (3, .long l3)]) (st' := [.int l2, .int 4, .ref l0]) (by decide +kernel) rfl rfl ?_
  refine ab_fin.s1 (i := .imul) (k := 1) (pc' := 4) (st' := [.int ((4 : Int32) * l2), .ref l0]) (by decide +kernel) rfl rfl ?_
  refine ab_fin.s2 (i := .iload_n 1) (k := 1) (pc' := 5) (lv' := [(0, .ref l0), (1, .int l1), (2, .int l2), (3, .long l3)]) (st' := [.int l1, .int ((4 : Int32) * l2), .ref l0]) (by decide +kernel) rfl rfl ?_
  refine ab_fin.s1 (i := .iadd) (k := 1) (pc' := 6) (st' := [.int (((4 : Int32) * l2) + l1), .ref l0]) (by decide +kernel) rfl rfl ?_
  obtain ⟨n2, e1, w⟩ := w
  obtain ⟨e3, w⟩ := w
  refine ab_fin.q_eL (x := (σ.l l0 ((((4 : Int32) * l2) + l1).toNatClampNeg))) (pc' := 7) (by decide +kernel) (c_eL' e1 e3 rfl) rfl ?_
  refine ab_fin.s2 (i := .lload_n 3) (k := 1) (pc' := 8) (lv' := [(0, .ref l0), (1, .int l1), (2, .int l2), (3, .long l3)]) (st' := [.long l3, .long (σ.l l0 ((((4 : Int32) * l2) + l1).toNatClampNeg))]) (by decide +kernel) rfl rfl ?_
  refine ab_fin.s1 (i := .ladd) (k := 1) (pc' := 9) (st' := [.long ((σ.l l0 ((((4 : Int32) * l2) + l1).toNatClampNeg)) + l3)]) (by decide +kernel) rfl rfl ?_
  refine ab_fin.s1l (i := .lconst 0) (k := 1) (pc' := 10) (n := 0) (by decide +kernel) rfl (by decide +kernel) rfl ?_
  refine ab_fin.s1 (i := .lcmp) (k := 1) (pc' := 11) (st' := [.int (lg_cmp ((σ.l l0 ((((4 : Int32) * l2) + l1).toNatClampNeg)) + l3) (0 : Int64))]) (by decide +kernel) rfl rfl ?_
  refine ab_fin.br (c := 0 ≤ (lg_cmp ((σ.l l0 ((((4 : Int32) * l2) + l1).toNatClampNeg)) + l3) (0 : Int64))) (i := .ifCond .ge 5) (off := 5) (t := 16) (pc' := 14) (r := []) (by decide +kernel) rfl (by decide +kernel) rfl (fun q => ?_) (fun q => ?_)
  · replace w := w.1 q
    refine ab_fin.s1i (i := .iconst 0) (k := 1) (pc' := 17) (n := 0) (by decide +kernel) rfl (by decide +kernel) rfl ?_
    refine ab_fin.s2 (i := .istore 5) (k := 2) (pc' := 19) (lv' := [(5, .int 0), (0, .ref l0), (1, .int l1), (2, .int l2), (3, .long l3)]) (st' := []) (by decide +kernel) rfl rfl ?_
    exact ab_fin.lv ⟨(List.forall_mem_cons.mpr ⟨(List.Mem.tail _ (List.Mem.head _)), (List.forall_mem_cons.mpr ⟨(List.Mem.tail _ (List.Mem.tail _ (List.Mem.head _))), (List.forall_mem_cons.mpr ⟨(List.Mem.tail _ (List.Mem.tail _ (List.Mem.tail _ (List.Mem.head _)))), (List.forall_mem_cons.mpr ⟨(List.Mem.tail _ (List.Mem.tail _ (List.Mem.tail _ (List.Mem.tail _ (List.Mem.head _))))), (List.forall_mem_cons.mpr ⟨(List.Mem.head _), (fun _ h => absurd h List.not_mem_nil)⟩)⟩)⟩)⟩)⟩), (show ([5, 0, 1, 2, 3] : List Nat).Nodup from by decide)⟩ w
  · replace w := w.2 q
    refine ab_fin.s1i (i := .iconst 0) (k := 1) (pc' := 15) (n := 0) (by decide +kernel) rfl (by decide +kernel) rfl ?_
    exact ab_fin.q_ret (i := .ireturn) (k := 1) (v := some (.int 0)) (by decide +kernel) rfl F w
theorem S_X23_bound_19 {Z : zT} {d : Nat} {σ : Sg} {l0 : Nat} {l1 : Int32} {l2 : Int32} {l3 : Int64} {l5 : Int32} {K : kS} (F : FX ΦR σ.sh σ.r) (w : (4 ≤ l5 → K (.inl (some (.int 1))) σ) ∧ (¬ 4 ≤ l5 → B_X23_bound_28 Z (d + 1) σ l0 l1 l2 l3 l5 0 K)) : B_X23_bound_19 Z (d + 1) σ l0 l1 l2 l3 l5 K := by
  unfold B_X23_bound_19
  refine ab_fin.s2 (i := .iload 5) (k := 2) (pc' := 21) (lv' := [(0, .ref l0), (1, .int l1), (2, .int l2), (3, .long l3), (5, .int l5)]) (st' := [.int l5]) (by decide +kernel) rfl rfl ?_
  refine ab_fin.s1i (i := .iconst 4) (k := 1) (pc' := 22) (n := 4) (by decide +kernel) rfl (by decide +kernel) rfl ?_
  refine ab_fin.br (c := 4 ≤ l5) (i := .if_icmp .ge 64) (off := 64) (t := 86) (pc' := 25) (r := []) (by decide +kernel) rfl (by decide +kernel) rfl (fun q => ?_) (fun q => ?_)
  · replace w := w.1 q
    refine ab_fin.s1i (i := .iconst 1) (k := 1) (pc' := 87) (n := 1) (by decide +kernel) rfl (by decide +kernel) rfl ?_
    exact ab_fin.q_ret (i := .ireturn) (k := 1) (v := some (.int 1)) (by decide +kernel) rfl F w
  · replace w := w.2 q
    refine ab_fin.s1i (i := .iconst 0) (k := 1) (pc' := 26) (n := 0) (by decide +kernel) rfl (by decide +kernel) rfl ?_
    refine ab_fin.s2 (i := .istore 6) (k := 2) (pc' := 28) (lv' := [(6, .int 0), (0, .ref l0), (1, .int l1), (2, .int l2), (3, .long l3), (5, .int l5)]) (st' := []) (by decide +kernel) rfl rfl ?_
    exact ab_fin.lv ⟨(List.forall_mem_cons.mpr ⟨(List.Mem.tail _ (List.Mem.head _)), (List.forall_mem_cons.mpr ⟨(List.Mem.tail _ (List.Mem.tail _ (List.Mem.head _))), (List.forall_mem_cons.mpr ⟨(List.Mem.tail _ (List.Mem.tail _ (List.Mem.tail _ (List.Mem.head _)))), (List.forall_mem_cons.mpr ⟨(List.Mem.tail _ (List.Mem.tail _ (List.Mem.tail _ (List.Mem.tail _ (List.Mem.head _))))), (List.forall_mem_cons.mpr ⟨(List.Mem.tail _ (List.Mem.tail _ (List.Mem.tail _ (List.Mem.tail _ (List.Mem.tail _ (List.Mem.head _)))))), (List.forall_mem_cons.mpr ⟨(List.Mem.head _), (fun _ h => absurd h List.not_mem_nil)⟩)⟩)⟩)⟩)⟩)⟩), (show ([6, 0, 1, 2, 3, 5] : List Nat).Nodup from by decide)⟩ w
theorem S_X23_bound_28 {Z : zT} {d : Nat} {σ : Sg} {l0 : Nat} {l1 : Int32} {l2 : Int32} {l3 : Int64} {l5 : Int32} {l6 : Int32} {K : kS} (F : FX ΦR σ.sh σ.r) (w : (4 ≤ l6 → B_X23_bound_19 Z (d + 1) σ l0 l1 l2 l3 (l5 + 1) K) ∧ (¬ 4 ≤ l6 → ∃ n2, σ.sh[l0]? = some (Sh.arr 1 n2) ∧ (ib (((4 : Int32) * l5) + l6) n2 ∧ (ib (((4 : Int32) * l5) + l1) n2 ∧ (ib (((4 : Int32) * l2) + l6) n2 ∧ (ib (((4 : Int32) * l5) + l6) n2 ∧ (B_X23_bound_28 Z (d + 1) (σ.wl l0 ((((4 : Int32) * l5) + l6).toNatClampNeg) (if (((σ.l l0 ((((4 : Int32) * l5) + l1).toNatClampNeg)) + l3) + (σ.l l0 ((((4 : Int32) * l2) + l6).toNatClampNeg))) < (σ.l l0 ((((4 : Int32) * l5) + l6).toNatClampNeg)) then (((σ.l l0 ((((4 : Int32) * l5) + l1).toNatClampNeg)) + l3) + (σ.l l0 ((((4 : Int32) * l2) + l6).toNatClampNeg))) else (σ.l l0 ((((4 : Int32) * l5) + l6).toNatClampNeg)))) l0 l1 l2 l3 l5 (l6 + 1) K))))))) : B_X23_bound_28 Z (d + 1) σ l0 l1 l2 l3 l5 l6 K := by
  unfold B_X23_bound_28
  refine ab_fin.s2 (i := .iload 6) (k := 2) (pc' := 30) (lv' := [(0, .ref l0), (1, .int l1), (2, .int l2), (3, .long l3), (5, .int l5), (6, .int l6)]) (st' := [.int l6]) (by decide +kernel) rfl rfl ?_
  refine ab_fin.s1i (i := .iconst 4) (k := 1) (pc' := 31) (n := 4) (by decide +kernel) rfl (by decide +kernel) rfl ?_
  refine ab_fin.br (c := 4 ≤ l6) (i := .if_icmp .ge 49) (off := 49) (t := 80) (pc' := 34) (r := []) (by decide +kernel) rfl (by decide +kernel) rfl (fun q => ?_) (fun q => ?_)
  · replace w := w.1 q
    refine ab_fin.q_inc (n := 5) (c := 1) (pc' := 83) (lv' := [(5, .int (l5 + 1)), (0, .ref l0), (1, .int l1), (2, .int l2), (3, .long l3), (6, .int l6)]) (by decide +kernel) (by decide) rfl rfl rfl rfl ?_
    refine ab_fin.s3 (i := .goto (-64)) (k := 3) (t := 19) (st' := []) (by decide +kernel) (ab_gto (by decide +kernel)) ?_
    exact ab_fin.lv ⟨(List.forall_mem_cons.mpr ⟨(List.Mem.tail _ (List.Mem.head _)), (List.forall_mem_cons.mpr ⟨(List.Mem.tail _ (List.Mem.tail _ (List.Mem.head _))), (List.forall_mem_cons.mpr ⟨(List.Mem.tail _ (List.Mem.tail _ (List.Mem.tail _ (List.Mem.head _)))), (List.forall_mem_cons.mpr ⟨(List.Mem.tail _ (List.Mem.tail _ (List.Mem.tail _ (List.Mem.tail _ (List.Mem.head _))))), (List.forall_mem_cons.mpr ⟨(List.Mem.head _), (fun _ h => absurd h List.not_mem_nil)⟩)⟩)⟩)⟩)⟩), (show ([5, 0, 1, 2, 3, 6] : List Nat).Nodup from by decide)⟩ w
  · replace w := w.2 q
    refine ab_fin.s2 (i := .aload_n 0) (k := 1) (pc' := 35) (lv' := [(0, .ref l0), (1, .int l1), (2, .int l2), (3, .long l3), (5, .int l5), (6, .int l6)]) (st' := [.ref l0]) (by decide +kernel) rfl rfl ?_
    refine ab_fin.s1i (i := .iconst 4) (k := 1) (pc' := 36) (n := 4) (by decide +kernel) rfl (by decide +kernel) rfl ?_
    refine ab_fin.s2 (i := .iload 5) (k := 2) (pc' := 38) (lv' := [(0, .ref l0), (1, .int l1), (2, .int l2), (3, .long l3), (5, .int l5), (6, .int l6)]) (st' := [.int l5, .int 4, .ref l0]) (by decide +kernel) rfl rfl ?_
    refine ab_fin.s1 (i := .imul) (k := 1) (pc' := 39) (st' := [.int ((4 : Int32) * l5), .ref l0]) (by decide +kernel) rfl rfl ?_
    refine ab_fin.s2 (i := .iload 6) (k := 2) (pc' := 41) (lv' := [(0, .ref l0), (1, .int l1), (2, .int l2), (3, .long l3), (5, .int l5), (6, .int l6)]) (st' := [.int l6, .int ((4 : Int32) * l5), .ref l0]) (by decide +kernel) rfl rfl ?_
    refine ab_fin.s1 (i := .iadd) (k := 1) (pc' := 42) (st' := [.int (((4 : Int32) * l5) + l6), .ref l0]) (by decide +kernel) rfl rfl ?_
    refine ab_fin.s2 (i := .aload_n 0) (k := 1) (pc' := 43) (lv' := [(0, .ref l0), (1, .int l1), (2, .int l2), (3, .long l3), (5, .int l5), (6, .int l6)]) (st' := [.ref l0, .int (((4 : Int32) * l5) + l6), .ref l0]) (by decide +kernel) rfl rfl ?_
    refine ab_fin.s1i (i := .iconst 4) (k := 1) (pc' := 44) (n := 4) (by decide +kernel) rfl (by decide +kernel) rfl ?_
    refine ab_fin.s2 (i := .iload 5) (k := 2) (pc' := 46) (lv' := [(0, .ref l0), (1, .int l1), (2, .int l2), (3, .long l3), (5, .int l5), (6, .int l6)]) (st' := [.int l5, .int 4, .ref l0, .int (((4 : Int32) * l5) + l6), .ref l0]) (by decide +kernel) rfl rfl ?_
    refine ab_fin.s1 (i := .imul) (k := 1) (pc' := 47) (st' := [.int ((4 : Int32) * l5), .ref l0, .int (((4 : Int32) * l5) + l6), .ref l0]) (by decide +kernel) rfl rfl ?_
    refine ab_fin.s2 (i := .iload 6) (k := 2) (pc' := 49) (lv' := [(0, .ref l0), (1, .int l1), (2, .int l2), (3, .long l3), (5, .int l5), (6, .int l6)]) (st' := [.int l6, .int ((4 : Int32) * l5), .ref l0, .int (((4 : Int32) * l5) + l6), .ref l0]) (by decide +kernel) rfl rfl ?_
    refine ab_fin.s1 (i := .iadd) (k := 1) (pc' := 50) (st' := [.int (((4 : Int32) * l5) + l6), .ref l0, .int (((4 : Int32) * l5) + l6), .ref l0]) (by decide +kernel) rfl rfl ?_
    obtain ⟨n2, e1, w⟩ := w
    obtain ⟨e3, w⟩ := w
    refine ab_fin.q_eL (x := (σ.l l0 ((((4 : Int32) * l5) + l6).toNatClampNeg))) (pc' := 51) (by decide +kernel) (c_eL' e1 e3 rfl) rfl ?_
    refine ab_fin.s2 (i := .aload_n 0) (k := 1) (pc' := 52) (lv' := [(0, .ref l0), (1, .int l1), (2, .int l2), (3, .long l3), (5, .int l5), (6, .int l6)]) (st' := [.ref l0, .long (σ.l l0 ((((4 : Int32) * l5) + l6).toNatClampNeg)), .int (((4 : Int32) * l5) + l6), .ref l0]) (by decide +kernel) rfl rfl ?_
    refine ab_fin.s1i (i := .iconst 4) (k := 1) (pc' := 53) (n := 4) (by decide +kernel) rfl (by decide +kernel) rfl ?_
    refine ab_fin.s2 (i := .iload 5) (k := 2) (pc' := 55) (lv' := [(0, .ref l0), (1, .int l1), (2, .int l2), (3, .long l3), (5, .int l5), (6, .int l6)]) (st' := [.int l5, .int 4, .ref l0, .long (σ.l l0 ((((4 : Int32) * l5) + l6).toNatClampNeg)), .int (((4 : Int32) * l5) + l6), .ref l0]) (by decide +kernel) rfl rfl ?_
    refine ab_fin.s1 (i := .imul) (k := 1) (pc' := 56) (st' := [.int ((4 : Int32) * l5), .ref l0, .long (σ.l l0 ((((4 : Int32) * l5) + l6).toNatClampNeg)), .int (((4 : Int32) * l5) + l6), .ref l0]) (by decide +kernel) rfl rfl ?_
    refine ab_fin.s2 (i := .iload_n 1) (k := 1) (pc' := 57) (lv' := [(0, .ref l0), (1, .int l1), (2, .int l2), (3, .long l3), (5, .int l5), (6, .int l6)]) (st' := [.int l1, .int ((4 : Int32) * l5), .ref l0, .long (σ.l l0 ((((4 : Int32) * l5) + l6).toNatClampNeg)), .int (((4 : Int32) * l5) + l6), .ref l0]) (by decide +kernel) rfl rfl ?_
    refine ab_fin.s1 (i := .iadd) (k := 1) (pc' := 58) (st' := [.int (((4 : Int32) * l5) + l1), .ref l0, .long (σ.l l0 ((((4 : Int32) * l5) + l6).toNatClampNeg)), .int (((4 : Int32) * l5) + l6), .ref l0]) (by decide +kernel) rfl rfl ?_
    obtain ⟨e4, w⟩ := w
    refine ab_fin.q_eL (x := (σ.l l0 ((((4 : Int32) * l5) + l1).toNatClampNeg))) (pc' := 59) (by decide +kernel) (c_eL' e1 e4 rfl) rfl ?_
    refine ab_fin.s2 (i := .lload_n 3) (k := 1) (pc' := 60) (lv' := [(0, .ref l0), (1, .int l1), (2, .int l2), (3, .long l3), (5, .int l5), (6, .int l6)]) (st' := [.long l3, .long (σ.l l0 ((((4 : Int32) * l5) + l1).toNatClampNeg)), .long (σ.l l0 ((((4 : Int32) * l5) + l6).toNatClampNeg)), .int (((4 : Int32) * l5) + l6), .ref l0]) (by decide +kernel) rfl rfl ?_
    refine ab_fin.s1 (i := .ladd) (k := 1) (pc' := 61) (st' := [.long ((σ.l l0 ((((4 : Int32) * l5) + l1).toNatClampNeg)) + l3), .long (σ.l l0 ((((4 : Int32) * l5) + l6).toNatClampNeg)), .int (((4 : Int32) * l5) + l6), .ref l0]) (by decide +kernel) rfl rfl ?_
    refine ab_fin.s2 (i := .aload_n 0) (k := 1) (pc' := 62) (lv' := [(0, .ref l0), (1, .int l1), (2, .int l2), (3, .long l3), (5, .int l5), (6, .int l6)]) (st' := [.ref l0, .long ((σ.l l0 ((((4 : Int32) * l5) + l1).toNatClampNeg)) + l3), .long (σ.l l0 ((((4 : Int32) * l5) + l6).toNatClampNeg)), .int (((4 : Int32) * l5) + l6), .ref l0]) (by decide +kernel) rfl rfl ?_
    refine ab_fin.s1i (i := .iconst 4) (k := 1) (pc' := 63) (n := 4) (by decide +kernel) rfl (by decide +kernel) rfl ?_
    refine ab_fin.s2 (i := .iload_n 2) (k := 1) (pc' := 64) (lv' := [(0, .ref l0), (1, .int l1), (2, .int l2), (3, .long l3), (5, .int l5), (6, .int l6)]) (st' := [.int l2, .int 4, .ref l0, .long ((σ.l l0 ((((4 : Int32) * l5) + l1).toNatClampNeg)) + l3), .long (σ.l l0 ((((4 : Int32) * l5) + l6).toNatClampNeg)), .int (((4 : Int32) * l5) + l6), .ref l0]) (by decide +kernel) rfl rfl ?_
    refine ab_fin.s1 (i := .imul) (k := 1) (pc' := 65) (st' := [.int ((4 : Int32) * l2), .ref l0, .long ((σ.l l0 ((((4 : Int32) * l5) + l1).toNatClampNeg)) + l3), .long (σ.l l0 ((((4 : Int32) * l5) + l6).toNatClampNeg)), .int (((4 : Int32) * l5) + l6), .ref l0]) (by decide +kernel) rfl rfl ?_
    refine ab_fin.s2 (i := .iload 6) (k := 2) (pc' := 67) (lv' := [(0, .ref l0), (1, .int l1), (2, .int l2), (3, .long l3), (5, .int l5), (6, .int l6)]) (st' := [.int l6, .int ((4 : Int32) * l2), .ref l0, .long ((σ.l l0 ((((4 : Int32) * l5) + l1).toNatClampNeg)) + l3), .long (σ.l l0 ((((4 : Int32) * l5) + l6).toNatClampNeg)), .int (((4 : Int32) * l5) + l6), .ref l0]) (by decide +kernel) rfl rfl ?_
    refine ab_fin.s1 (i := .iadd) (k := 1) (pc' := 68) (st' := [.int (((4 : Int32) * l2) + l6), .ref l0, .long ((σ.l l0 ((((4 : Int32) * l5) + l1).toNatClampNeg)) + l3), .long (σ.l l0 ((((4 : Int32) * l5) + l6).toNatClampNeg)), .int (((4 : Int32) * l5) + l6), .ref l0]) (by decide +kernel) rfl rfl ?_
    obtain ⟨e5, w⟩ := w
    refine ab_fin.q_eL (x := (σ.l l0 ((((4 : Int32) * l2) + l6).toNatClampNeg))) (pc' := 69) (by decide +kernel) (c_eL' e1 e5 rfl) rfl ?_
    refine ab_fin.s1 (i := .ladd) (k := 1) (pc' := 70) (st' := [.long (((σ.l l0 ((((4 : Int32) * l5) + l1).toNatClampNeg)) + l3) + (σ.l l0 ((((4 : Int32) * l2) + l6).toNatClampNeg))), .long (σ.l l0 ((((4 : Int32) * l5) + l6).toNatClampNeg)), .int (((4 : Int32) * l5) + l6), .ref l0]) (by decide +kernel) rfl rfl ?_
    refine ab_fin.cpy (i := .invokestatic 207) (k := 3) (pc' := 73) (h1 := conc σ) (st' := [.long (if (((σ.l l0 ((((4 : Int32) * l5) + l1).toNatClampNeg)) + l3) + (σ.l l0 ((((4 : Int32) * l2) + l6).toNatClampNeg))) < (σ.l l0 ((((4 : Int32) * l5) + l6).toNatClampNeg)) then (((σ.l l0 ((((4 : Int32) * l5) + l1).toNatClampNeg)) + l3) + (σ.l l0 ((((4 : Int32) * l2) + l6).toNatClampNeg))) else (σ.l l0 ((((4 : Int32) * l5) + l6).toNatClampNeg))), .int (((4 : Int32) * l5) + l6), .ref l0]) (by decide +kernel) rfl rfl ?_
    obtain ⟨e6, w⟩ := w
    refine ab_fin.q_sL (h1 := conc (σ.wl l0 ((((4 : Int32) * l5) + l6).toNatClampNeg) (if (((σ.l l0 ((((4 : Int32) * l5) + l1).toNatClampNeg)) + l3) + (σ.l l0 ((((4 : Int32) * l2) + l6).toNatClampNeg))) < (σ.l l0 ((((4 : Int32) * l5) + l6).toNatClampNeg)) then (((σ.l l0 ((((4 : Int32) * l5) + l1).toNatClampNeg)) + l3) + (σ.l l0 ((((4 : Int32) * l2) + l6).toNatClampNeg))) else (σ.l l0 ((((4 : Int32) * l5) + l6).toNatClampNeg))))) (pc' := 74) (by decide +kernel) (c_sL' e1 e6 rfl) rfl ?_
    refine ab_fin.q_inc (n := 6) (c := 1) (pc' := 77) (lv' := [(6, .int (l6 + 1)), (0, .ref l0), (1, .int l1), (2, .int l2), (3, .long l3), (5, .int l5)]) (by decide +kernel) (by decide) rfl rfl rfl rfl ?_
    refine ab_fin.s3 (i := .goto (-49)) (k := 3) (t := 28) (st' := []) (by decide +kernel) (ab_gto (by decide +kernel)) ?_
    exact ab_fin.lv ⟨(List.forall_mem_cons.mpr ⟨(List.Mem.tail _ (List.Mem.head _)), (List.forall_mem_cons.mpr ⟨(List.Mem.tail _ (List.Mem.tail _ (List.Mem.head _))), (List.forall_mem_cons.mpr ⟨(List.Mem.tail _ (List.Mem.tail _ (List.Mem.tail _ (List.Mem.head _)))), (List.forall_mem_cons.mpr ⟨(List.Mem.tail _ (List.Mem.tail _ (List.Mem.tail _ (List.Mem.tail _ (List.Mem.head _))))), (List.forall_mem_cons.mpr ⟨(List.Mem.tail _ (List.Mem.tail _ (List.Mem.tail _ (List.Mem.tail _ (List.Mem.tail _ (List.Mem.head _)))))), (List.forall_mem_cons.mpr ⟨(List.Mem.head _), (fun _ h => absurd h List.not_mem_nil)⟩)⟩)⟩)⟩)⟩)⟩), (show ([6, 0, 1, 2, 3, 5] : List Nat).Nodup from by decide)⟩ w
theorem S_X23_both_0 {Z : zT} {d : Nat} {σ : Sg} {l0 : Int32} {l1 : Int32} {K : kS} (F : FX ΦR σ.sh σ.r) (w : (l0 = 0 → K (.inl (some (.int 0))) σ) ∧ (¬ l0 = 0 → (¬ l1 = 0 → (¬ l0 = 1 → K (.inl (some (.int 2))) σ) ∧ (l0 = 1 → (¬ l1 = 1 → K (.inl (some (.int 2))) σ) ∧ (l1 = 1 → K (.inl (some (.int 1))) σ))) ∧ (l1 = 0 → K (.inl (some (.int 0))) σ))) : B_X23_both_0 Z (d + 1) σ l0 l1 K := by
  unfold B_X23_both_0
  refine ab_fin.s2 (i := .iload_n 0) (k := 1) (pc' := 1) (lv' := [(0, .int l0), (1, .int l1)]) (st' := [.int l0]) (by decide +kernel) rfl rfl ?_
  refine ab_fin.br (c := l0 = 0) (i := .ifCond .eq 7) (off := 7) (t := 8) (pc' := 4) (r := []) (by decide +kernel) rfl (by decide +kernel) rfl (fun q => ?_) (fun q => ?_)
  · replace w := w.1 q
    refine ab_fin.s1i (i := .iconst 0) (k := 1) (pc' := 9) (n := 0) (by decide +kernel) rfl (by decide +kernel) rfl ?_
    refine ab_fin.s3 (i := .goto 18) (k := 3) (t := 27) (st' := [.int 0]) (by decide +kernel) (ab_gto (by decide +kernel)) ?_
    exact ab_fin.q_ret (i := .ireturn) (k := 1) (v := some (.int 0)) (by decide +kernel) rfl F w
  · replace w := w.2 q
    refine ab_fin.s2 (i := .iload_n 1) (k := 1) (pc' := 5) (lv' := [(0, .int l0), (1, .int l1)]) (st' := [.int l1]) (by decide +kernel) rfl rfl ?_
    refine ab_fin.br (c := ¬ l1 = 0) (i := .ifCond .ne 7) (off := 7) (t := 12) (pc' := 8) (r := []) (by decide +kernel) rfl (by decide +kernel) rfl (fun q => ?_) (fun q => ?_)
    · replace w := w.1 q
      refine ab_fin.s2 (i := .iload_n 0) (k := 1) (pc' := 13) (lv' := [(0, .int l0), (1, .int l1)]) (st' := [.int l0]) (by decide +kernel) rfl rfl ?_
      refine ab_fin.s1i (i := .iconst 1) (k := 1) (pc' := 14) (n := 1) (by decide +kernel) rfl (by decide +kernel) rfl ?_
      refine ab_fin.br (c := ¬ l0 = 1) (i := .if_icmp .ne 12) (off := 12) (t := 26) (pc' := 17) (r := []) (by decide +kernel) rfl (by decide +kernel) rfl (fun q => ?_) (fun q => ?_)
      · replace w := w.1 q
        refine ab_fin.s1i (i := .iconst 2) (k := 1) (pc' := 27) (n := 2) (by decide +kernel) rfl (by decide +kernel) rfl ?_
        exact ab_fin.q_ret (i := .ireturn) (k := 1) (v := some (.int 2)) (by decide +kernel) rfl F w
      · replace w := w.2 (Decidable.of_not_not q)
        refine ab_fin.s2 (i := .iload_n 1) (k := 1) (pc' := 18) (lv' := [(0, .int l0), (1, .int l1)]) (st' := [.int l1]) (by decide +kernel) rfl rfl ?_
        refine ab_fin.s1i (i := .iconst 1) (k := 1) (pc' := 19) (n := 1) (by decide +kernel) rfl (by decide +kernel) rfl ?_
        refine ab_fin.br (c := ¬ l1 = 1) (i := .if_icmp .ne 7) (off := 7) (t := 26) (pc' := 22) (r := []) (by decide +kernel) rfl (by decide +kernel) rfl (fun q => ?_) (fun q => ?_)
        · replace w := w.1 q
          refine ab_fin.s1i (i := .iconst 2) (k := 1) (pc' := 27) (n := 2) (by decide +kernel) rfl (by decide +kernel) rfl ?_
          exact ab_fin.q_ret (i := .ireturn) (k := 1) (v := some (.int 2)) (by decide +kernel) rfl F w
        · replace w := w.2 (Decidable.of_not_not q)
          refine ab_fin.s1i (i := .iconst 1) (k := 1) (pc' := 23) (n := 1) (by decide +kernel) rfl (by decide +kernel) rfl ?_
          refine ab_fin.s3 (i := .goto 4) (k := 3) (t := 27) (st' := [.int 1]) (by decide +kernel) (ab_gto (by decide +kernel)) ?_
          exact ab_fin.q_ret (i := .ireturn) (k := 1) (v := some (.int 1)) (by decide +kernel) rfl F w
    · replace w := w.2 (Decidable.of_not_not q)
      refine ab_fin.s1i (i := .iconst 0) (k := 1) (pc' := 9) (n := 0) (by decide +kernel) rfl (by decide +kernel) rfl ?_
      refine ab_fin.s3 (i := .goto 18) (k := 3) (t := 27) (st' := [.int 0]) (by decide +kernel) (ab_gto (by decide +kernel)) ?_
      exact ab_fin.q_ret (i := .ireturn) (k := 1) (v := some (.int 0)) (by decide +kernel) rfl F w
theorem S_X23_not_0 {Z : zT} {d : Nat} {σ : Sg} {l0 : Int32} {K : kS} (F : FX ΦR σ.sh σ.r) (w : (¬ l0 = 2 → K (.inl (some (.int ((1 : Int32) - l0)))) σ) ∧ (l0 = 2 → K (.inl (some (.int l0))) σ)) : B_X23_not_0 Z (d + 1) σ l0 K := by
  unfold B_X23_not_0
  refine ab_fin.s2 (i := .iload_n 0) (k := 1) (pc' := 1) (lv' := [(0, .int l0)]) (st' := [.int l0]) (by decide +kernel) rfl rfl ?_
  refine ab_fin.s1i (i := .iconst 2) (k := 1) (pc' := 2) (n := 2) (by decide +kernel) rfl (by decide +kernel) rfl ?_
  refine ab_fin.br (c := ¬ l0 = 2) (i := .if_icmp .ne 7) (off := 7) (t := 9) (pc' := 5) (r := []) (by decide +kernel) rfl (by decide +kernel) rfl (fun q => ?_) (fun q => ?_)
  · replace w := w.1 q
    refine ab_fin.s1i (i := .iconst 1) (k := 1) (pc' := 10) (n := 1) (by decide +kernel) rfl (by decide +kernel) rfl ?_
    refine ab_fin.s2 (i := .iload_n 0) (k := 1) (pc' := 11) (lv' := [(0, .int l0)]) (st' := [.int l0, .int 1]) (by decide +kernel) rfl rfl ?_
    refine ab_fin.s1 (i := .isub) (k := 1) (pc' := 12) (st' := [.int ((1 : Int32) - l0)]) (by decide +kernel) rfl rfl ?_
    exact ab_fin.q_ret (i := .ireturn) (k := 1) (v := some (.int ((1 : Int32) - l0))) (by decide +kernel) rfl F w
  · replace w := w.2 (Decidable.of_not_not q)
    refine ab_fin.s2 (i := .iload_n 0) (k := 1) (pc' := 6) (lv' := [(0, .int l0)]) (st' := [.int l0]) (by decide +kernel) rfl rfl ?_
    refine ab_fin.s3 (i := .goto 6) (k := 3) (t := 12) (st' := [.int l0]) (by decide +kernel) (ab_gto (by decide +kernel)) ?_
    exact ab_fin.q_ret (i := .ireturn) (k := 1) (v := some (.int l0)) (by decide +kernel) rfl F w
theorem S_X23_takes_0 {Z : zT} {d : Nat} {σ : Sg} {l1 : Nat} {K : kS} (F : FX ΦR σ.sh σ.r) (w : B_X23_takes_4 Z (d + 1) σ l1 1 0 K) : B_X23_takes_0 Z (d + 1) σ l1 K := by
  unfold B_X23_takes_0
  refine ab_fin.s1i (i := .iconst 1) (k := 1) (pc' := 1) (n := 1) (by decide +kernel) rfl (by decide +kernel) rfl ?_
  refine ab_fin.s2 (i := .istore_n 2) (k := 1) (pc' := 2) (lv' := [(2, .int 1), (0, .ref 0), (1, .ref l1)]) (st' := []) (by decide +kernel) rfl rfl ?_
  refine ab_fin.s1i (i := .iconst 0) (k := 1) (pc' := 3) (n := 0) (by decide +kernel) rfl (by decide +kernel) rfl ?_
  refine ab_fin.s2 (i := .istore_n 3) (k := 1) (pc' := 4) (lv' := [(3, .int 0), (2, .int 1), (0, .ref 0), (1, .ref l1)]) (st' := []) (by decide +kernel) rfl rfl ?_
  exact ab_fin.lv ⟨(List.forall_mem_cons.mpr ⟨(List.Mem.tail _ (List.Mem.tail _ (List.Mem.head _))), (List.forall_mem_cons.mpr ⟨(List.Mem.tail _ (List.Mem.tail _ (List.Mem.tail _ (List.Mem.head _)))), (List.forall_mem_cons.mpr ⟨(List.Mem.tail _ (List.Mem.head _)), (List.forall_mem_cons.mpr ⟨(List.Mem.head _), (fun _ h => absurd h List.not_mem_nil)⟩)⟩)⟩)⟩), (show ([3, 2, 0, 1] : List Nat).Nodup from by decide)⟩ w
theorem S_X23_takes_4 {Z : zT} {d : Nat} {σ : Sg} {l1 : Nat} {l2 : Int32} {l3 : Int32} {K : kS} (F : FX ΦR σ.sh σ.r) (w : sh0R[l1]? = some (Sh.obj 19) ∧ (ib (σ.i l1 0) 24 ∧ (((σ.i (2409 + 3 * ((σ.i l1 0).toNatClampNeg)) 1) ≤ l3 → (¬ (σ.r l1 8) = Rf.nul → B_X23_holds_0 Z d σ (σ.r l1 8) (yI K fun v5 τ3 => B_X23_both_0 Z d τ3 l2 v5 (yI K fun v8 τ6 => K (.inl (some (.int v8))) τ6))) ∧ ((σ.r l1 8) = Rf.nul → B_X23_both_0 Z d σ l2 1 (yI K fun v11 τ9 => K (.inl (some (.int v11))) τ9))) ∧ (¬ (σ.i (2409 + 3 * ((σ.i l1 0).toNatClampNeg)) 1) ≤ l3 → ib l3 3 ∧ ((¬ (σ.i (l1 + 3) l3.toNatClampNeg) = 0 → ((σ.i 0 48) < (σ.i 0 53) → ib (σ.i 0 48) 128 ∧ ((¬ (σ.i 1935 ((σ.i 0 48).toNatClampNeg)) = 0 → B_X23_both_0 Z d σ l2 0 (yI K fun v16 τ14 => B_X23_takes_4 Z (d + 1) (τ14.wi 0 48 ((τ14.i 0 48) + (1 : Int32))) l1 v16 (l3 + 1) K)) ∧ ((σ.i 1935 ((σ.i 0 48).toNatClampNeg)) = 0 → B_X23_both_0 Z d σ l2 1 (yI K fun v19 τ17 => B_X23_takes_4 Z (d + 1) (τ17.wi 0 48 ((τ17.i 0 48) + (1 : Int32))) l1 v19 (l3 + 1) K)))) ∧ (¬ (σ.i 0 48) < (σ.i 0 53) → B_X23_both_0 Z d σ l2 2 (yI K fun v22 τ20 => B_X23_takes_4 Z (d + 1) (τ20.wi 0 48 ((τ20.i 0 48) + (1 : Int32))) l1 v22 (l3 + 1) K))) ∧ ((σ.i (l1 + 3) l3.toNatClampNeg) = 0 → B_X23_takes_4 Z (d + 1) σ l1 l2 (l3 + 1) K)))))) : B_X23_takes_4 Z (d + 1) σ l1 l2 l3 K := by
  unfold B_X23_takes_4
  refine ab_fin.s2 (i := .iload_n 3) (k := 1) (pc' := 5) (lv' := [(0, .ref 0), (1, .ref l1), (2, .int l2), (3, .int l3)]) (st' := [.int l3]) (by decide +kernel) rfl rfl ?_
  refine ab_fin.s2 (i := .aload_n 0) (k := 1) (pc' := 6) (lv' := [(0, .ref 0), (1, .ref l1), (2, .int l2), (3, .int l3)]) (st' := [.ref 0, .int l3]) (by decide +kernel) rfl rfl ?_
  refine ab_fin.q_rA (b := 2) (ix := 34) (ci := 24) (k := 1) (pc' := 9) (by decide +kernel) rfl (c_rA (F.s s0_0) rfl (rM_1 F)) rfl ?_
  refine ab_fin.s2 (i := .aload_n 1) (k := 1) (pc' := 10) (lv' := [(0, .ref 0), (1, .ref l1), (2, .int l2), (3, .int l3)]) (st' := [.ref l1, .ref 2, .int l3]) (by decide +kernel) rfl rfl ?_
  obtain ⟨e1, w⟩ := w
  refine ab_fin.q_rI (x := (σ.i l1 0)) (ix := 323) (ci := 19) (k := 0) (pc' := 13) (by decide +kernel) rfl (c_rI (F.s e1) rfl) rfl ?_
  obtain ⟨e2, w⟩ := w
  refine ab_fin.q_eA (b := (2409 + 3 * ((σ.i l1 0).toNatClampNeg))) (pc' := 14) (by decide +kernel) (c_eA' (F.s s0_2) (by decide) rfl e2 rfl (rE_5 F s0_2)) rfl ?_
  refine ab_fin.q_rI (x := (σ.i (2409 + 3 * ((σ.i l1 0).toNatClampNeg)) 1)) (ix := 303) (ci := 14) (k := 1) (pc' := 17) (by decide +kernel) rfl (c_rI (F.s (kE_2 e2.2)) rfl) rfl ?_
  refine ab_fin.br (c := (σ.i (2409 + 3 * ((σ.i l1 0).toNatClampNeg)) 1) ≤ l3) (i := .if_icmp .ge 68) (off := 68) (t := 85) (pc' := 20) (r := []) (by decide +kernel) rfl (by decide +kernel) rfl (fun q => ?_) (fun q => ?_)
  · replace w := w.1 q
    refine ab_fin.s2 (i := .iload_n 2) (k := 1) (pc' := 86) (lv' := [(0, .ref 0), (1, .ref l1), (2, .int l2), (3, .int l3)]) (st' := [.int l2]) (by decide +kernel) rfl rfl ?_
    refine ab_fin.s2 (i := .aload_n 1) (k := 1) (pc' := 87) (lv' := [(0, .ref 0), (1, .ref l1), (2, .int l2), (3, .int l3)]) (st' := [.ref l1, .int l2]) (by decide +kernel) rfl rfl ?_
    refine ab_fin.q_rV (v := rv (σ.r l1 8)) (ix := 335) (ci := 19) (k := 8) (pc' := 90) (by decide +kernel) rfl (c_rV (F.s e1) rfl) rfl ?_
    refine ab_fin.q_nnl (off := 7) (t := 97) (pc' := 93) (by decide +kernel) (oR_rv _) (by decide +kernel) rfl (fun q => ?_) (fun q => ?_)
    · replace w := w.1 (fun z => q (rv_null.mpr z))
      refine ab_fin.s2 (i := .aload_n 0) (k := 1) (pc' := 98) (lv' := [(0, .ref 0), (1, .ref l1), (2, .int l2), (3, .int l3)]) (st' := [.ref 0, .int l2]) (by decide +kernel) rfl rfl ?_
      refine ab_fin.s2 (i := .aload_n 1) (k := 1) (pc' := 99) (lv' := [(0, .ref 0), (1, .ref l1), (2, .int l2), (3, .int l3)]) (st' := [.ref l1, .ref 0, .int l2]) (by decide +kernel) rfl rfl ?_
      refine ab_fin.q_rV (v := rv (σ.r l1 8)) (ix := 335) (ci := 19) (k := 8) (pc' := 102) (by decide +kernel) rfl (c_rV (F.s e1) rfl) rfl ?_
      refine ab_fin.q_yI (i := .invokevirtual 592) (k := 3) (y := 5948) (As := [.ref 0, rv (σ.r l1 8)]) (rest := [.int l2]) (M' := (mX23_holds, [])) (lv2 := [(0, .ref 0), (1, rv (σ.r l1 8))]) (pc' := 105) (X := K) (by decide +kernel) (ab_cv rfl rfl (conc_get (σ := σ) (F.s s0_0)) ⟨(Nat.le_of_ble_eq_true rfl), (Nat.le_of_ble_eq_true rfl)⟩ rfl) rfl (by rw [lg_cnt]; simp only [List.map_cons, List.map_nil, cI, cL, cR1, cN1, cX1, cA (oR_rv _)]; exact Nat.le_of_ble_eq_true rfl) (by rw [lvA (v := .ref 0) rfl, lvA (oR_rv _), lvN]) rfl (hY_no fun E => rfl) w (fun v5 τ3 F4 w => ?_)
      refine ab_fin.q_yI (i := .invokestatic 589) (k := 3) (y := 5945) (As := [.int l2, .int v5]) (rest := []) (M' := (mX23_both, [])) (lv2 := [(0, .int l2), (1, .int v5)]) (pc' := 108) (X := K) (by decide +kernel) (ab_cs rfl rfl ⟨(Nat.le_of_ble_eq_true rfl), (Nat.le_of_ble_eq_true rfl)⟩ rfl) rfl (Nat.le_of_ble_eq_true rfl) rfl rfl (hY_no fun E => rfl) w (fun v8 τ6 F7 w => ?_)
      exact ab_fin.q_ret (i := .ireturn) (k := 1) (v := some (.int v8)) (by decide +kernel) rfl F7 w
    · replace w := w.2 (rv_null.mp q)
      refine ab_fin.s1i (i := .iconst 1) (k := 1) (pc' := 94) (n := 1) (by decide +kernel) rfl (by decide +kernel) rfl ?_
      refine ab_fin.s3 (i := .goto 11) (k := 3) (t := 105) (st' := [.int 1, .int l2]) (by decide +kernel) (ab_gto (by decide +kernel)) ?_
      refine ab_fin.q_yI (i := .invokestatic 589) (k := 3) (y := 5945) (As := [.int l2, .int 1]) (rest := []) (M' := (mX23_both, [])) (lv2 := [(0, .int l2), (1, .int 1)]) (pc' := 108) (X := K) (by decide +kernel) (ab_cs rfl rfl ⟨(Nat.le_of_ble_eq_true rfl), (Nat.le_of_ble_eq_true rfl)⟩ rfl) rfl (Nat.le_of_ble_eq_true rfl) rfl rfl (hY_no fun E => rfl) w (fun v11 τ9 F10 w => ?_)
      exact ab_fin.q_ret (i := .ireturn) (k := 1) (v := some (.int v11)) (by decide +kernel) rfl F10 w
  · replace w := w.2 q
    refine ab_fin.s2 (i := .aload_n 1) (k := 1) (pc' := 21) (lv' := [(0, .ref 0), (1, .ref l1), (2, .int l2), (3, .int l3)]) (st' := [.ref l1]) (by decide +kernel) rfl rfl ?_
    refine ab_fin.q_rA (b := (l1 + 3)) (ix := 365) (ci := 19) (k := 7) (pc' := 24) (by decide +kernel) rfl (c_rA (F.s e1) rfl (rO_19_7 F e1)) rfl ?_
    refine ab_fin.s2 (i := .iload_n 3) (k := 1) (pc' := 25) (lv' := [(0, .ref 0), (1, .ref l1), (2, .int l2), (3, .int l3)]) (st' := [.int l3, .ref (l1 + 3)]) (by decide +kernel) rfl rfl ?_
    obtain ⟨e12, w⟩ := w
    refine ab_fin.q_eB (x := (σ.i (l1 + 3) l3.toNatClampNeg)) (pc' := 26) (by decide +kernel) (c_eB3' (F.s (kF_19_3 e1)) e12 rfl) rfl ?_
    refine ab_fin.br (c := ¬ (σ.i (l1 + 3) l3.toNatClampNeg) = 0) (i := .ifCond .ne 6) (off := 6) (t := 32) (pc' := 29) (r := []) (by decide +kernel) rfl (by decide +kernel) rfl (fun q => ?_) (fun q => ?_)
    · replace w := w.1 q
      refine ab_fin.s2 (i := .iload_n 2) (k := 1) (pc' := 33) (lv' := [(0, .ref 0), (1, .ref l1), (2, .int l2), (3, .int l3)]) (st' := [.int l2]) (by decide +kernel) rfl rfl ?_
      refine ab_fin.s2 (i := .aload_n 0) (k := 1) (pc' := 34) (lv' := [(0, .ref 0), (1, .ref l1), (2, .int l2), (3, .int l3)]) (st' := [.ref 0, .int l2]) (by decide +kernel) rfl rfl ?_
      refine ab_fin.q_rI (x := (σ.i 0 48)) (ix := 566) (ci := 24) (k := 48) (pc' := 37) (by decide +kernel) rfl (c_rI (F.s s0_0) rfl) rfl ?_
      refine ab_fin.s2 (i := .aload_n 0) (k := 1) (pc' := 38) (lv' := [(0, .ref 0), (1, .ref l1), (2, .int l2), (3, .int l3)]) (st' := [.ref 0, .int (σ.i 0 48), .int l2]) (by decide +kernel) rfl rfl ?_
      refine ab_fin.q_rI (x := (σ.i 0 53)) (ix := 569) (ci := 24) (k := 53) (pc' := 41) (by decide +kernel) rfl (c_rI (F.s s0_0) rfl) rfl ?_
      refine ab_fin.br (c := (σ.i 0 48) < (σ.i 0 53)) (i := .if_icmp .lt 7) (off := 7) (t := 48) (pc' := 44) (r := [.int l2]) (by decide +kernel) rfl (by decide +kernel) rfl (fun q => ?_) (fun q => ?_)
      · replace w := w.1 q
        refine ab_fin.s2 (i := .aload_n 0) (k := 1) (pc' := 49) (lv' := [(0, .ref 0), (1, .ref l1), (2, .int l2), (3, .int l3)]) (st' := [.ref 0, .int l2]) (by decide +kernel) rfl rfl ?_
        refine ab_fin.q_rA (b := 1935) (ix := 586) (ci := 24) (k := 44) (pc' := 52) (by decide +kernel) rfl (c_rA (F.s s0_0) rfl (rM_44 F)) rfl ?_
        refine ab_fin.s2 (i := .aload_n 0) (k := 1) (pc' := 53) (lv' := [(0, .ref 0), (1, .ref l1), (2, .int l2), (3, .int l3)]) (st' := [.ref 0, .ref 1935, .int l2]) (by decide +kernel) rfl rfl ?_
        refine ab_fin.q_rI (x := (σ.i 0 48)) (ix := 566) (ci := 24) (k := 48) (pc' := 56) (by decide +kernel) rfl (c_rI (F.s s0_0) rfl) rfl ?_
        obtain ⟨e13, w⟩ := w
        refine ab_fin.q_eI (x := (σ.i 1935 ((σ.i 0 48).toNatClampNeg))) (pc' := 57) (by decide +kernel) (c_eI' (F.s s0_1935) e13 rfl) rfl ?_
        refine ab_fin.br (c := ¬ (σ.i 1935 ((σ.i 0 48).toNatClampNeg)) = 0) (i := .ifCond .ne 7) (off := 7) (t := 64) (pc' := 60) (r := [.int l2]) (by decide +kernel) rfl (by decide +kernel) rfl (fun q => ?_) (fun q => ?_)
        · replace w := w.1 q
          refine ab_fin.s1i (i := .iconst 0) (k := 1) (pc' := 65) (n := 0) (by decide +kernel) rfl (by decide +kernel) rfl ?_
          refine ab_fin.q_yI (i := .invokestatic 589) (k := 3) (y := 5945) (As := [.int l2, .int 0]) (rest := []) (M' := (mX23_both, [])) (lv2 := [(0, .int l2), (1, .int 0)]) (pc' := 68) (X := K) (by decide +kernel) (ab_cs rfl rfl ⟨(Nat.le_of_ble_eq_true rfl), (Nat.le_of_ble_eq_true rfl)⟩ rfl) rfl (Nat.le_of_ble_eq_true rfl) rfl rfl (hY_no fun E => rfl) w (fun v16 τ14 F15 w => ?_)
          refine ab_fin.s2 (i := .istore_n 2) (k := 1) (pc' := 69) (lv' := [(2, .int v16), (0, .ref 0), (1, .ref l1), (3, .int l3)]) (st' := []) (by decide +kernel) rfl rfl ?_
          refine ab_fin.s2 (i := .aload_n 0) (k := 1) (pc' := 70) (lv' := [(2, .int v16), (0, .ref 0), (1, .ref l1), (3, .int l3)]) (st' := [.ref 0]) (by decide +kernel) rfl rfl ?_
          refine ab_fin.s1 (i := .dup) (k := 1) (pc' := 71) (st' := [.ref 0, .ref 0]) (by decide +kernel) rfl rfl ?_
          refine ab_fin.q_rI (x := (τ14.i 0 48)) (ix := 566) (ci := 24) (k := 48) (pc' := 74) (by decide +kernel) rfl (c_rI (F15.s s0_0) rfl) rfl ?_
          refine ab_fin.s1i (i := .iconst 1) (k := 1) (pc' := 75) (n := 1) (by decide +kernel) rfl (by decide +kernel) rfl ?_
          refine ab_fin.s1 (i := .iadd) (k := 1) (pc' := 76) (st' := [.int ((τ14.i 0 48) + (1 : Int32)), .ref 0]) (by decide +kernel) rfl rfl ?_
          refine ab_fin.q_pF (ix := 566) (ci := 24) (k := 48) (h1 := conc (τ14.wi 0 48 ((τ14.i 0 48) + (1 : Int32)))) (pc' := 79) (by decide +kernel) rfl (c_pI (v := ((τ14.i 0 48) + (1 : Int32))) (F15.s s0_0) rfl) rfl rfl rfl ?_
          refine ab_fin.q_inc (n := 3) (c := 1) (pc' := 82) (lv' := [(3, .int (l3 + 1)), (2, .int v16), (0, .ref 0), (1, .ref l1)]) (by decide +kernel) (by decide) rfl rfl rfl rfl ?_
          refine ab_fin.s3 (i := .goto (-78)) (k := 3) (t := 4) (st' := []) (by decide +kernel) (ab_gto (by decide +kernel)) ?_
          exact ab_fin.lv ⟨(List.forall_mem_cons.mpr ⟨(List.Mem.tail _ (List.Mem.tail _ (List.Mem.head _))), (List.forall_mem_cons.mpr ⟨(List.Mem.tail _ (List.Mem.tail _ (List.Mem.tail _ (List.Mem.head _)))), (List.forall_mem_cons.mpr ⟨(List.Mem.tail _ (List.Mem.head _)), (List.forall_mem_cons.mpr ⟨(List.Mem.head _), (fun _ h => absurd h List.not_mem_nil)⟩)⟩)⟩)⟩), (show ([3, 2, 0, 1] : List Nat).Nodup from by decide)⟩ w
        · replace w := w.2 (Decidable.of_not_not q)
          refine ab_fin.s1i (i := .iconst 1) (k := 1) (pc' := 61) (n := 1) (by decide +kernel) rfl (by decide +kernel) rfl ?_
          refine ab_fin.s3 (i := .goto 4) (k := 3) (t := 65) (st' := [.int 1, .int l2]) (by decide +kernel) (ab_gto (by decide +kernel)) ?_
          refine ab_fin.q_yI (i := .invokestatic 589) (k := 3) (y := 5945) (As := [.int l2, .int 1]) (rest := []) (M' := (mX23_both, [])) (lv2 := [(0, .int l2), (1, .int 1)]) (pc' := 68) (X := K) (by decide +kernel) (ab_cs rfl rfl ⟨(Nat.le_of_ble_eq_true rfl), (Nat.le_of_ble_eq_true rfl)⟩ rfl) rfl (Nat.le_of_ble_eq_true rfl) rfl rfl (hY_no fun E => rfl) w (fun v19 τ17 F18 w => ?_)
          refine ab_fin.s2 (i := .istore_n 2) (k := 1) (pc' := 69) (lv' := [(2, .int v19), (0, .ref 0), (1, .ref l1), (3, .int l3)]) (st' := []) (by decide +kernel) rfl rfl ?_
          refine ab_fin.s2 (i := .aload_n 0) (k := 1) (pc' := 70) (lv' := [(2, .int v19), (0, .ref 0), (1, .ref l1), (3, .int l3)]) (st' := [.ref 0]) (by decide +kernel) rfl rfl ?_
          refine ab_fin.s1 (i := .dup) (k := 1) (pc' := 71) (st' := [.ref 0, .ref 0]) (by decide +kernel) rfl rfl ?_
          refine ab_fin.q_rI (x := (τ17.i 0 48)) (ix := 566) (ci := 24) (k := 48) (pc' := 74) (by decide +kernel) rfl (c_rI (F18.s s0_0) rfl) rfl ?_
          refine ab_fin.s1i (i := .iconst 1) (k := 1) (pc' := 75) (n := 1) (by decide +kernel) rfl (by decide +kernel) rfl ?_
          refine ab_fin.s1 (i := .iadd) (k := 1) (pc' := 76) (st' := [.int ((τ17.i 0 48) + (1 : Int32)), .ref 0]) (by decide +kernel) rfl rfl ?_
          refine ab_fin.q_pF (ix := 566) (ci := 24) (k := 48) (h1 := conc (τ17.wi 0 48 ((τ17.i 0 48) + (1 : Int32)))) (pc' := 79) (by decide +kernel) rfl (c_pI (v := ((τ17.i 0 48) + (1 : Int32))) (F18.s s0_0) rfl) rfl rfl rfl ?_
          refine ab_fin.q_inc (n := 3) (c := 1) (pc' := 82) (lv' := [(3, .int (l3 + 1)), (2, .int v19), (0, .ref 0), (1, .ref l1)]) (by decide +kernel) (by decide) rfl rfl rfl rfl ?_
          refine ab_fin.s3 (i := .goto (-78)) (k := 3) (t := 4) (st' := []) (by decide +kernel) (ab_gto (by decide +kernel)) ?_
          exact ab_fin.lv ⟨(List.forall_mem_cons.mpr ⟨(List.Mem.tail _ (List.Mem.tail _ (List.Mem.head _))), (List.forall_mem_cons.mpr ⟨(List.Mem.tail _ (List.Mem.tail _ (List.Mem.tail _ (List.Mem.head _)))), (List.forall_mem_cons.mpr ⟨(List.Mem.tail _ (List.Mem.head _)), (List.forall_mem_cons.mpr ⟨(List.Mem.head _), (fun _ h => absurd h List.not_mem_nil)⟩)⟩)⟩)⟩), (show ([3, 2, 0, 1] : List Nat).Nodup from by decide)⟩ w
      · replace w := w.2 q
        refine ab_fin.s1i (i := .iconst 2) (k := 1) (pc' := 45) (n := 2) (by decide +kernel) rfl (by decide +kernel) rfl ?_
        refine ab_fin.s3 (i := .goto 20) (k := 3) (t := 65) (st' := [.int 2, .int l2]) (by decide +kernel) (ab_gto (by decide +kernel)) ?_
        refine ab_fin.q_yI (i := .invokestatic 589) (k := 3) (y := 5945) (As := [.int l2, .int 2]) (rest := []) (M' := (mX23_both, [])) (lv2 := [(0, .int l2), (1, .int 2)]) (pc' := 68) (X := K) (by decide +kernel) (ab_cs rfl rfl ⟨(Nat.le_of_ble_eq_true rfl), (Nat.le_of_ble_eq_true rfl)⟩ rfl) rfl (Nat.le_of_ble_eq_true rfl) rfl rfl (hY_no fun E => rfl) w (fun v22 τ20 F21 w => ?_)
        refine ab_fin.s2 (i := .istore_n 2) (k := 1) (pc' := 69) (lv' := [(2, .int v22), (0, .ref 0), (1, .ref l1), (3, .int l3)]) (st' := []) (by decide +kernel) rfl rfl ?_
        refine ab_fin.s2 (i := .aload_n 0) (k := 1) (pc' := 70) (lv' := [(2, .int v22), (0, .ref 0), (1, .ref l1), (3, .int l3)]) (st' := [.ref 0]) (by decide +kernel) rfl rfl ?_
        refine ab_fin.s1 (i := .dup) (k := 1) (pc' := 71) (st' := [.ref 0, .ref 0]) (by decide +kernel) rfl rfl ?_
        refine ab_fin.q_rI (x := (τ20.i 0 48)) (ix := 566) (ci := 24) (k := 48) (pc' := 74) (by decide +kernel) rfl (c_rI (F21.s s0_0) rfl) rfl ?_
        refine ab_fin.s1i (i := .iconst 1) (k := 1) (pc' := 75) (n := 1) (by decide +kernel) rfl (by decide +kernel) rfl ?_
        refine ab_fin.s1 (i := .iadd) (k := 1) (pc' := 76) (st' := [.int ((τ20.i 0 48) + (1 : Int32)), .ref 0]) (by decide +kernel) rfl rfl ?_
        refine ab_fin.q_pF (ix := 566) (ci := 24) (k := 48) (h1 := conc (τ20.wi 0 48 ((τ20.i 0 48) + (1 : Int32)))) (pc' := 79) (by decide +kernel) rfl (c_pI (v := ((τ20.i 0 48) + (1 : Int32))) (F21.s s0_0) rfl) rfl rfl rfl ?_
        refine ab_fin.q_inc (n := 3) (c := 1) (pc' := 82) (lv' := [(3, .int (l3 + 1)), (2, .int v22), (0, .ref 0), (1, .ref l1)]) (by decide +kernel) (by decide) rfl rfl rfl rfl ?_
        refine ab_fin.s3 (i := .goto (-78)) (k := 3) (t := 4) (st' := []) (by decide +kernel) (ab_gto (by decide +kernel)) ?_
        exact ab_fin.lv ⟨(List.forall_mem_cons.mpr ⟨(List.Mem.tail _ (List.Mem.tail _ (List.Mem.head _))), (List.forall_mem_cons.mpr ⟨(List.Mem.tail _ (List.Mem.tail _ (List.Mem.tail _ (List.Mem.head _)))), (List.forall_mem_cons.mpr ⟨(List.Mem.tail _ (List.Mem.head _)), (List.forall_mem_cons.mpr ⟨(List.Mem.head _), (fun _ h => absurd h List.not_mem_nil)⟩)⟩)⟩)⟩), (show ([3, 2, 0, 1] : List Nat).Nodup from by decide)⟩ w
    · replace w := w.2 (Decidable.of_not_not q)
      refine ab_fin.s3 (i := .goto 50) (k := 3) (t := 79) (st' := []) (by decide +kernel) (ab_gto (by decide +kernel)) ?_
      refine ab_fin.q_inc (n := 3) (c := 1) (pc' := 82) (lv' := [(3, .int (l3 + 1)), (0, .ref 0), (1, .ref l1), (2, .int l2)]) (by decide +kernel) (by decide) rfl rfl rfl rfl ?_
      refine ab_fin.s3 (i := .goto (-78)) (k := 3) (t := 4) (st' := []) (by decide +kernel) (ab_gto (by decide +kernel)) ?_
      exact ab_fin.lv ⟨(List.forall_mem_cons.mpr ⟨(List.Mem.tail _ (List.Mem.head _)), (List.forall_mem_cons.mpr ⟨(List.Mem.tail _ (List.Mem.tail _ (List.Mem.head _))), (List.forall_mem_cons.mpr ⟨(List.Mem.tail _ (List.Mem.tail _ (List.Mem.tail _ (List.Mem.head _)))), (List.forall_mem_cons.mpr ⟨(List.Mem.head _), (fun _ h => absurd h List.not_mem_nil)⟩)⟩)⟩)⟩), (show ([3, 0, 1, 2] : List Nat).Nodup from by decide)⟩ w
theorem S_X23_holds_0 {Z : zT} {d : Nat} {σ : Sg} {l1 : Rf} {K : kS} (F : FX ΦR σ.sh σ.r) (w : ∃ b1, l1 = Rf.ptr b1 ∧ (σ.sh[b1]? = some (Sh.obj 21) ∧ (((σ.i b1 0) = 9 → ∃ b4, (σ.r 0 51) = Rf.ptr b4 ∧ (∃ n7, σ.sh[b4]? = some (Sh.arr 0 n7) ∧ (ib (σ.i b1 2) n7 ∧ (ib (σ.i b4 ((σ.i b1 2).toNatClampNeg)) 24 ∧ (ib (σ.i b1 1) 24 ∧ (((σ.i (1880 + 1 + ((σ.i b4 ((σ.i b1 2).toNatClampNeg)).toNatClampNeg)) ((σ.i b1 1).toNatClampNeg)) = 0 → K (.inl (some (.int 0))) σ) ∧ (¬ (σ.i (1880 + 1 + ((σ.i b4 ((σ.i b1 2).toNatClampNeg)).toNatClampNeg)) ((σ.i b1 1).toNatClampNeg)) = 0 → K (.inl (some (.int 1))) σ))))))) ∧ ((σ.i b1 0) = 20 → B_X23_holds_0 Z d σ (σ.r b1 5) (yI K fun v13 τ11 => τ11.sh[b1]? = some (Sh.obj 21) ∧ (B_X23_holds_0 Z d τ11 (τ11.r b1 6) (yI K fun v17 τ15 => B_X23_not_0 Z d τ15 v13 (yI K fun v20 τ18 => B_X23_not_0 Z d τ18 v17 (yI K fun v23 τ21 => B_X23_both_0 Z d τ21 v20 v23 (yI K fun v26 τ24 => B_X23_not_0 Z d τ24 v26 (yI K fun v29 τ27 => K (.inl (some (.int v29))) τ27)))))))) ∧ ((σ.i b1 0) = 21 → B_X23_holds_0 Z d σ (σ.r b1 5) (yI K fun v32 τ30 => τ30.sh[b1]? = some (Sh.obj 21) ∧ (B_X23_holds_0 Z d τ30 (τ30.r b1 6) (yI K fun v36 τ34 => B_X23_both_0 Z d τ34 v32 v36 (yI K fun v39 τ37 => K (.inl (some (.int v39))) τ37))))) ∧ ((σ.i b1 0) = 22 → B_X23_holds_0 Z d σ (σ.r b1 5) (yI K fun v42 τ40 => B_X23_not_0 Z d τ40 v42 (yI K fun v45 τ43 => K (.inl (some (.int v45))) τ43))) ∧ (¬ (σ.i b1 0) = 9 → ¬ (σ.i b1 0) = 20 → ¬ (σ.i b1 0) = 21 → ¬ (σ.i b1 0) = 22 → ((σ.i 0 48) < (σ.i 0 53) → ib (σ.i 0 48) 128 ∧ ((¬ ((σ.wi 0 48 ((σ.i 0 48) + (1 : Int32))).i b1 3) = 317 → (¬ ((σ.wi 0 48 ((σ.i 0 48) + (1 : Int32))).i b1 3) = 316 → (0 ≤ (σ.i 1935 ((σ.i 0 48).toNatClampNeg)) → K (.inl (some (.int 0))) (σ.wi 0 48 ((σ.i 0 48) + (1 : Int32)))) ∧ (¬ 0 ≤ (σ.i 1935 ((σ.i 0 48).toNatClampNeg)) → K (.inl (some (.int 1))) (σ.wi 0 48 ((σ.i 0 48) + (1 : Int32))))) ∧ (((σ.wi 0 48 ((σ.i 0 48) + (1 : Int32))).i b1 3) = 316 → (0 < (σ.i 1935 ((σ.i 0 48).toNatClampNeg)) → K (.inl (some (.int 0))) (σ.wi 0 48 ((σ.i 0 48) + (1 : Int32)))) ∧ (¬ 0 < (σ.i 1935 ((σ.i 0 48).toNatClampNeg)) → K (.inl (some (.int 1))) (σ.wi 0 48 ((σ.i 0 48) + (1 : Int32)))))) ∧ (((σ.wi 0 48 ((σ.i 0 48) + (1 : Int32))).i b1 3) = 317 → (¬ (σ.i 1935 ((σ.i 0 48).toNatClampNeg)) = 0 → K (.inl (some (.int 0))) (σ.wi 0 48 ((σ.i 0 48) + (1 : Int32)))) ∧ ((σ.i 1935 ((σ.i 0 48).toNatClampNeg)) = 0 → K (.inl (some (.int 1))) (σ.wi 0 48 ((σ.i 0 48) + (1 : Int32))))))) ∧ (¬ (σ.i 0 48) < (σ.i 0 53) → K (.inl (some (.int 2))) (σ.wi 0 48 ((σ.i 0 48) + (1 : Int32)))))))) : B_X23_holds_0 Z (d + 1) σ l1 K := by
  unfold B_X23_holds_0
  refine ab_fin.ald (i := .aload_n 1) (n := 1) (k := 1) (pc' := 1) (Or.inl ⟨_, rfl, rfl, rfl⟩) (by decide +kernel) rfl (oR_rv _) rfl ?_
  obtain ⟨b1, e2, w⟩ := w
  rw [show rv l1 = .ref b1 from by rw [e2]; rfl]
  obtain ⟨e3, w⟩ := w
  refine ab_fin.q_rI (x := (σ.i b1 0)) (ix := 432) (ci := 21) (k := 0) (pc' := 4) (by decide +kernel) rfl (c_rI e3 rfl) rfl ?_
  by_cases q0 : (σ.i b1 0) = 9
  · refine ab_fin.s3 (i := .lookupswitch 141 #[(9, 113), (20, 44), (21, 77), (22, 101)]) (k := 44) (t := 117) (st' := []) (by decide +kernel) (by rw [q0]; exact ab_lsw (by decide +kernel) (by decide +kernel)) ?_
    replace w := w.1 q0
    refine ab_fin.s2 (i := .aload_n 0) (k := 1) (pc' := 118) (lv' := [(0, .ref 0), (1, .ref b1)]) (st' := [.ref 0]) (by decide +kernel) rfl rfl ?_
    refine ab_fin.q_rA (b := 1880) (ix := 490) (ci := 24) (k := 36) (pc' := 121) (by decide +kernel) rfl (c_rA (F.s s0_0) rfl (rM_36 F)) rfl ?_
    refine ab_fin.s2 (i := .aload_n 0) (k := 1) (pc' := 122) (lv' := [(0, .ref 0), (1, .ref b1)]) (st' := [.ref 0, .ref 1880]) (by decide +kernel) rfl rfl ?_
    obtain ⟨b4, e5, w⟩ := w
    refine ab_fin.q_rA (b := b4) (ix := 543) (ci := 24) (k := 51) (pc' := 125) (by decide +kernel) rfl (c_rA (F.s s0_0) rfl e5) rfl ?_
    refine ab_fin.s2 (i := .aload_n 1) (k := 1) (pc' := 126) (lv' := [(0, .ref 0), (1, .ref b1)]) (st' := [.ref b1, .ref b4, .ref 1880]) (by decide +kernel) rfl rfl ?_
    refine ab_fin.q_rI (x := (σ.i b1 2)) (ix := 435) (ci := 21) (k := 2) (pc' := 129) (by decide +kernel) rfl (c_rI e3 rfl) rfl ?_
    obtain ⟨n7, e6, w⟩ := w
    obtain ⟨e8, w⟩ := w
    refine ab_fin.q_eI (x := (σ.i b4 ((σ.i b1 2).toNatClampNeg))) (pc' := 130) (by decide +kernel) (c_eI' e6 e8 rfl) rfl ?_
    obtain ⟨e9, w⟩ := w
    refine ab_fin.q_eA (b := (1880 + 1 + ((σ.i b4 ((σ.i b1 2).toNatClampNeg)).toNatClampNeg))) (pc' := 131) (by decide +kernel) (c_eA' (F.s s0_1880) (by decide) rfl e9 rfl (rE_12 F s0_1880)) rfl ?_
    refine ab_fin.s2 (i := .aload_n 1) (k := 1) (pc' := 132) (lv' := [(0, .ref 0), (1, .ref b1)]) (st' := [.ref b1, .ref (1880 + 1 + ((σ.i b4 ((σ.i b1 2).toNatClampNeg)).toNatClampNeg))]) (by decide +kernel) rfl rfl ?_
    refine ab_fin.q_rI (x := (σ.i b1 1)) (ix := 438) (ci := 21) (k := 1) (pc' := 135) (by decide +kernel) rfl (c_rI e3 rfl) rfl ?_
    obtain ⟨e10, w⟩ := w
    refine ab_fin.q_eB (x := (σ.i (1880 + 1 + ((σ.i b4 ((σ.i b1 2).toNatClampNeg)).toNatClampNeg)) ((σ.i b1 1).toNatClampNeg))) (pc' := 136) (by decide +kernel) (c_eB3' (F.s (kE_1880 e9.2)) e10 rfl) rfl ?_
    refine ab_fin.br (c := (σ.i (1880 + 1 + ((σ.i b4 ((σ.i b1 2).toNatClampNeg)).toNatClampNeg)) ((σ.i b1 1).toNatClampNeg)) = 0) (i := .ifCond .eq 7) (off := 7) (t := 143) (pc' := 139) (r := []) (by decide +kernel) rfl (by decide +kernel) rfl (fun q => ?_) (fun q => ?_)
    · replace w := w.1 q
      refine ab_fin.s1i (i := .iconst 0) (k := 1) (pc' := 144) (n := 0) (by decide +kernel) rfl (by decide +kernel) rfl ?_
      exact ab_fin.q_ret (i := .ireturn) (k := 1) (v := some (.int 0)) (by decide +kernel) rfl F w
    · replace w := w.2 q
      refine ab_fin.s1i (i := .iconst 1) (k := 1) (pc' := 140) (n := 1) (by decide +kernel) rfl (by decide +kernel) rfl ?_
      refine ab_fin.s3 (i := .goto 4) (k := 3) (t := 144) (st' := [.int 1]) (by decide +kernel) (ab_gto (by decide +kernel)) ?_
      exact ab_fin.q_ret (i := .ireturn) (k := 1) (v := some (.int 1)) (by decide +kernel) rfl F w
  by_cases q1 : (σ.i b1 0) = 20
  · refine ab_fin.s3 (i := .lookupswitch 141 #[(9, 113), (20, 44), (21, 77), (22, 101)]) (k := 44) (t := 48) (st' := []) (by decide +kernel) (by rw [q1]; exact ab_lsw (by decide +kernel) (by decide +kernel)) ?_
    replace w := w.2.1 q1
    refine ab_fin.s2 (i := .aload_n 0) (k := 1) (pc' := 49) (lv' := [(0, .ref 0), (1, .ref b1)]) (st' := [.ref 0]) (by decide +kernel) rfl rfl ?_
    refine ab_fin.s2 (i := .aload_n 1) (k := 1) (pc' := 50) (lv' := [(0, .ref 0), (1, .ref b1)]) (st' := [.ref b1, .ref 0]) (by decide +kernel) rfl rfl ?_
    refine ab_fin.q_rV (v := rv (σ.r b1 5)) (ix := 409) (ci := 21) (k := 5) (pc' := 53) (by decide +kernel) rfl (c_rV e3 rfl) rfl ?_
    refine ab_fin.q_yI (i := .invokevirtual 592) (k := 3) (y := 5948) (As := [.ref 0, rv (σ.r b1 5)]) (rest := []) (M' := (mX23_holds, [])) (lv2 := [(0, .ref 0), (1, rv (σ.r b1 5))]) (pc' := 56) (X := K) (by decide +kernel) (ab_cv rfl rfl (conc_get (σ := σ) (F.s s0_0)) ⟨(Nat.le_of_ble_eq_true rfl), (Nat.le_of_ble_eq_true rfl)⟩ rfl) rfl (by rw [lg_cnt]; simp only [List.map_cons, List.map_nil, cI, cL, cR1, cN1, cX1, cA (oR_rv _)]; exact Nat.le_of_ble_eq_true rfl) (by rw [lvA (v := .ref 0) rfl, lvA (oR_rv _), lvN]) rfl (hY_no fun E => rfl) w (fun v13 τ11 F12 w => ?_)
    refine ab_fin.s2 (i := .istore_n 2) (k := 1) (pc' := 57) (lv' := [(2, .int v13), (0, .ref 0), (1, .ref b1)]) (st' := []) (by decide +kernel) rfl rfl ?_
    refine ab_fin.s2 (i := .aload_n 0) (k := 1) (pc' := 58) (lv' := [(2, .int v13), (0, .ref 0), (1, .ref b1)]) (st' := [.ref 0]) (by decide +kernel) rfl rfl ?_
    refine ab_fin.s2 (i := .aload_n 1) (k := 1) (pc' := 59) (lv' := [(2, .int v13), (0, .ref 0), (1, .ref b1)]) (st' := [.ref b1, .ref 0]) (by decide +kernel) rfl rfl ?_
    obtain ⟨e14, w⟩ := w
    refine ab_fin.q_rV (v := rv (τ11.r b1 6)) (ix := 414) (ci := 21) (k := 6) (pc' := 62) (by decide +kernel) rfl (c_rV e14 rfl) rfl ?_
    refine ab_fin.q_yI (i := .invokevirtual 592) (k := 3) (y := 5948) (As := [.ref 0, rv (τ11.r b1 6)]) (rest := []) (M' := (mX23_holds, [])) (lv2 := [(0, .ref 0), (1, rv (τ11.r b1 6))]) (pc' := 65) (X := K) (by decide +kernel) (ab_cv rfl rfl (conc_get (σ := τ11) (F12.s s0_0)) ⟨(Nat.le_of_ble_eq_true rfl), (Nat.le_of_ble_eq_true rfl)⟩ rfl) rfl (by rw [lg_cnt]; simp only [List.map_cons, List.map_nil, cI, cL, cR1, cN1, cX1, cA (oR_rv _)]; exact Nat.le_of_ble_eq_true rfl) (by rw [lvA (v := .ref 0) rfl, lvA (oR_rv _), lvN]) rfl (hY_no fun E => rfl) w (fun v17 τ15 F16 w => ?_)
    refine ab_fin.s2 (i := .istore_n 3) (k := 1) (pc' := 66) (lv' := [(3, .int v17), (2, .int v13), (0, .ref 0), (1, .ref b1)]) (st' := []) (by decide +kernel) rfl rfl ?_
    refine ab_fin.s2 (i := .iload_n 2) (k := 1) (pc' := 67) (lv' := [(3, .int v17), (2, .int v13), (0, .ref 0), (1, .ref b1)]) (st' := [.int v13]) (by decide +kernel) rfl rfl ?_
    refine ab_fin.q_yI (i := .invokestatic 596) (k := 3) (y := 5946) (As := [.int v13]) (rest := []) (M' := (mX23_not, [])) (lv2 := [(0, .int v13)]) (pc' := 70) (X := K) (by decide +kernel) (ab_cs rfl rfl ⟨(Nat.le_of_ble_eq_true rfl), (Nat.le_of_ble_eq_true rfl)⟩ rfl) rfl (Nat.le_of_ble_eq_true rfl) rfl rfl (hY_no fun E => rfl) w (fun v20 τ18 F19 w => ?_)
    refine ab_fin.s2 (i := .iload_n 3) (k := 1) (pc' := 71) (lv' := [(3, .int v17), (2, .int v13), (0, .ref 0), (1, .ref b1)]) (st' := [.int v17, .int v20]) (by decide +kernel) rfl rfl ?_
    refine ab_fin.q_yI (i := .invokestatic 596) (k := 3) (y := 5946) (As := [.int v17]) (rest := [.int v20]) (M' := (mX23_not, [])) (lv2 := [(0, .int v17)]) (pc' := 74) (X := K) (by decide +kernel) (ab_cs rfl rfl ⟨(Nat.le_of_ble_eq_true rfl), (Nat.le_of_ble_eq_true rfl)⟩ rfl) rfl (Nat.le_of_ble_eq_true rfl) rfl rfl (hY_no fun E => rfl) w (fun v23 τ21 F22 w => ?_)
    refine ab_fin.q_yI (i := .invokestatic 589) (k := 3) (y := 5945) (As := [.int v20, .int v23]) (rest := []) (M' := (mX23_both, [])) (lv2 := [(0, .int v20), (1, .int v23)]) (pc' := 77) (X := K) (by decide +kernel) (ab_cs rfl rfl ⟨(Nat.le_of_ble_eq_true rfl), (Nat.le_of_ble_eq_true rfl)⟩ rfl) rfl (Nat.le_of_ble_eq_true rfl) rfl rfl (hY_no fun E => rfl) w (fun v26 τ24 F25 w => ?_)
    refine ab_fin.q_yI (i := .invokestatic 596) (k := 3) (y := 5946) (As := [.int v26]) (rest := []) (M' := (mX23_not, [])) (lv2 := [(0, .int v26)]) (pc' := 80) (X := K) (by decide +kernel) (ab_cs rfl rfl ⟨(Nat.le_of_ble_eq_true rfl), (Nat.le_of_ble_eq_true rfl)⟩ rfl) rfl (Nat.le_of_ble_eq_true rfl) rfl rfl (hY_no fun E => rfl) w (fun v29 τ27 F28 w => ?_)
    exact ab_fin.q_ret (i := .ireturn) (k := 1) (v := some (.int v29)) (by decide +kernel) rfl F28 w
  by_cases q2 : (σ.i b1 0) = 21
  · refine ab_fin.s3 (i := .lookupswitch 141 #[(9, 113), (20, 44), (21, 77), (22, 101)]) (k := 44) (t := 81) (st' := []) (by decide +kernel) (by rw [q2]; exact ab_lsw (by decide +kernel) (by decide +kernel)) ?_
    replace w := w.2.2.1 q2
    refine ab_fin.s2 (i := .aload_n 0) (k := 1) (pc' := 82) (lv' := [(0, .ref 0), (1, .ref b1)]) (st' := [.ref 0]) (by decide +kernel) rfl rfl ?_
    refine ab_fin.s2 (i := .aload_n 1) (k := 1) (pc' := 83) (lv' := [(0, .ref 0), (1, .ref b1)]) (st' := [.ref b1, .ref 0]) (by decide +kernel) rfl rfl ?_
    refine ab_fin.q_rV (v := rv (σ.r b1 5)) (ix := 409) (ci := 21) (k := 5) (pc' := 86) (by decide +kernel) rfl (c_rV e3 rfl) rfl ?_
    refine ab_fin.q_yI (i := .invokevirtual 592) (k := 3) (y := 5948) (As := [.ref 0, rv (σ.r b1 5)]) (rest := []) (M' := (mX23_holds, [])) (lv2 := [(0, .ref 0), (1, rv (σ.r b1 5))]) (pc' := 89) (X := K) (by decide +kernel) (ab_cv rfl rfl (conc_get (σ := σ) (F.s s0_0)) ⟨(Nat.le_of_ble_eq_true rfl), (Nat.le_of_ble_eq_true rfl)⟩ rfl) rfl (by rw [lg_cnt]; simp only [List.map_cons, List.map_nil, cI, cL, cR1, cN1, cX1, cA (oR_rv _)]; exact Nat.le_of_ble_eq_true rfl) (by rw [lvA (v := .ref 0) rfl, lvA (oR_rv _), lvN]) rfl (hY_no fun E => rfl) w (fun v32 τ30 F31 w => ?_)
    refine ab_fin.s2 (i := .istore_n 2) (k := 1) (pc' := 90) (lv' := [(2, .int v32), (0, .ref 0), (1, .ref b1)]) (st' := []) (by decide +kernel) rfl rfl ?_
    refine ab_fin.s2 (i := .aload_n 0) (k := 1) (pc' := 91) (lv' := [(2, .int v32), (0, .ref 0), (1, .ref b1)]) (st' := [.ref 0]) (by decide +kernel) rfl rfl ?_
    refine ab_fin.s2 (i := .aload_n 1) (k := 1) (pc' := 92) (lv' := [(2, .int v32), (0, .ref 0), (1, .ref b1)]) (st' := [.ref b1, .ref 0]) (by decide +kernel) rfl rfl ?_
    obtain ⟨e33, w⟩ := w
    refine ab_fin.q_rV (v := rv (τ30.r b1 6)) (ix := 414) (ci := 21) (k := 6) (pc' := 95) (by decide +kernel) rfl (c_rV e33 rfl) rfl ?_
    refine ab_fin.q_yI (i := .invokevirtual 592) (k := 3) (y := 5948) (As := [.ref 0, rv (τ30.r b1 6)]) (rest := []) (M' := (mX23_holds, [])) (lv2 := [(0, .ref 0), (1, rv (τ30.r b1 6))]) (pc' := 98) (X := K) (by decide +kernel) (ab_cv rfl rfl (conc_get (σ := τ30) (F31.s s0_0)) ⟨(Nat.le_of_ble_eq_true rfl), (Nat.le_of_ble_eq_true rfl)⟩ rfl) rfl (by rw [lg_cnt]; simp only [List.map_cons, List.map_nil, cI, cL, cR1, cN1, cX1, cA (oR_rv _)]; exact Nat.le_of_ble_eq_true rfl) (by rw [lvA (v := .ref 0) rfl, lvA (oR_rv _), lvN]) rfl (hY_no fun E => rfl) w (fun v36 τ34 F35 w => ?_)
    refine ab_fin.s2 (i := .istore_n 3) (k := 1) (pc' := 99) (lv' := [(3, .int v36), (2, .int v32), (0, .ref 0), (1, .ref b1)]) (st' := []) (by decide +kernel) rfl rfl ?_
    refine ab_fin.s2 (i := .iload_n 2) (k := 1) (pc' := 100) (lv' := [(3, .int v36), (2, .int v32), (0, .ref 0), (1, .ref b1)]) (st' := [.int v32]) (by decide +kernel) rfl rfl ?_
    refine ab_fin.s2 (i := .iload_n 3) (k := 1) (pc' := 101) (lv' := [(3, .int v36), (2, .int v32), (0, .ref 0), (1, .ref b1)]) (st' := [.int v36, .int v32]) (by decide +kernel) rfl rfl ?_
    refine ab_fin.q_yI (i := .invokestatic 589) (k := 3) (y := 5945) (As := [.int v32, .int v36]) (rest := []) (M' := (mX23_both, [])) (lv2 := [(0, .int v32), (1, .int v36)]) (pc' := 104) (X := K) (by decide +kernel) (ab_cs rfl rfl ⟨(Nat.le_of_ble_eq_true rfl), (Nat.le_of_ble_eq_true rfl)⟩ rfl) rfl (Nat.le_of_ble_eq_true rfl) rfl rfl (hY_no fun E => rfl) w (fun v39 τ37 F38 w => ?_)
    exact ab_fin.q_ret (i := .ireturn) (k := 1) (v := some (.int v39)) (by decide +kernel) rfl F38 w
  by_cases q3 : (σ.i b1 0) = 22
  · refine ab_fin.s3 (i := .lookupswitch 141 #[(9, 113), (20, 44), (21, 77), (22, 101)]) (k := 44) (t := 105) (st' := []) (by decide +kernel) (by rw [q3]; exact ab_lsw (by decide +kernel) (by decide +kernel)) ?_
    replace w := w.2.2.2.1 q3
    refine ab_fin.s2 (i := .aload_n 0) (k := 1) (pc' := 106) (lv' := [(0, .ref 0), (1, .ref b1)]) (st' := [.ref 0]) (by decide +kernel) rfl rfl ?_
    refine ab_fin.s2 (i := .aload_n 1) (k := 1) (pc' := 107) (lv' := [(0, .ref 0), (1, .ref b1)]) (st' := [.ref b1, .ref 0]) (by decide +kernel) rfl rfl ?_
    refine ab_fin.q_rV (v := rv (σ.r b1 5)) (ix := 409) (ci := 21) (k := 5) (pc' := 110) (by decide +kernel) rfl (c_rV e3 rfl) rfl ?_
    refine ab_fin.q_yI (i := .invokevirtual 592) (k := 3) (y := 5948) (As := [.ref 0, rv (σ.r b1 5)]) (rest := []) (M' := (mX23_holds, [])) (lv2 := [(0, .ref 0), (1, rv (σ.r b1 5))]) (pc' := 113) (X := K) (by decide +kernel) (ab_cv rfl rfl (conc_get (σ := σ) (F.s s0_0)) ⟨(Nat.le_of_ble_eq_true rfl), (Nat.le_of_ble_eq_true rfl)⟩ rfl) rfl (by rw [lg_cnt]; simp only [List.map_cons, List.map_nil, cI, cL, cR1, cN1, cX1, cA (oR_rv _)]; exact Nat.le_of_ble_eq_true rfl) (by rw [lvA (v := .ref 0) rfl, lvA (oR_rv _), lvN]) rfl (hY_no fun E => rfl) w (fun v42 τ40 F41 w => ?_)
    refine ab_fin.q_yI (i := .invokestatic 596) (k := 3) (y := 5946) (As := [.int v42]) (rest := []) (M' := (mX23_not, [])) (lv2 := [(0, .int v42)]) (pc' := 116) (X := K) (by decide +kernel) (ab_cs rfl rfl ⟨(Nat.le_of_ble_eq_true rfl), (Nat.le_of_ble_eq_true rfl)⟩ rfl) rfl (Nat.le_of_ble_eq_true rfl) rfl rfl (hY_no fun E => rfl) w (fun v45 τ43 F44 w => ?_)
    exact ab_fin.q_ret (i := .ireturn) (k := 1) (v := some (.int v45)) (by decide +kernel) rfl F44 w
  refine ab_fin.s3 (i := .lookupswitch 141 #[(9, 113), (20, 44), (21, 77), (22, 101)]) (k := 44) (t := 145) (st' := []) (by decide +kernel) (ab_lsw (by decide +kernel) (by rw [lsw_df (by intro p hp; simp only [List.mem_cons, List.not_mem_nil, or_false] at hp; rcases hp with rfl | rfl | rfl | rfl <;> intro z <;> first | exact q0 (Int32.toInt_inj.mp (z.symm.trans (rfl : (9 : Int) = Int32.toInt 9))) | exact q1 (Int32.toInt_inj.mp (z.symm.trans (rfl : (20 : Int) = Int32.toInt 20))) | exact q2 (Int32.toInt_inj.mp (z.symm.trans (rfl : (21 : Int) = Int32.toInt 21))) | exact q3 (Int32.toInt_inj.mp (z.symm.trans (rfl : (22 : Int) = Int32.toInt 22))))]; decide +kernel)) ?_
  replace w := w.2.2.2.2 q0 q1 q2 q3
  refine ab_fin.s2 (i := .aload_n 0) (k := 1) (pc' := 146) (lv' := [(0, .ref 0), (1, .ref b1)]) (st' := [.ref 0]) (by decide +kernel) rfl rfl ?_
  refine ab_fin.q_rI (x := (σ.i 0 48)) (ix := 566) (ci := 24) (k := 48) (pc' := 149) (by decide +kernel) rfl (c_rI (F.s s0_0) rfl) rfl ?_
  refine ab_fin.s2 (i := .istore_n 2) (k := 1) (pc' := 150) (lv' := [(2, .int (σ.i 0 48)), (0, .ref 0), (1, .ref b1)]) (st' := []) (by decide +kernel) rfl rfl ?_
  refine ab_fin.s2 (i := .aload_n 0) (k := 1) (pc' := 151) (lv' := [(2, .int (σ.i 0 48)), (0, .ref 0), (1, .ref b1)]) (st' := [.ref 0]) (by decide +kernel) rfl rfl ?_
  refine ab_fin.s1 (i := .dup) (k := 1) (pc' := 152) (st' := [.ref 0, .ref 0]) (by decide +kernel) rfl rfl ?_
  refine ab_fin.q_rI (x := (σ.i 0 48)) (ix := 566) (ci := 24) (k := 48) (pc' := 155) (by decide +kernel) rfl (c_rI (F.s s0_0) rfl) rfl ?_
  refine ab_fin.s1i (i := .iconst 1) (k := 1) (pc' := 156) (n := 1) (by decide +kernel) rfl (by decide +kernel) rfl ?_
  refine ab_fin.s1 (i := .iadd) (k := 1) (pc' := 157) (st' := [.int ((σ.i 0 48) + (1 : Int32)), .ref 0]) (by decide +kernel) rfl rfl ?_
  refine ab_fin.q_pF (ix := 566) (ci := 24) (k := 48) (h1 := conc (σ.wi 0 48 ((σ.i 0 48) + (1 : Int32)))) (pc' := 160) (by decide +kernel) rfl (c_pI (v := ((σ.i 0 48) + (1 : Int32))) (F.s s0_0) rfl) rfl rfl rfl ?_
  refine ab_fin.s2 (i := .iload_n 2) (k := 1) (pc' := 161) (lv' := [(2, .int (σ.i 0 48)), (0, .ref 0), (1, .ref b1)]) (st' := [.int (σ.i 0 48)]) (by decide +kernel) rfl rfl ?_
  refine ab_fin.s2 (i := .aload_n 0) (k := 1) (pc' := 162) (lv' := [(2, .int (σ.i 0 48)), (0, .ref 0), (1, .ref b1)]) (st' := [.ref 0, .int (σ.i 0 48)]) (by decide +kernel) rfl rfl ?_
  refine ab_fin.q_rI (x := (σ.i 0 53)) (ix := 569) (ci := 24) (k := 53) (pc' := 165) (by decide +kernel) rfl (c_rI (F.s s0_0) rfl) rfl ?_
  refine ab_fin.br (c := (σ.i 0 48) < (σ.i 0 53)) (i := .if_icmp .lt 5) (off := 5) (t := 170) (pc' := 168) (r := []) (by decide +kernel) rfl (by decide +kernel) rfl (fun q => ?_) (fun q => ?_)
  · replace w := w.1 q
    refine ab_fin.s2 (i := .aload_n 0) (k := 1) (pc' := 171) (lv' := [(2, .int (σ.i 0 48)), (0, .ref 0), (1, .ref b1)]) (st' := [.ref 0]) (by decide +kernel) rfl rfl ?_
    refine ab_fin.q_rA (b := 1935) (ix := 586) (ci := 24) (k := 44) (pc' := 174) (by decide +kernel) rfl (c_rA (F.s s0_0) rfl (rM_44 F)) rfl ?_
    refine ab_fin.s2 (i := .iload_n 2) (k := 1) (pc' := 175) (lv' := [(2, .int (σ.i 0 48)), (0, .ref 0), (1, .ref b1)]) (st' := [.int (σ.i 0 48), .ref 1935]) (by decide +kernel) rfl rfl ?_
    obtain ⟨e46, w⟩ := w
    refine ab_fin.q_eI (x := (σ.i 1935 ((σ.i 0 48).toNatClampNeg))) (pc' := 176) (by decide +kernel) (c_eI' (F.s s0_1935) e46 rfl) rfl ?_
    refine ab_fin.s2 (i := .istore_n 3) (k := 1) (pc' := 177) (lv' := [(3, .int (σ.i 1935 ((σ.i 0 48).toNatClampNeg))), (2, .int (σ.i 0 48)), (0, .ref 0), (1, .ref b1)]) (st' := []) (by decide +kernel) rfl rfl ?_
    refine ab_fin.s2 (i := .aload_n 1) (k := 1) (pc' := 178) (lv' := [(3, .int (σ.i 1935 ((σ.i 0 48).toNatClampNeg))), (2, .int (σ.i 0 48)), (0, .ref 0), (1, .ref b1)]) (st' := [.ref b1]) (by decide +kernel) rfl rfl ?_
    refine ab_fin.q_rI (x := ((σ.wi 0 48 ((σ.i 0 48) + (1 : Int32))).i b1 3)) (ix := 449) (ci := 21) (k := 3) (pc' := 181) (by decide +kernel) rfl (c_rI e3 rfl) rfl ?_
    refine ab_fin.s1i (i := .sipush 317) (k := 3) (pc' := 184) (n := 317) (by decide +kernel) rfl (by decide +kernel) rfl ?_
    refine ab_fin.br (c := ¬ ((σ.wi 0 48 ((σ.i 0 48) + (1 : Int32))).i b1 3) = 317) (i := .if_icmp .ne 10) (off := 10) (t := 194) (pc' := 187) (r := []) (by decide +kernel) rfl (by decide +kernel) rfl (fun q => ?_) (fun q => ?_)
    · replace w := w.1 q
      refine ab_fin.s2 (i := .aload_n 1) (k := 1) (pc' := 195) (lv' := [(3, .int (σ.i 1935 ((σ.i 0 48).toNatClampNeg))), (2, .int (σ.i 0 48)), (0, .ref 0), (1, .ref b1)]) (st' := [.ref b1]) (by decide +kernel) rfl rfl ?_
      refine ab_fin.q_rI (x := ((σ.wi 0 48 ((σ.i 0 48) + (1 : Int32))).i b1 3)) (ix := 449) (ci := 21) (k := 3) (pc' := 198) (by decide +kernel) rfl (c_rI e3 rfl) rfl ?_
      refine ab_fin.s1i (i := .sipush 316) (k := 3) (pc' := 201) (n := 316) (by decide +kernel) rfl (by decide +kernel) rfl ?_
      refine ab_fin.br (c := ¬ ((σ.wi 0 48 ((σ.i 0 48) + (1 : Int32))).i b1 3) = 316) (i := .if_icmp .ne 10) (off := 10) (t := 211) (pc' := 204) (r := []) (by decide +kernel) rfl (by decide +kernel) rfl (fun q => ?_) (fun q => ?_)
      · replace w := w.1 q
        refine ab_fin.s2 (i := .iload_n 3) (k := 1) (pc' := 212) (lv' := [(3, .int (σ.i 1935 ((σ.i 0 48).toNatClampNeg))), (2, .int (σ.i 0 48)), (0, .ref 0), (1, .ref b1)]) (st' := [.int (σ.i 1935 ((σ.i 0 48).toNatClampNeg))]) (by decide +kernel) rfl rfl ?_
        refine ab_fin.br (c := 0 ≤ (σ.i 1935 ((σ.i 0 48).toNatClampNeg))) (i := .ifCond .ge 7) (off := 7) (t := 219) (pc' := 215) (r := []) (by decide +kernel) rfl (by decide +kernel) rfl (fun q => ?_) (fun q => ?_)
        · replace w := w.1 q
          refine ab_fin.s1i (i := .iconst 0) (k := 1) (pc' := 220) (n := 0) (by decide +kernel) rfl (by decide +kernel) rfl ?_
          exact ab_fin.q_ret (i := .ireturn) (k := 1) (v := some (.int 0)) (by decide +kernel) rfl F w
        · replace w := w.2 q
          refine ab_fin.s1i (i := .iconst 1) (k := 1) (pc' := 216) (n := 1) (by decide +kernel) rfl (by decide +kernel) rfl ?_
          refine ab_fin.s3 (i := .goto 4) (k := 3) (t := 220) (st' := [.int 1]) (by decide +kernel) (ab_gto (by decide +kernel)) ?_
          exact ab_fin.q_ret (i := .ireturn) (k := 1) (v := some (.int 1)) (by decide +kernel) rfl F w
      · replace w := w.2 (Decidable.of_not_not q)
        refine ab_fin.s2 (i := .iload_n 3) (k := 1) (pc' := 205) (lv' := [(3, .int (σ.i 1935 ((σ.i 0 48).toNatClampNeg))), (2, .int (σ.i 0 48)), (0, .ref 0), (1, .ref b1)]) (st' := [.int (σ.i 1935 ((σ.i 0 48).toNatClampNeg))]) (by decide +kernel) rfl rfl ?_
        refine ab_fin.br (c := 0 < (σ.i 1935 ((σ.i 0 48).toNatClampNeg))) (i := .ifCond .gt 14) (off := 14) (t := 219) (pc' := 208) (r := []) (by decide +kernel) rfl (by decide +kernel) rfl (fun q => ?_) (fun q => ?_)
        · replace w := w.1 q
          refine ab_fin.s1i (i := .iconst 0) (k := 1) (pc' := 220) (n := 0) (by decide +kernel) rfl (by decide +kernel) rfl ?_
          exact ab_fin.q_ret (i := .ireturn) (k := 1) (v := some (.int 0)) (by decide +kernel) rfl F w
        · replace w := w.2 q
          refine ab_fin.s3 (i := .goto 7) (k := 3) (t := 215) (st' := []) (by decide +kernel) (ab_gto (by decide +kernel)) ?_
          refine ab_fin.s1i (i := .iconst 1) (k := 1) (pc' := 216) (n := 1) (by decide +kernel) rfl (by decide +kernel) rfl ?_
          refine ab_fin.s3 (i := .goto 4) (k := 3) (t := 220) (st' := [.int 1]) (by decide +kernel) (ab_gto (by decide +kernel)) ?_
          exact ab_fin.q_ret (i := .ireturn) (k := 1) (v := some (.int 1)) (by decide +kernel) rfl F w
    · replace w := w.2 (Decidable.of_not_not q)
      refine ab_fin.s2 (i := .iload_n 3) (k := 1) (pc' := 188) (lv' := [(3, .int (σ.i 1935 ((σ.i 0 48).toNatClampNeg))), (2, .int (σ.i 0 48)), (0, .ref 0), (1, .ref b1)]) (st' := [.int (σ.i 1935 ((σ.i 0 48).toNatClampNeg))]) (by decide +kernel) rfl rfl ?_
      refine ab_fin.br (c := ¬ (σ.i 1935 ((σ.i 0 48).toNatClampNeg)) = 0) (i := .ifCond .ne 31) (off := 31) (t := 219) (pc' := 191) (r := []) (by decide +kernel) rfl (by decide +kernel) rfl (fun q => ?_) (fun q => ?_)
      · replace w := w.1 q
        refine ab_fin.s1i (i := .iconst 0) (k := 1) (pc' := 220) (n := 0) (by decide +kernel) rfl (by decide +kernel) rfl ?_
        exact ab_fin.q_ret (i := .ireturn) (k := 1) (v := some (.int 0)) (by decide +kernel) rfl F w
      · replace w := w.2 (Decidable.of_not_not q)
        refine ab_fin.s3 (i := .goto 24) (k := 3) (t := 215) (st' := []) (by decide +kernel) (ab_gto (by decide +kernel)) ?_
        refine ab_fin.s1i (i := .iconst 1) (k := 1) (pc' := 216) (n := 1) (by decide +kernel) rfl (by decide +kernel) rfl ?_
        refine ab_fin.s3 (i := .goto 4) (k := 3) (t := 220) (st' := [.int 1]) (by decide +kernel) (ab_gto (by decide +kernel)) ?_
        exact ab_fin.q_ret (i := .ireturn) (k := 1) (v := some (.int 1)) (by decide +kernel) rfl F w
  · replace w := w.2 q
    refine ab_fin.s1i (i := .iconst 2) (k := 1) (pc' := 169) (n := 2) (by decide +kernel) rfl (by decide +kernel) rfl ?_
    exact ab_fin.q_ret (i := .ireturn) (k := 1) (v := some (.int 2)) (by decide +kernel) rfl F w

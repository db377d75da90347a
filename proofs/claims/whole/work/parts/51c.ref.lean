/-! THE REFERENCE, PIECE BY PIECE (printed by sgen.py), 3 -/
theorem S_X23_call_127 {Z : zT} {d : Nat} {σ : Sg} {l3 : Nat} {K : kS} (F : FX ΦR σ.sh σ.r) (p_l3 : sh0R[l3]? = some (Sh.obj 14)) (w : B_X23_breaks_0 Z d σ 4 (σ.i 0 18) (yN K fun τ1 => B_X23_call_141 Z (d + 1) (τ1.wi l3 1 (1 : Int32)) l3 K)) : B_X23_call_127 Z (d + 1) σ l3 K := by
  unfold B_X23_call_127
  refine ab_fin.s2 (i := .aload_n 0) (k := 1) (pc' := 128) (lv' := [(0, .ref 0), (3, .ref l3)]) (st' := [.ref 0]) (by decide +kernel) rfl rfl ?_
  refine ab_fin.s1i (i := .iconst 4) (k := 1) (pc' := 129) (n := 4) (by decide +kernel) rfl (by decide +kernel) rfl ?_
  refine ab_fin.s2 (i := .aload_n 0) (k := 1) (pc' := 130) (lv' := [(0, .ref 0), (3, .ref l3)]) (st' := [.ref 0, .int 4, .ref 0]) (by decide +kernel) rfl rfl ?_
  refine ab_fin.q_rI (x := (σ.i 0 18)) (ix := 106) (ci := 24) (k := 18) (pc' := 133) (by decide +kernel) rfl (c_rI (F.s s0_0) rfl) rfl ?_
  refine ab_fin.q_yN (i := .invokevirtual 259) (k := 3) (y := 5910) (As := [.ref 0, .int 4, .int (σ.i 0 18)]) (rest := []) (M' := (mX23_breaks, [])) (lv2 := [(0, .ref 0), (1, .int 4), (2, .int (σ.i 0 18))]) (pc' := 136) (X := K) (by decide +kernel) (ab_cv rfl rfl (conc_get (σ := σ) (F.s s0_0)) ⟨(Nat.le_of_ble_eq_true rfl), (Nat.le_of_ble_eq_true rfl)⟩ rfl) rfl (Nat.le_of_ble_eq_true rfl) rfl rfl (hY_no fun E => rfl) w (fun τ1 F2 w => ?_)
  refine ab_fin.s2 (i := .aload_n 3) (k := 1) (pc' := 137) (lv' := [(0, .ref 0), (3, .ref l3)]) (st' := [.ref l3]) (by decide +kernel) rfl rfl ?_
  refine ab_fin.s1i (i := .iconst 1) (k := 1) (pc' := 138) (n := 1) (by decide +kernel) rfl (by decide +kernel) rfl ?_
  refine ab_fin.q_pF (ix := 303) (ci := 14) (k := 1) (h1 := conc (τ1.wi l3 1 (1 : Int32))) (pc' := 141) (by decide +kernel) rfl (c_pI (v := 1) (F2.s p_l3) rfl) rfl rfl rfl ?_
  exact ab_fin.lv ⟨(List.forall_mem_cons.mpr ⟨(List.Mem.head _), (List.forall_mem_cons.mpr ⟨(List.Mem.tail _ (List.Mem.head _)), (fun _ h => absurd h List.not_mem_nil)⟩)⟩), (show ([0, 3] : List Nat).Nodup from by decide)⟩ w
theorem S_X23_call_141 {Z : zT} {d : Nat} {σ : Sg} {l3 : Nat} {K : kS} (F : FX ΦR σ.sh σ.r) (p_l3 : sh0R[l3]? = some (Sh.obj 14)) (w : B_X23_next_0 Z d σ  (yN K fun τ1 => B_X23_want_0 Z d τ1 41 (yN K fun τ3 => B_X23_is__0 Z d τ3 (Rf.old 132) (yI K fun v7 τ5 => (v7 = 0 → B_X23_is__0 Z d τ5 (Rf.old 172) (yI K fun v10 τ8 => (v10 = 0 → B_X23_is__0 Z d τ8 (Rf.old 122) (yI K fun v13 τ11 => (v13 = 0 → B_X23_is__0 Z d τ11 (Rf.old 124) (yI K fun v16 τ14 => (v16 = 0 → B_X23_is__0 Z d τ14 (Rf.old 154) (yI K fun v19 τ17 => (v19 = 0 → B_X23_call_218 Z (d + 1) τ17 l3 l3 (-1) K) ∧ (¬ v19 = 0 → B_X23_call_218 Z (d + 1) τ17 l3 l3 4 K))) ∧ (¬ v16 = 0 → B_X23_call_218 Z (d + 1) τ14 l3 l3 3 K))) ∧ (¬ v13 = 0 → B_X23_call_218 Z (d + 1) τ11 l3 l3 2 K))) ∧ (¬ v10 = 0 → B_X23_call_218 Z (d + 1) τ8 l3 l3 1 K))) ∧ (¬ v7 = 0 → B_X23_call_218 Z (d + 1) τ5 l3 l3 0 K))))) : B_X23_call_141 Z (d + 1) σ l3 K := by
  unfold B_X23_call_141
  refine ab_fin.s2 (i := .aload_n 0) (k := 1) (pc' := 142) (lv' := [(0, .ref 0), (3, .ref l3)]) (st' := [.ref 0]) (by decide +kernel) rfl rfl ?_
  refine ab_fin.q_yN (i := .invokevirtual 239) (k := 3) (y := 5902) (As := [.ref 0]) (rest := []) (M' := (mX23_next, [])) (lv2 := [(0, .ref 0)]) (pc' := 145) (X := K) (by decide +kernel) (ab_cv rfl rfl (conc_get (σ := σ) (F.s s0_0)) ⟨(Nat.le_of_ble_eq_true rfl), (Nat.le_of_ble_eq_true rfl)⟩ rfl) rfl (Nat.le_of_ble_eq_true rfl) rfl rfl (hY_no fun E => rfl) w (fun τ1 F2 w => ?_)
  refine ab_fin.s2 (i := .aload_n 0) (k := 1) (pc' := 146) (lv' := [(0, .ref 0), (3, .ref l3)]) (st' := [.ref 0]) (by decide +kernel) rfl rfl ?_
  refine ab_fin.s1i (i := .bipush 41) (k := 2) (pc' := 148) (n := 41) (by decide +kernel) rfl (by decide +kernel) rfl ?_
  refine ab_fin.q_yN (i := .invokevirtual 293) (k := 3) (y := 5906) (As := [.ref 0, .int 41]) (rest := []) (M' := (mX23_want, [])) (lv2 := [(0, .ref 0), (1, .int 41)]) (pc' := 151) (X := K) (by decide +kernel) (ab_cv rfl rfl (conc_get (σ := τ1) (F2.s s0_0)) ⟨(Nat.le_of_ble_eq_true rfl), (Nat.le_of_ble_eq_true rfl)⟩ rfl) rfl (Nat.le_of_ble_eq_true rfl) rfl rfl (hY_no fun E => rfl) w (fun τ3 F4 w => ?_)
  refine ab_fin.s2 (i := .aload_n 3) (k := 1) (pc' := 152) (lv' := [(0, .ref 0), (3, .ref l3)]) (st' := [.ref l3]) (by decide +kernel) rfl rfl ?_
  refine ab_fin.s2 (i := .aload_n 0) (k := 1) (pc' := 153) (lv' := [(0, .ref 0), (3, .ref l3)]) (st' := [.ref 0, .ref l3]) (by decide +kernel) rfl rfl ?_
  refine ab_fin.s8 (i := .ldc 126) (k := 2) (pc' := 155) (st' := [.retAddr 132, .ref 0, .ref l3]) (by decide +kernel) rfl rfl rfl rfl ?_
  refine ab_fin.q_yI (i := .invokevirtual 242) (k := 3) (y := 5905) (As := [.ref 0, .retAddr 132]) (rest := [.ref l3]) (M' := (mX23_is_, [])) (lv2 := [(0, .ref 0), (1, .retAddr 132)]) (pc' := 158) (X := K) (by decide +kernel) (ab_cv rfl rfl (conc_get (σ := τ3) (F4.s s0_0)) ⟨(Nat.le_of_ble_eq_true rfl), (Nat.le_of_ble_eq_true rfl)⟩ rfl) rfl (Nat.le_of_ble_eq_true rfl) rfl rfl (hY_no fun E => rfl) w (fun v7 τ5 F6 w => ?_)
  refine ab_fin.br (c := v7 = 0) (i := .ifCond .eq 7) (off := 7) (t := 165) (pc' := 161) (r := [.ref l3]) (by decide +kernel) rfl (by decide +kernel) rfl (fun q => ?_) (fun q => ?_)
  · replace w := w.1 q
    refine ab_fin.s2 (i := .aload_n 0) (k := 1) (pc' := 166) (lv' := [(0, .ref 0), (3, .ref l3)]) (st' := [.ref 0, .ref l3]) (by decide +kernel) rfl rfl ?_
    refine ab_fin.s8 (i := .ldc 165) (k := 2) (pc' := 168) (st' := [.retAddr 172, .ref 0, .ref l3]) (by decide +kernel) rfl rfl rfl rfl ?_
    refine ab_fin.q_yI (i := .invokevirtual 242) (k := 3) (y := 5905) (As := [.ref 0, .retAddr 172]) (rest := [.ref l3]) (M' := (mX23_is_, [])) (lv2 := [(0, .ref 0), (1, .retAddr 172)]) (pc' := 171) (X := K) (by decide +kernel) (ab_cv rfl rfl (conc_get (σ := τ5) (F6.s s0_0)) ⟨(Nat.le_of_ble_eq_true rfl), (Nat.le_of_ble_eq_true rfl)⟩ rfl) rfl (Nat.le_of_ble_eq_true rfl) rfl rfl (hY_no fun E => rfl) w (fun v10 τ8 F9 w => ?_)
    refine ab_fin.br (c := v10 = 0) (i := .ifCond .eq 7) (off := 7) (t := 178) (pc' := 174) (r := [.ref l3]) (by decide +kernel) rfl (by decide +kernel) rfl (fun q => ?_) (fun q => ?_)
    · replace w := w.1 q
      refine ab_fin.s2 (i := .aload_n 0) (k := 1) (pc' := 179) (lv' := [(0, .ref 0), (3, .ref l3)]) (st' := [.ref 0, .ref l3]) (by decide +kernel) rfl rfl ?_
      refine ab_fin.s8 (i := .ldc 116) (k := 2) (pc' := 181) (st' := [.retAddr 122, .ref 0, .ref l3]) (by decide +kernel) rfl rfl rfl rfl ?_
      refine ab_fin.q_yI (i := .invokevirtual 242) (k := 3) (y := 5905) (As := [.ref 0, .retAddr 122]) (rest := [.ref l3]) (M' := (mX23_is_, [])) (lv2 := [(0, .ref 0), (1, .retAddr 122)]) (pc' := 184) (X := K) (by decide +kernel) (ab_cv rfl rfl (conc_get (σ := τ8) (F9.s s0_0)) ⟨(Nat.le_of_ble_eq_true rfl), (Nat.le_of_ble_eq_true rfl)⟩ rfl) rfl (Nat.le_of_ble_eq_true rfl) rfl rfl (hY_no fun E => rfl) w (fun v13 τ11 F12 w => ?_)
      refine ab_fin.br (c := v13 = 0) (i := .ifCond .eq 7) (off := 7) (t := 191) (pc' := 187) (r := [.ref l3]) (by decide +kernel) rfl (by decide +kernel) rfl (fun q => ?_) (fun q => ?_)
      · replace w := w.1 q
        refine ab_fin.s2 (i := .aload_n 0) (k := 1) (pc' := 192) (lv' := [(0, .ref 0), (3, .ref l3)]) (st' := [.ref 0, .ref l3]) (by decide +kernel) rfl rfl ?_
        refine ab_fin.s8 (i := .ldc 118) (k := 2) (pc' := 194) (st' := [.retAddr 124, .ref 0, .ref l3]) (by decide +kernel) rfl rfl rfl rfl ?_
        refine ab_fin.q_yI (i := .invokevirtual 242) (k := 3) (y := 5905) (As := [.ref 0, .retAddr 124]) (rest := [.ref l3]) (M' := (mX23_is_, [])) (lv2 := [(0, .ref 0), (1, .retAddr 124)]) (pc' := 197) (X := K) (by decide +kernel) (ab_cv rfl rfl (conc_get (σ := τ11) (F12.s s0_0)) ⟨(Nat.le_of_ble_eq_true rfl), (Nat.le_of_ble_eq_true rfl)⟩ rfl) rfl (Nat.le_of_ble_eq_true rfl) rfl rfl (hY_no fun E => rfl) w (fun v16 τ14 F15 w => ?_)
        refine ab_fin.br (c := v16 = 0) (i := .ifCond .eq 7) (off := 7) (t := 204) (pc' := 200) (r := [.ref l3]) (by decide +kernel) rfl (by decide +kernel) rfl (fun q => ?_) (fun q => ?_)
        · replace w := w.1 q
          refine ab_fin.s2 (i := .aload_n 0) (k := 1) (pc' := 205) (lv' := [(0, .ref 0), (3, .ref l3)]) (st' := [.ref 0, .ref l3]) (by decide +kernel) rfl rfl ?_
          refine ab_fin.s8 (i := .ldc 147) (k := 2) (pc' := 207) (st' := [.retAddr 154, .ref 0, .ref l3]) (by decide +kernel) rfl rfl rfl rfl ?_
          refine ab_fin.q_yI (i := .invokevirtual 242) (k := 3) (y := 5905) (As := [.ref 0, .retAddr 154]) (rest := [.ref l3]) (M' := (mX23_is_, [])) (lv2 := [(0, .ref 0), (1, .retAddr 154)]) (pc' := 210) (X := K) (by decide +kernel) (ab_cv rfl rfl (conc_get (σ := τ14) (F15.s s0_0)) ⟨(Nat.le_of_ble_eq_true rfl), (Nat.le_of_ble_eq_true rfl)⟩ rfl) rfl (Nat.le_of_ble_eq_true rfl) rfl rfl (hY_no fun E => rfl) w (fun v19 τ17 F18 w => ?_)
          refine ab_fin.br (c := v19 = 0) (i := .ifCond .eq 7) (off := 7) (t := 217) (pc' := 213) (r := [.ref l3]) (by decide +kernel) rfl (by decide +kernel) rfl (fun q => ?_) (fun q => ?_)
          · replace w := w.1 q
            refine ab_fin.s1i (i := .iconst (-1)) (k := 1) (pc' := 218) (n := (-1)) (by decide +kernel) rfl (by decide +kernel) rfl ?_
            exact ab_fin.lv ⟨(List.forall_mem_cons.mpr ⟨(List.Mem.head _), (List.forall_mem_cons.mpr ⟨(List.Mem.tail _ (List.Mem.head _)), (fun _ h => absurd h List.not_mem_nil)⟩)⟩), (show ([0, 3] : List Nat).Nodup from by decide)⟩ w
          · replace w := w.2 q
            refine ab_fin.s1i (i := .iconst 4) (k := 1) (pc' := 214) (n := 4) (by decide +kernel) rfl (by decide +kernel) rfl ?_
            refine ab_fin.s3 (i := .goto 4) (k := 3) (t := 218) (st' := [.int 4, .ref l3]) (by decide +kernel) (ab_gto (by decide +kernel)) ?_
            exact ab_fin.lv ⟨(List.forall_mem_cons.mpr ⟨(List.Mem.head _), (List.forall_mem_cons.mpr ⟨(List.Mem.tail _ (List.Mem.head _)), (fun _ h => absurd h List.not_mem_nil)⟩)⟩), (show ([0, 3] : List Nat).Nodup from by decide)⟩ w
        · replace w := w.2 q
          refine ab_fin.s1i (i := .iconst 3) (k := 1) (pc' := 201) (n := 3) (by decide +kernel) rfl (by decide +kernel) rfl ?_
          refine ab_fin.s3 (i := .goto 17) (k := 3) (t := 218) (st' := [.int 3, .ref l3]) (by decide +kernel) (ab_gto (by decide +kernel)) ?_
          exact ab_fin.lv ⟨(List.forall_mem_cons.mpr ⟨(List.Mem.head _), (List.forall_mem_cons.mpr ⟨(List.Mem.tail _ (List.Mem.head _)), (fun _ h => absurd h List.not_mem_nil)⟩)⟩), (show ([0, 3] : List Nat).Nodup from by decide)⟩ w
      · replace w := w.2 q
        refine ab_fin.s1i (i := .iconst 2) (k := 1) (pc' := 188) (n := 2) (by decide +kernel) rfl (by decide +kernel) rfl ?_
        refine ab_fin.s3 (i := .goto 30) (k := 3) (t := 218) (st' := [.int 2, .ref l3]) (by decide +kernel) (ab_gto (by decide +kernel)) ?_
        exact ab_fin.lv ⟨(List.forall_mem_cons.mpr ⟨(List.Mem.head _), (List.forall_mem_cons.mpr ⟨(List.Mem.tail _ (List.Mem.head _)), (fun _ h => absurd h List.not_mem_nil)⟩)⟩), (show ([0, 3] : List Nat).Nodup from by decide)⟩ w
    · replace w := w.2 q
      refine ab_fin.s1i (i := .iconst 1) (k := 1) (pc' := 175) (n := 1) (by decide +kernel) rfl (by decide +kernel) rfl ?_
      refine ab_fin.s3 (i := .goto 43) (k := 3) (t := 218) (st' := [.int 1, .ref l3]) (by decide +kernel) (ab_gto (by decide +kernel)) ?_
      exact ab_fin.lv ⟨(List.forall_mem_cons.mpr ⟨(List.Mem.head _), (List.forall_mem_cons.mpr ⟨(List.Mem.tail _ (List.Mem.head _)), (fun _ h => absurd h List.not_mem_nil)⟩)⟩), (show ([0, 3] : List Nat).Nodup from by decide)⟩ w
  · replace w := w.2 q
    refine ab_fin.s1i (i := .iconst 0) (k := 1) (pc' := 162) (n := 0) (by decide +kernel) rfl (by decide +kernel) rfl ?_
    refine ab_fin.s3 (i := .goto 56) (k := 3) (t := 218) (st' := [.int 0, .ref l3]) (by decide +kernel) (ab_gto (by decide +kernel)) ?_
    exact ab_fin.lv ⟨(List.forall_mem_cons.mpr ⟨(List.Mem.head _), (List.forall_mem_cons.mpr ⟨(List.Mem.tail _ (List.Mem.head _)), (fun _ h => absurd h List.not_mem_nil)⟩)⟩), (show ([0, 3] : List Nat).Nodup from by decide)⟩ w
theorem S_X23_call_218 {Z : zT} {d : Nat} {σ : Sg} {l3 : Nat} {s0 : Nat} {s1 : Int32} {K : kS} (F : FX ΦR σ.sh σ.r) (p_l3 : sh0R[l3]? = some (Sh.obj 14)) (p_s0 : sh0R[s0]? = some (Sh.obj 14)) (w : (0 ≤ ((σ.wi s0 2 s1).i l3 2) → B_X23_next_0 Z d (σ.wi s0 2 s1)  (yN K fun τ1 => B_X23_is__0 Z d τ1 (Rf.old 156) (yI K fun v5 τ3 => (v5 = 0 → B_X23_is__0 Z d τ3 (Rf.old 138) (yI K fun v8 τ6 => (v8 = 0 → B_X23_is__0 Z d τ6 (Rf.old 164) (yI K fun v11 τ9 => (v11 = 0 → B_X23_call_278 Z (d + 1) τ9 l3 l3 (-1) K) ∧ (¬ v11 = 0 → B_X23_call_278 Z (d + 1) τ9 l3 l3 2 K))) ∧ (¬ v8 = 0 → B_X23_call_278 Z (d + 1) τ6 l3 l3 1 K))) ∧ (¬ v5 = 0 → B_X23_call_278 Z (d + 1) τ3 l3 l3 0 K)))) ∧ (¬ 0 ≤ ((σ.wi s0 2 s1).i l3 2) → B_X23_no_0 Z d (σ.wi s0 2 s1)  (yR K fun v14 τ12 => ∃ x16, aT τ12 v14 x16 ∧ K (.inr (x16, v14)) τ12))) : B_X23_call_218 Z (d + 1) σ l3 s0 s1 K := by
  unfold B_X23_call_218
  refine ab_fin.q_pF (ix := 306) (ci := 14) (k := 2) (h1 := conc (σ.wi s0 2 s1)) (pc' := 221) (by decide +kernel) rfl (c_pI (v := s1) (F.s p_s0) rfl) rfl rfl rfl ?_
  refine ab_fin.s2 (i := .aload_n 3) (k := 1) (pc' := 222) (lv' := [(0, .ref 0), (3, .ref l3)]) (st' := [.ref l3]) (by decide +kernel) rfl rfl ?_
  refine ab_fin.q_rI (x := ((σ.wi s0 2 s1).i l3 2)) (ix := 306) (ci := 14) (k := 2) (pc' := 225) (by decide +kernel) rfl (c_rI (F.s p_l3) rfl) rfl ?_
  refine ab_fin.br (c := 0 ≤ ((σ.wi s0 2 s1).i l3 2)) (i := .ifCond .ge 8) (off := 8) (t := 233) (pc' := 228) (r := []) (by decide +kernel) rfl (by decide +kernel) rfl (fun q => ?_) (fun q => ?_)
  · replace w := w.1 q
    refine ab_fin.s2 (i := .aload_n 0) (k := 1) (pc' := 234) (lv' := [(0, .ref 0), (3, .ref l3)]) (st' := [.ref 0]) (by decide +kernel) rfl rfl ?_
    refine ab_fin.q_yN (i := .invokevirtual 239) (k := 3) (y := 5902) (As := [.ref 0]) (rest := []) (M' := (mX23_next, [])) (lv2 := [(0, .ref 0)]) (pc' := 237) (X := K) (by decide +kernel) (ab_cv rfl rfl (conc_get (σ := (σ.wi s0 2 s1)) (F.s s0_0)) ⟨(Nat.le_of_ble_eq_true rfl), (Nat.le_of_ble_eq_true rfl)⟩ rfl) rfl (Nat.le_of_ble_eq_true rfl) rfl rfl (hY_no fun E => rfl) w (fun τ1 F2 w => ?_)
    refine ab_fin.s2 (i := .aload_n 3) (k := 1) (pc' := 238) (lv' := [(0, .ref 0), (3, .ref l3)]) (st' := [.ref l3]) (by decide +kernel) rfl rfl ?_
    refine ab_fin.s2 (i := .aload_n 0) (k := 1) (pc' := 239) (lv' := [(0, .ref 0), (3, .ref l3)]) (st' := [.ref 0, .ref l3]) (by decide +kernel) rfl rfl ?_
    refine ab_fin.s8 (i := .ldc 149) (k := 2) (pc' := 241) (st' := [.retAddr 156, .ref 0, .ref l3]) (by decide +kernel) rfl rfl rfl rfl ?_
    refine ab_fin.q_yI (i := .invokevirtual 242) (k := 3) (y := 5905) (As := [.ref 0, .retAddr 156]) (rest := [.ref l3]) (M' := (mX23_is_, [])) (lv2 := [(0, .ref 0), (1, .retAddr 156)]) (pc' := 244) (X := K) (by decide +kernel) (ab_cv rfl rfl (conc_get (σ := τ1) (F2.s s0_0)) ⟨(Nat.le_of_ble_eq_true rfl), (Nat.le_of_ble_eq_true rfl)⟩ rfl) rfl (Nat.le_of_ble_eq_true rfl) rfl rfl (hY_no fun E => rfl) w (fun v5 τ3 F4 w => ?_)
    refine ab_fin.br (c := v5 = 0) (i := .ifCond .eq 7) (off := 7) (t := 251) (pc' := 247) (r := [.ref l3]) (by decide +kernel) rfl (by decide +kernel) rfl (fun q => ?_) (fun q => ?_)
    · replace w := w.1 q
      refine ab_fin.s2 (i := .aload_n 0) (k := 1) (pc' := 252) (lv' := [(0, .ref 0), (3, .ref l3)]) (st' := [.ref 0, .ref l3]) (by decide +kernel) rfl rfl ?_
      refine ab_fin.s8 (i := .ldc 132) (k := 2) (pc' := 254) (st' := [.retAddr 138, .ref 0, .ref l3]) (by decide +kernel) rfl rfl rfl rfl ?_
      refine ab_fin.q_yI (i := .invokevirtual 242) (k := 3) (y := 5905) (As := [.ref 0, .retAddr 138]) (rest := [.ref l3]) (M' := (mX23_is_, [])) (lv2 := [(0, .ref 0), (1, .retAddr 138)]) (pc' := 257) (X := K) (by decide +kernel) (ab_cv rfl rfl (conc_get (σ := τ3) (F4.s s0_0)) ⟨(Nat.le_of_ble_eq_true rfl), (Nat.le_of_ble_eq_true rfl)⟩ rfl) rfl (Nat.le_of_ble_eq_true rfl) rfl rfl (hY_no fun E => rfl) w (fun v8 τ6 F7 w => ?_)
      refine ab_fin.br (c := v8 = 0) (i := .ifCond .eq 7) (off := 7) (t := 264) (pc' := 260) (r := [.ref l3]) (by decide +kernel) rfl (by decide +kernel) rfl (fun q => ?_) (fun q => ?_)
      · replace w := w.1 q
        refine ab_fin.s2 (i := .aload_n 0) (k := 1) (pc' := 265) (lv' := [(0, .ref 0), (3, .ref l3)]) (st' := [.ref 0, .ref l3]) (by decide +kernel) rfl rfl ?_
        refine ab_fin.s8 (i := .ldc 157) (k := 2) (pc' := 267) (st' := [.retAddr 164, .ref 0, .ref l3]) (by decide +kernel) rfl rfl rfl rfl ?_
        refine ab_fin.q_yI (i := .invokevirtual 242) (k := 3) (y := 5905) (As := [.ref 0, .retAddr 164]) (rest := [.ref l3]) (M' := (mX23_is_, [])) (lv2 := [(0, .ref 0), (1, .retAddr 164)]) (pc' := 270) (X := K) (by decide +kernel) (ab_cv rfl rfl (conc_get (σ := τ6) (F7.s s0_0)) ⟨(Nat.le_of_ble_eq_true rfl), (Nat.le_of_ble_eq_true rfl)⟩ rfl) rfl (Nat.le_of_ble_eq_true rfl) rfl rfl (hY_no fun E => rfl) w (fun v11 τ9 F10 w => ?_)
        refine ab_fin.br (c := v11 = 0) (i := .ifCond .eq 7) (off := 7) (t := 277) (pc' := 273) (r := [.ref l3]) (by decide +kernel) rfl (by decide +kernel) rfl (fun q => ?_) (fun q => ?_)
        · replace w := w.1 q
          refine ab_fin.s1i (i := .iconst (-1)) (k := 1) (pc' := 278) (n := (-1)) (by decide +kernel) rfl (by decide +kernel) rfl ?_
          exact ab_fin.lv ⟨(List.forall_mem_cons.mpr ⟨(List.Mem.head _), (List.forall_mem_cons.mpr ⟨(List.Mem.tail _ (List.Mem.head _)), (fun _ h => absurd h List.not_mem_nil)⟩)⟩), (show ([0, 3] : List Nat).Nodup from by decide)⟩ w
        · replace w := w.2 q
          refine ab_fin.s1i (i := .iconst 2) (k := 1) (pc' := 274) (n := 2) (by decide +kernel) rfl (by decide +kernel) rfl ?_
          refine ab_fin.s3 (i := .goto 4) (k := 3) (t := 278) (st' := [.int 2, .ref l3]) (by decide +kernel) (ab_gto (by decide +kernel)) ?_
          exact ab_fin.lv ⟨(List.forall_mem_cons.mpr ⟨(List.Mem.head _), (List.forall_mem_cons.mpr ⟨(List.Mem.tail _ (List.Mem.head _)), (fun _ h => absurd h List.not_mem_nil)⟩)⟩), (show ([0, 3] : List Nat).Nodup from by decide)⟩ w
      · replace w := w.2 q
        refine ab_fin.s1i (i := .iconst 1) (k := 1) (pc' := 261) (n := 1) (by decide +kernel) rfl (by decide +kernel) rfl ?_
        refine ab_fin.s3 (i := .goto 17) (k := 3) (t := 278) (st' := [.int 1, .ref l3]) (by decide +kernel) (ab_gto (by decide +kernel)) ?_
        exact ab_fin.lv ⟨(List.forall_mem_cons.mpr ⟨(List.Mem.head _), (List.forall_mem_cons.mpr ⟨(List.Mem.tail _ (List.Mem.head _)), (fun _ h => absurd h List.not_mem_nil)⟩)⟩), (show ([0, 3] : List Nat).Nodup from by decide)⟩ w
    · replace w := w.2 q
      refine ab_fin.s1i (i := .iconst 0) (k := 1) (pc' := 248) (n := 0) (by decide +kernel) rfl (by decide +kernel) rfl ?_
      refine ab_fin.s3 (i := .goto 30) (k := 3) (t := 278) (st' := [.int 0, .ref l3]) (by decide +kernel) (ab_gto (by decide +kernel)) ?_
      exact ab_fin.lv ⟨(List.forall_mem_cons.mpr ⟨(List.Mem.head _), (List.forall_mem_cons.mpr ⟨(List.Mem.tail _ (List.Mem.head _)), (fun _ h => absurd h List.not_mem_nil)⟩)⟩), (show ([0, 3] : List Nat).Nodup from by decide)⟩ w
  · replace w := w.2 q
    refine ab_fin.s2 (i := .aload_n 0) (k := 1) (pc' := 229) (lv' := [(0, .ref 0), (3, .ref l3)]) (st' := [.ref 0]) (by decide +kernel) rfl rfl ?_
    refine ab_fin.q_yR (i := .invokevirtual 235) (k := 3) (y := 5903) (As := [.ref 0]) (rest := []) (M' := (mX23_no, [])) (lv2 := [(0, .ref 0)]) (pc' := 232) (X := K) (by decide +kernel) (ab_cv rfl rfl (conc_get (σ := (σ.wi s0 2 s1)) (F.s s0_0)) ⟨(Nat.le_of_ble_eq_true rfl), (Nat.le_of_ble_eq_true rfl)⟩ rfl) rfl (Nat.le_of_ble_eq_true rfl) rfl rfl (hY_no fun E => rfl) w (fun v14 τ12 F13 w => ?_)
    obtain ⟨x16, e15, w⟩ := w
    exact ab_fin.q_ath (X := fun r h => ∃ τ, h = conc τ ∧ FX ΦR τ.sh τ.r ∧ K r τ) (by decide +kernel) (aT_ok e15) (fun p h ⟨τ, q, f, z⟩ => by subst q; exact ((hY_no fun E => rfl) : hY ΦR _ _ _ _ _ _ _ _ _ _) p τ f z) ⟨_, rfl, F13, w⟩
theorem S_X23_call_278 {Z : zT} {d : Nat} {σ : Sg} {l3 : Nat} {s0 : Nat} {s1 : Int32} {K : kS} (F : FX ΦR σ.sh σ.r) (p_l3 : sh0R[l3]? = some (Sh.obj 14)) (p_s0 : sh0R[s0]? = some (Sh.obj 14)) (w : (0 ≤ ((σ.wi s0 3 s1).i l3 3) → B_X23_next_0 Z d (σ.wi s0 3 s1)  (yN K fun τ1 => B_X23_want_0 Z d τ1 59 (yN K fun τ3 => (24 ≤ (τ3.i 0 5) → K (.inl none) τ3) ∧ (¬ 24 ≤ (τ3.i 0 5) → K (.inl none) (τ3.wi 0 5 ((τ3.i 0 5) + (1 : Int32))))))) ∧ (¬ 0 ≤ ((σ.wi s0 3 s1).i l3 3) → B_X23_no_0 Z d (σ.wi s0 3 s1)  (yR K fun v7 τ5 => ∃ x9, aT τ5 v7 x9 ∧ K (.inr (x9, v7)) τ5))) : B_X23_call_278 Z (d + 1) σ l3 s0 s1 K := by
  unfold B_X23_call_278
  refine ab_fin.q_pF (ix := 309) (ci := 14) (k := 3) (h1 := conc (σ.wi s0 3 s1)) (pc' := 281) (by decide +kernel) rfl (c_pI (v := s1) (F.s p_s0) rfl) rfl rfl rfl ?_
  refine ab_fin.s2 (i := .aload_n 3) (k := 1) (pc' := 282) (lv' := [(0, .ref 0), (3, .ref l3)]) (st' := [.ref l3]) (by decide +kernel) rfl rfl ?_
  refine ab_fin.q_rI (x := ((σ.wi s0 3 s1).i l3 3)) (ix := 309) (ci := 14) (k := 3) (pc' := 285) (by decide +kernel) rfl (c_rI (F.s p_l3) rfl) rfl ?_
  refine ab_fin.br (c := 0 ≤ ((σ.wi s0 3 s1).i l3 3)) (i := .ifCond .ge 8) (off := 8) (t := 293) (pc' := 288) (r := []) (by decide +kernel) rfl (by decide +kernel) rfl (fun q => ?_) (fun q => ?_)
  · replace w := w.1 q
    refine ab_fin.s2 (i := .aload_n 0) (k := 1) (pc' := 294) (lv' := [(0, .ref 0), (3, .ref l3)]) (st' := [.ref 0]) (by decide +kernel) rfl rfl ?_
    refine ab_fin.q_yN (i := .invokevirtual 239) (k := 3) (y := 5902) (As := [.ref 0]) (rest := []) (M' := (mX23_next, [])) (lv2 := [(0, .ref 0)]) (pc' := 297) (X := K) (by decide +kernel) (ab_cv rfl rfl (conc_get (σ := (σ.wi s0 3 s1)) (F.s s0_0)) ⟨(Nat.le_of_ble_eq_true rfl), (Nat.le_of_ble_eq_true rfl)⟩ rfl) rfl (Nat.le_of_ble_eq_true rfl) rfl rfl (hY_no fun E => rfl) w (fun τ1 F2 w => ?_)
    refine ab_fin.s2 (i := .aload_n 0) (k := 1) (pc' := 298) (lv' := [(0, .ref 0), (3, .ref l3)]) (st' := [.ref 0]) (by decide +kernel) rfl rfl ?_
    refine ab_fin.s1i (i := .bipush 59) (k := 2) (pc' := 300) (n := 59) (by decide +kernel) rfl (by decide +kernel) rfl ?_
    refine ab_fin.q_yN (i := .invokevirtual 293) (k := 3) (y := 5906) (As := [.ref 0, .int 59]) (rest := []) (M' := (mX23_want, [])) (lv2 := [(0, .ref 0), (1, .int 59)]) (pc' := 303) (X := K) (by decide +kernel) (ab_cv rfl rfl (conc_get (σ := τ1) (F2.s s0_0)) ⟨(Nat.le_of_ble_eq_true rfl), (Nat.le_of_ble_eq_true rfl)⟩ rfl) rfl (Nat.le_of_ble_eq_true rfl) rfl rfl (hY_no fun E => rfl) w (fun τ3 F4 w => ?_)
    refine ab_fin.s2 (i := .aload_n 0) (k := 1) (pc' := 304) (lv' := [(0, .ref 0), (3, .ref l3)]) (st' := [.ref 0]) (by decide +kernel) rfl rfl ?_
    refine ab_fin.q_rI (x := (τ3.i 0 5)) (ix := 31) (ci := 24) (k := 5) (pc' := 307) (by decide +kernel) rfl (c_rI (F4.s s0_0) rfl) rfl ?_
    refine ab_fin.s1i (i := .bipush 24) (k := 2) (pc' := 309) (n := 24) (by decide +kernel) rfl (by decide +kernel) rfl ?_
    refine ab_fin.br (c := 24 ≤ (τ3.i 0 5)) (i := .if_icmp .ge 13) (off := 13) (t := 322) (pc' := 312) (r := []) (by decide +kernel) rfl (by decide +kernel) rfl (fun q => ?_) (fun q => ?_)
    · replace w := w.1 q
      exact ab_fin.q_ret (i := .return_) (k := 1) (v := none) (by decide +kernel) rfl F4 w
    · replace w := w.2 q
      refine ab_fin.s2 (i := .aload_n 0) (k := 1) (pc' := 313) (lv' := [(0, .ref 0), (3, .ref l3)]) (st' := [.ref 0]) (by decide +kernel) rfl rfl ?_
      refine ab_fin.s1 (i := .dup) (k := 1) (pc' := 314) (st' := [.ref 0, .ref 0]) (by decide +kernel) rfl rfl ?_
      refine ab_fin.q_rI (x := (τ3.i 0 5)) (ix := 31) (ci := 24) (k := 5) (pc' := 317) (by decide +kernel) rfl (c_rI (F4.s s0_0) rfl) rfl ?_
      refine ab_fin.s1i (i := .iconst 1) (k := 1) (pc' := 318) (n := 1) (by decide +kernel) rfl (by decide +kernel) rfl ?_
      refine ab_fin.s1 (i := .iadd) (k := 1) (pc' := 319) (st' := [.int ((τ3.i 0 5) + (1 : Int32)), .ref 0]) (by decide +kernel) rfl rfl ?_
      refine ab_fin.q_pF (ix := 31) (ci := 24) (k := 5) (h1 := conc (τ3.wi 0 5 ((τ3.i 0 5) + (1 : Int32)))) (pc' := 322) (by decide +kernel) rfl (c_pI (v := ((τ3.i 0 5) + (1 : Int32))) (F4.s s0_0) rfl) rfl rfl rfl ?_
      exact ab_fin.q_ret (i := .return_) (k := 1) (v := none) (by decide +kernel) rfl F4 w
  · replace w := w.2 q
    refine ab_fin.s2 (i := .aload_n 0) (k := 1) (pc' := 289) (lv' := [(0, .ref 0), (3, .ref l3)]) (st' := [.ref 0]) (by decide +kernel) rfl rfl ?_
    refine ab_fin.q_yR (i := .invokevirtual 235) (k := 3) (y := 5903) (As := [.ref 0]) (rest := []) (M' := (mX23_no, [])) (lv2 := [(0, .ref 0)]) (pc' := 292) (X := K) (by decide +kernel) (ab_cv rfl rfl (conc_get (σ := (σ.wi s0 3 s1)) (F.s s0_0)) ⟨(Nat.le_of_ble_eq_true rfl), (Nat.le_of_ble_eq_true rfl)⟩ rfl) rfl (Nat.le_of_ble_eq_true rfl) rfl rfl (hY_no fun E => rfl) w (fun v7 τ5 F6 w => ?_)
    obtain ⟨x9, e8, w⟩ := w
    exact ab_fin.q_ath (X := fun r h => ∃ τ, h = conc τ ∧ FX ΦR τ.sh τ.r ∧ K r τ) (by decide +kernel) (aT_ok e8) (fun p h ⟨τ, q, f, z⟩ => by subst q; exact ((hY_no fun E => rfl) : hY ΦR _ _ _ _ _ _ _ _ _ _) p τ f z) ⟨_, rfl, F6, w⟩
theorem S_X23_layer_0 {Z : zT} {d : Nat} {σ : Sg}  {K : kS} (F : FX ΦR σ.sh σ.r) (w : B_X23_name_0 Z d σ  (yI K fun v3 τ1 => B_X23_isTold_0 Z d τ1 v3 (yI K fun v6 τ4 => (v6 = 0 → B_X23_layer_24 Z (d + 1) τ4 (σ.i 0 18) v3 K) ∧ (¬ v6 = 0 → B_X23_breaks_0 Z d τ4 2 (σ.i 0 18) (yN K fun τ7 => B_X23_layer_24 Z (d + 1) τ7 (σ.i 0 18) v3 K))))) : B_X23_layer_0 Z (d + 1) σ  K := by
  unfold B_X23_layer_0
  refine ab_fin.s2 (i := .aload_n 0) (k := 1) (pc' := 1) (lv' := [(0, .ref 0)]) (st' := [.ref 0]) (by decide +kernel) rfl rfl ?_
  refine ab_fin.q_rI (x := (σ.i 0 18)) (ix := 106) (ci := 24) (k := 18) (pc' := 4) (by decide +kernel) rfl (c_rI (F.s s0_0) rfl) rfl ?_
  refine ab_fin.s2 (i := .istore_n 1) (k := 1) (pc' := 5) (lv' := [(1, .int (σ.i 0 18)), (0, .ref 0)]) (st' := []) (by decide +kernel) rfl rfl ?_
  refine ab_fin.s2 (i := .aload_n 0) (k := 1) (pc' := 6) (lv' := [(1, .int (σ.i 0 18)), (0, .ref 0)]) (st' := [.ref 0]) (by decide +kernel) rfl rfl ?_
  refine ab_fin.q_yI (i := .invokevirtual 277) (k := 3) (y := 5909) (As := [.ref 0]) (rest := []) (M' := (mX23_name, [])) (lv2 := [(0, .ref 0)]) (pc' := 9) (X := K) (by decide +kernel) (ab_cv rfl rfl (conc_get (σ := σ) (F.s s0_0)) ⟨(Nat.le_of_ble_eq_true rfl), (Nat.le_of_ble_eq_true rfl)⟩ rfl) rfl (Nat.le_of_ble_eq_true rfl) rfl rfl (hY_no fun E => rfl) w (fun v3 τ1 F2 w => ?_)
  refine ab_fin.s2 (i := .istore_n 2) (k := 1) (pc' := 10) (lv' := [(2, .int v3), (1, .int (σ.i 0 18)), (0, .ref 0)]) (st' := []) (by decide +kernel) rfl rfl ?_
  refine ab_fin.s2 (i := .aload_n 0) (k := 1) (pc' := 11) (lv' := [(2, .int v3), (1, .int (σ.i 0 18)), (0, .ref 0)]) (st' := [.ref 0]) (by decide +kernel) rfl rfl ?_
  refine ab_fin.s2 (i := .iload_n 2) (k := 1) (pc' := 12) (lv' := [(2, .int v3), (1, .int (σ.i 0 18)), (0, .ref 0)]) (st' := [.int v3, .ref 0]) (by decide +kernel) rfl rfl ?_
  refine ab_fin.q_yI (i := .invokevirtual 279) (k := 3) (y := 5893) (As := [.ref 0, .int v3]) (rest := []) (M' := (mX23_isTold, [])) (lv2 := [(0, .ref 0), (1, .int v3)]) (pc' := 15) (X := K) (by decide +kernel) (ab_cv rfl rfl (conc_get (σ := τ1) (F2.s s0_0)) ⟨(Nat.le_of_ble_eq_true rfl), (Nat.le_of_ble_eq_true rfl)⟩ rfl) rfl (Nat.le_of_ble_eq_true rfl) rfl rfl (hY_no fun E => rfl) w (fun v6 τ4 F5 w => ?_)
  refine ab_fin.br (c := v6 = 0) (i := .ifCond .eq 9) (off := 9) (t := 24) (pc' := 18) (r := []) (by decide +kernel) rfl (by decide +kernel) rfl (fun q => ?_) (fun q => ?_)
  · replace w := w.1 q
    exact ab_fin.lv ⟨(List.forall_mem_cons.mpr ⟨(List.Mem.tail _ (List.Mem.tail _ (List.Mem.head _))), (List.forall_mem_cons.mpr ⟨(List.Mem.tail _ (List.Mem.head _)), (List.forall_mem_cons.mpr ⟨(List.Mem.head _), (fun _ h => absurd h List.not_mem_nil)⟩)⟩)⟩), (show ([2, 1, 0] : List Nat).Nodup from by decide)⟩ w
  · replace w := w.2 q
    refine ab_fin.s2 (i := .aload_n 0) (k := 1) (pc' := 19) (lv' := [(2, .int v3), (1, .int (σ.i 0 18)), (0, .ref 0)]) (st' := [.ref 0]) (by decide +kernel) rfl rfl ?_
    refine ab_fin.s1i (i := .iconst 2) (k := 1) (pc' := 20) (n := 2) (by decide +kernel) rfl (by decide +kernel) rfl ?_
    refine ab_fin.s2 (i := .iload_n 1) (k := 1) (pc' := 21) (lv' := [(2, .int v3), (1, .int (σ.i 0 18)), (0, .ref 0)]) (st' := [.int (σ.i 0 18), .int 2, .ref 0]) (by decide +kernel) rfl rfl ?_
    refine ab_fin.q_yN (i := .invokevirtual 259) (k := 3) (y := 5910) (As := [.ref 0, .int 2, .int (σ.i 0 18)]) (rest := []) (M' := (mX23_breaks, [])) (lv2 := [(0, .ref 0), (1, .int 2), (2, .int (σ.i 0 18))]) (pc' := 24) (X := K) (by decide +kernel) (ab_cv rfl rfl (conc_get (σ := τ4) (F5.s s0_0)) ⟨(Nat.le_of_ble_eq_true rfl), (Nat.le_of_ble_eq_true rfl)⟩ rfl) rfl (Nat.le_of_ble_eq_true rfl) rfl rfl (hY_no fun E => rfl) w (fun τ7 F8 w => ?_)
    exact ab_fin.lv ⟨(List.forall_mem_cons.mpr ⟨(List.Mem.tail _ (List.Mem.tail _ (List.Mem.head _))), (List.forall_mem_cons.mpr ⟨(List.Mem.tail _ (List.Mem.head _)), (List.forall_mem_cons.mpr ⟨(List.Mem.head _), (fun _ h => absurd h List.not_mem_nil)⟩)⟩)⟩), (show ([2, 1, 0] : List Nat).Nodup from by decide)⟩ w
theorem S_X23_layer_24 {Z : zT} {d : Nat} {σ : Sg} {l1 : Int32} {l2 : Int32} {K : kS} (F : FX ΦR σ.sh σ.r) (w : (¬ (σ.i 0 7) = 8 → B_X23_layer_40 Z (d + 1) σ l2 K) ∧ ((σ.i 0 7) = 8 → B_X23_breaks_0 Z d σ 7 l1 (yN K fun τ1 => B_X23_layer_40 Z (d + 1) τ1 l2 K))) : B_X23_layer_24 Z (d + 1) σ l1 l2 K := by
  unfold B_X23_layer_24
  refine ab_fin.s2 (i := .aload_n 0) (k := 1) (pc' := 25) (lv' := [(0, .ref 0), (1, .int l1), (2, .int l2)]) (st' := [.ref 0]) (by decide +kernel) rfl rfl ?_
  refine ab_fin.q_rI (x := (σ.i 0 7)) (ix := 41) (ci := 24) (k := 7) (pc' := 28) (by decide +kernel) rfl (c_rI (F.s s0_0) rfl) rfl ?_
  refine ab_fin.s1i (i := .bipush 8) (k := 2) (pc' := 30) (n := 8) (by decide +kernel) rfl (by decide +kernel) rfl ?_
  refine ab_fin.br (c := ¬ (σ.i 0 7) = 8) (i := .if_icmp .ne 10) (off := 10) (t := 40) (pc' := 33) (r := []) (by decide +kernel) rfl (by decide +kernel) rfl (fun q => ?_) (fun q => ?_)
  · replace w := w.1 q
    exact ab_fin.lv ⟨(List.forall_mem_cons.mpr ⟨(List.Mem.head _), (List.forall_mem_cons.mpr ⟨(List.Mem.tail _ (List.Mem.tail _ (List.Mem.head _))), (fun _ h => absurd h List.not_mem_nil)⟩)⟩), (show ([0, 1, 2] : List Nat).Nodup from by decide)⟩ w
  · replace w := w.2 (Decidable.of_not_not q)
    refine ab_fin.s2 (i := .aload_n 0) (k := 1) (pc' := 34) (lv' := [(0, .ref 0), (1, .int l1), (2, .int l2)]) (st' := [.ref 0]) (by decide +kernel) rfl rfl ?_
    refine ab_fin.s1i (i := .bipush 7) (k := 2) (pc' := 36) (n := 7) (by decide +kernel) rfl (by decide +kernel) rfl ?_
    refine ab_fin.s2 (i := .iload_n 1) (k := 1) (pc' := 37) (lv' := [(0, .ref 0), (1, .int l1), (2, .int l2)]) (st' := [.int l1, .int 7, .ref 0]) (by decide +kernel) rfl rfl ?_
    refine ab_fin.q_yN (i := .invokevirtual 259) (k := 3) (y := 5910) (As := [.ref 0, .int 7, .int l1]) (rest := []) (M' := (mX23_breaks, [])) (lv2 := [(0, .ref 0), (1, .int 7), (2, .int l1)]) (pc' := 40) (X := K) (by decide +kernel) (ab_cv rfl rfl (conc_get (σ := σ) (F.s s0_0)) ⟨(Nat.le_of_ble_eq_true rfl), (Nat.le_of_ble_eq_true rfl)⟩ rfl) rfl (Nat.le_of_ble_eq_true rfl) rfl rfl (hY_no fun E => rfl) w (fun τ1 F2 w => ?_)
    exact ab_fin.lv ⟨(List.forall_mem_cons.mpr ⟨(List.Mem.head _), (List.forall_mem_cons.mpr ⟨(List.Mem.tail _ (List.Mem.tail _ (List.Mem.head _))), (fun _ h => absurd h List.not_mem_nil)⟩)⟩), (show ([0, 1, 2] : List Nat).Nodup from by decide)⟩ w
theorem S_X23_layer_40 {Z : zT} {d : Nat} {σ : Sg} {l2 : Int32} {K : kS} (F : FX ΦR σ.sh σ.r) (w : B_X23_want_0 Z d σ 59 (yN K fun τ1 => (¬ (τ1.i 0 7) = 8 → ib (τ1.i 0 7) 8 ∧ (B_X19_be_0 Z d τ1 (2481 + 2 * ((τ1.i 0 7).toNatClampNeg)) 37 (l2 >>> ((5 : Int32) &&& 31)) (l2 &&& (31 : Int32)) (yN K fun τ4 => K (.inl none) (τ4.wi 0 7 ((τ4.i 0 7) + (1 : Int32)))))) ∧ ((τ1.i 0 7) = 8 → K (.inl none) τ1))) : B_X23_layer_40 Z (d + 1) σ l2 K := by
  unfold B_X23_layer_40
  refine ab_fin.s2 (i := .aload_n 0) (k := 1) (pc' := 41) (lv' := [(0, .ref 0), (2, .int l2)]) (st' := [.ref 0]) (by decide +kernel) rfl rfl ?_
  refine ab_fin.s1i (i := .bipush 59) (k := 2) (pc' := 43) (n := 59) (by decide +kernel) rfl (by decide +kernel) rfl ?_
  refine ab_fin.q_yN (i := .invokevirtual 293) (k := 3) (y := 5906) (As := [.ref 0, .int 59]) (rest := []) (M' := (mX23_want, [])) (lv2 := [(0, .ref 0), (1, .int 59)]) (pc' := 46) (X := K) (by decide +kernel) (ab_cv rfl rfl (conc_get (σ := σ) (F.s s0_0)) ⟨(Nat.le_of_ble_eq_true rfl), (Nat.le_of_ble_eq_true rfl)⟩ rfl) rfl (Nat.le_of_ble_eq_true rfl) rfl rfl (hY_no fun E => rfl) w (fun τ1 F2 w => ?_)
  refine ab_fin.s2 (i := .aload_n 0) (k := 1) (pc' := 47) (lv' := [(0, .ref 0), (2, .int l2)]) (st' := [.ref 0]) (by decide +kernel) rfl rfl ?_
  refine ab_fin.q_rI (x := (τ1.i 0 7)) (ix := 41) (ci := 24) (k := 7) (pc' := 50) (by decide +kernel) rfl (c_rI (F2.s s0_0) rfl) rfl ?_
  refine ab_fin.s1i (i := .bipush 8) (k := 2) (pc' := 52) (n := 8) (by decide +kernel) rfl (by decide +kernel) rfl ?_
  refine ab_fin.br (c := ¬ (τ1.i 0 7) = 8) (i := .if_icmp .ne 4) (off := 4) (t := 56) (pc' := 55) (r := []) (by decide +kernel) rfl (by decide +kernel) rfl (fun q => ?_) (fun q => ?_)
  · replace w := w.1 q
    refine ab_fin.s2 (i := .aload_n 0) (k := 1) (pc' := 57) (lv' := [(0, .ref 0), (2, .int l2)]) (st' := [.ref 0]) (by decide +kernel) rfl rfl ?_
    refine ab_fin.q_rA (b := 4) (ix := 44) (ci := 24) (k := 3) (pc' := 60) (by decide +kernel) rfl (c_rA (F2.s s0_0) rfl (rM_3 F2)) rfl ?_
    refine ab_fin.s2 (i := .aload_n 0) (k := 1) (pc' := 61) (lv' := [(0, .ref 0), (2, .int l2)]) (st' := [.ref 0, .ref 4]) (by decide +kernel) rfl rfl ?_
    refine ab_fin.q_rI (x := (τ1.i 0 7)) (ix := 41) (ci := 24) (k := 7) (pc' := 64) (by decide +kernel) rfl (c_rI (F2.s s0_0) rfl) rfl ?_
    obtain ⟨e3, w⟩ := w
    refine ab_fin.q_eA (b := (2481 + 2 * ((τ1.i 0 7).toNatClampNeg))) (pc' := 65) (by decide +kernel) (c_eA' (F2.s s0_4) (by decide) rfl e3 rfl (rE_7 F2 s0_4)) rfl ?_
    refine ab_fin.s2 (i := .aload_n 0) (k := 1) (pc' := 66) (lv' := [(0, .ref 0), (2, .int l2)]) (st' := [.ref 0, .ref (2481 + 2 * ((τ1.i 0 7).toNatClampNeg))]) (by decide +kernel) rfl rfl ?_
    refine ab_fin.q_rA (b := 37) (ix := 1) (ci := 24) (k := 14) (pc' := 69) (by decide +kernel) rfl (c_rA (F2.s s0_0) rfl (rM_14 F2)) rfl ?_
    refine ab_fin.s2 (i := .iload_n 2) (k := 1) (pc' := 70) (lv' := [(0, .ref 0), (2, .int l2)]) (st' := [.int l2, .ref 37, .ref (2481 + 2 * ((τ1.i 0 7).toNatClampNeg))]) (by decide +kernel) rfl rfl ?_
    refine ab_fin.s1i (i := .iconst 5) (k := 1) (pc' := 71) (n := 5) (by decide +kernel) rfl (by decide +kernel) rfl ?_
    refine ab_fin.s1 (i := .ishr) (k := 1) (pc' := 72) (st' := [.int (l2 >>> ((5 : Int32) &&& 31)), .ref 37, .ref (2481 + 2 * ((τ1.i 0 7).toNatClampNeg))]) (by decide +kernel) rfl rfl ?_
    refine ab_fin.s2 (i := .iload_n 2) (k := 1) (pc' := 73) (lv' := [(0, .ref 0), (2, .int l2)]) (st' := [.int l2, .int (l2 >>> ((5 : Int32) &&& 31)), .ref 37, .ref (2481 + 2 * ((τ1.i 0 7).toNatClampNeg))]) (by decide +kernel) rfl rfl ?_
    refine ab_fin.s1i (i := .bipush 31) (k := 2) (pc' := 75) (n := 31) (by decide +kernel) rfl (by decide +kernel) rfl ?_
    refine ab_fin.s1 (i := .iand) (k := 1) (pc' := 76) (st' := [.int (l2 &&& (31 : Int32)), .int (l2 >>> ((5 : Int32) &&& 31)), .ref 37, .ref (2481 + 2 * ((τ1.i 0 7).toNatClampNeg))]) (by decide +kernel) rfl rfl ?_
    refine ab_fin.q_yN (i := .invokevirtual 286) (k := 3) (y := 4865) (As := [.ref (2481 + 2 * ((τ1.i 0 7).toNatClampNeg)), .ref 37, .int (l2 >>> ((5 : Int32) &&& 31)), .int (l2 &&& (31 : Int32))]) (rest := []) (M' := (mX19_be, [])) (lv2 := [(0, .ref (2481 + 2 * ((τ1.i 0 7).toNatClampNeg))), (1, .ref 37), (2, .int (l2 >>> ((5 : Int32) &&& 31))), (3, .int (l2 &&& (31 : Int32)))]) (pc' := 79) (X := K) (by decide +kernel) (ab_cv rfl rfl (conc_get (σ := τ1) (F2.s (kE_4 e3.2))) ⟨(Nat.le_of_ble_eq_true rfl), (Nat.le_of_ble_eq_true rfl)⟩ rfl) rfl (Nat.le_of_ble_eq_true rfl) rfl rfl (hY_no fun E => rfl) w (fun τ4 F5 w => ?_)
    refine ab_fin.s2 (i := .aload_n 0) (k := 1) (pc' := 80) (lv' := [(0, .ref 0), (2, .int l2)]) (st' := [.ref 0]) (by decide +kernel) rfl rfl ?_
    refine ab_fin.s1 (i := .dup) (k := 1) (pc' := 81) (st' := [.ref 0, .ref 0]) (by decide +kernel) rfl rfl ?_
    refine ab_fin.q_rI (x := (τ4.i 0 7)) (ix := 41) (ci := 24) (k := 7) (pc' := 84) (by decide +kernel) rfl (c_rI (F5.s s0_0) rfl) rfl ?_
    refine ab_fin.s1i (i := .iconst 1) (k := 1) (pc' := 85) (n := 1) (by decide +kernel) rfl (by decide +kernel) rfl ?_
    refine ab_fin.s1 (i := .iadd) (k := 1) (pc' := 86) (st' := [.int ((τ4.i 0 7) + (1 : Int32)), .ref 0]) (by decide +kernel) rfl rfl ?_
    refine ab_fin.q_pF (ix := 41) (ci := 24) (k := 7) (h1 := conc (τ4.wi 0 7 ((τ4.i 0 7) + (1 : Int32)))) (pc' := 89) (by decide +kernel) rfl (c_pI (v := ((τ4.i 0 7) + (1 : Int32))) (F5.s s0_0) rfl) rfl rfl rfl ?_
    exact ab_fin.q_ret (i := .return_) (k := 1) (v := none) (by decide +kernel) rfl F5 w
  · replace w := w.2 (Decidable.of_not_not q)
    exact ab_fin.q_ret (i := .return_) (k := 1) (v := none) (by decide +kernel) rfl F2 w
theorem S_X23_method_0 {Z : zT} {d : Nat} {σ : Sg}  {K : kS} (F : FX ΦR σ.sh σ.r) (w : B_X23_name_0 Z d σ  (yI K fun v3 τ1 => B_X23_callNamed_0 Z d τ1 v3 (yI K fun v6 τ4 => (0 ≤ v6 → B_X23_method_29 Z (d + 1) τ4 (σ.i 0 18) (σ.i 0 27) v6 K) ∧ (¬ 0 ≤ v6 → B_X23_breaks_0 Z d τ4 3 (σ.i 0 18) (yN K fun τ7 => B_X23_method_29 Z (d + 1) τ7 (σ.i 0 18) (σ.i 0 27) v6 K))))) : B_X23_method_0 Z (d + 1) σ  K := by
  unfold B_X23_method_0
  refine ab_fin.s2 (i := .aload_n 0) (k := 1) (pc' := 1) (lv' := [(0, .ref 0)]) (st' := [.ref 0]) (by decide +kernel) rfl rfl ?_
  refine ab_fin.q_rI (x := (σ.i 0 18)) (ix := 106) (ci := 24) (k := 18) (pc' := 4) (by decide +kernel) rfl (c_rI (F.s s0_0) rfl) rfl ?_
  refine ab_fin.s2 (i := .istore_n 1) (k := 1) (pc' := 5) (lv' := [(1, .int (σ.i 0 18)), (0, .ref 0)]) (st' := []) (by decide +kernel) rfl rfl ?_
  refine ab_fin.s2 (i := .aload_n 0) (k := 1) (pc' := 6) (lv' := [(1, .int (σ.i 0 18)), (0, .ref 0)]) (st' := [.ref 0]) (by decide +kernel) rfl rfl ?_
  refine ab_fin.q_rI (x := (σ.i 0 27)) (ix := 244) (ci := 24) (k := 27) (pc' := 9) (by decide +kernel) rfl (c_rI (F.s s0_0) rfl) rfl ?_
  refine ab_fin.s2 (i := .istore_n 2) (k := 1) (pc' := 10) (lv' := [(2, .int (σ.i 0 27)), (1, .int (σ.i 0 18)), (0, .ref 0)]) (st' := []) (by decide +kernel) rfl rfl ?_
  refine ab_fin.s2 (i := .aload_n 0) (k := 1) (pc' := 11) (lv' := [(2, .int (σ.i 0 27)), (1, .int (σ.i 0 18)), (0, .ref 0)]) (st' := [.ref 0]) (by decide +kernel) rfl rfl ?_
  refine ab_fin.s2 (i := .aload_n 0) (k := 1) (pc' := 12) (lv' := [(2, .int (σ.i 0 27)), (1, .int (σ.i 0 18)), (0, .ref 0)]) (st' := [.ref 0, .ref 0]) (by decide +kernel) rfl rfl ?_
  refine ab_fin.q_yI (i := .invokevirtual 277) (k := 3) (y := 5909) (As := [.ref 0]) (rest := [.ref 0]) (M' := (mX23_name, [])) (lv2 := [(0, .ref 0)]) (pc' := 15) (X := K) (by decide +kernel) (ab_cv rfl rfl (conc_get (σ := σ) (F.s s0_0)) ⟨(Nat.le_of_ble_eq_true rfl), (Nat.le_of_ble_eq_true rfl)⟩ rfl) rfl (Nat.le_of_ble_eq_true rfl) rfl rfl (hY_no fun E => rfl) w (fun v3 τ1 F2 w => ?_)
  refine ab_fin.q_yI (i := .invokevirtual 52) (k := 3) (y := 5891) (As := [.ref 0, .int v3]) (rest := []) (M' := (mX23_callNamed, [])) (lv2 := [(0, .ref 0), (1, .int v3)]) (pc' := 18) (X := K) (by decide +kernel) (ab_cv rfl rfl (conc_get (σ := τ1) (F2.s s0_0)) ⟨(Nat.le_of_ble_eq_true rfl), (Nat.le_of_ble_eq_true rfl)⟩ rfl) rfl (Nat.le_of_ble_eq_true rfl) rfl rfl (hY_no fun E => rfl) w (fun v6 τ4 F5 w => ?_)
  refine ab_fin.s2 (i := .istore_n 3) (k := 1) (pc' := 19) (lv' := [(3, .int v6), (2, .int (σ.i 0 27)), (1, .int (σ.i 0 18)), (0, .ref 0)]) (st' := []) (by decide +kernel) rfl rfl ?_
  refine ab_fin.s2 (i := .iload_n 3) (k := 1) (pc' := 20) (lv' := [(3, .int v6), (2, .int (σ.i 0 27)), (1, .int (σ.i 0 18)), (0, .ref 0)]) (st' := [.int v6]) (by decide +kernel) rfl rfl ?_
  refine ab_fin.br (c := 0 ≤ v6) (i := .ifCond .ge 9) (off := 9) (t := 29) (pc' := 23) (r := []) (by decide +kernel) rfl (by decide +kernel) rfl (fun q => ?_) (fun q => ?_)
  · replace w := w.1 q
    exact ab_fin.lv ⟨(List.forall_mem_cons.mpr ⟨(List.Mem.tail _ (List.Mem.tail _ (List.Mem.tail _ (List.Mem.head _)))), (List.forall_mem_cons.mpr ⟨(List.Mem.tail _ (List.Mem.tail _ (List.Mem.head _))), (List.forall_mem_cons.mpr ⟨(List.Mem.tail _ (List.Mem.head _)), (List.forall_mem_cons.mpr ⟨(List.Mem.head _), (fun _ h => absurd h List.not_mem_nil)⟩)⟩)⟩)⟩), (show ([3, 2, 1, 0] : List Nat).Nodup from by decide)⟩ w
  · replace w := w.2 q
    refine ab_fin.s2 (i := .aload_n 0) (k := 1) (pc' := 24) (lv' := [(3, .int v6), (2, .int (σ.i 0 27)), (1, .int (σ.i 0 18)), (0, .ref 0)]) (st' := [.ref 0]) (by decide +kernel) rfl rfl ?_
    refine ab_fin.s1i (i := .iconst 3) (k := 1) (pc' := 25) (n := 3) (by decide +kernel) rfl (by decide +kernel) rfl ?_
    refine ab_fin.s2 (i := .iload_n 1) (k := 1) (pc' := 26) (lv' := [(3, .int v6), (2, .int (σ.i 0 27)), (1, .int (σ.i 0 18)), (0, .ref 0)]) (st' := [.int (σ.i 0 18), .int 3, .ref 0]) (by decide +kernel) rfl rfl ?_
    refine ab_fin.q_yN (i := .invokevirtual 259) (k := 3) (y := 5910) (As := [.ref 0, .int 3, .int (σ.i 0 18)]) (rest := []) (M' := (mX23_breaks, [])) (lv2 := [(0, .ref 0), (1, .int 3), (2, .int (σ.i 0 18))]) (pc' := 29) (X := K) (by decide +kernel) (ab_cv rfl rfl (conc_get (σ := τ4) (F5.s s0_0)) ⟨(Nat.le_of_ble_eq_true rfl), (Nat.le_of_ble_eq_true rfl)⟩ rfl) rfl (Nat.le_of_ble_eq_true rfl) rfl rfl (hY_no fun E => rfl) w (fun τ7 F8 w => ?_)
    exact ab_fin.lv ⟨(List.forall_mem_cons.mpr ⟨(List.Mem.tail _ (List.Mem.tail _ (List.Mem.tail _ (List.Mem.head _)))), (List.forall_mem_cons.mpr ⟨(List.Mem.tail _ (List.Mem.tail _ (List.Mem.head _))), (List.forall_mem_cons.mpr ⟨(List.Mem.tail _ (List.Mem.head _)), (List.forall_mem_cons.mpr ⟨(List.Mem.head _), (fun _ h => absurd h List.not_mem_nil)⟩)⟩)⟩)⟩), (show ([3, 2, 1, 0] : List Nat).Nodup from by decide)⟩ w
theorem S_X23_method_29 {Z : zT} {d : Nat} {σ : Sg} {l1 : Int32} {l2 : Int32} {l3 : Int32} {K : kS} (F : FX ΦR σ.sh σ.r) (w : (¬ (σ.i 0 6) = 120 → B_X23_method_45 Z (d + 1) σ l1 l2 l3 K) ∧ ((σ.i 0 6) = 120 → B_X23_breaks_0 Z d σ 7 l1 (yN K fun τ1 => B_X23_method_45 Z (d + 1) τ1 l1 l2 l3 K))) : B_X23_method_29 Z (d + 1) σ l1 l2 l3 K := by
  unfold B_X23_method_29
  refine ab_fin.s2 (i := .aload_n 0) (k := 1) (pc' := 30) (lv' := [(0, .ref 0), (1, .int l1), (2, .int l2), (3, .int l3)]) (st' := [.ref 0]) (by decide +kernel) rfl rfl ?_
  refine ab_fin.q_rI (x := (σ.i 0 6)) (ix := 312) (ci := 24) (k := 6) (pc' := 33) (by decide +kernel) rfl (c_rI (F.s s0_0) rfl) rfl ?_
  refine ab_fin.s1i (i := .bipush 120) (k := 2) (pc' := 35) (n := 120) (by decide +kernel) rfl (by decide +kernel) rfl ?_
  refine ab_fin.br (c := ¬ (σ.i 0 6) = 120) (i := .if_icmp .ne 10) (off := 10) (t := 45) (pc' := 38) (r := []) (by decide +kernel) rfl (by decide +kernel) rfl (fun q => ?_) (fun q => ?_)
  · replace w := w.1 q
    exact ab_fin.lv ⟨(List.forall_mem_cons.mpr ⟨(List.Mem.head _), (List.forall_mem_cons.mpr ⟨(List.Mem.tail _ (List.Mem.head _)), (List.forall_mem_cons.mpr ⟨(List.Mem.tail _ (List.Mem.tail _ (List.Mem.head _))), (List.forall_mem_cons.mpr ⟨(List.Mem.tail _ (List.Mem.tail _ (List.Mem.tail _ (List.Mem.head _)))), (fun _ h => absurd h List.not_mem_nil)⟩)⟩)⟩)⟩), (show ([0, 1, 2, 3] : List Nat).Nodup from by decide)⟩ w
  · replace w := w.2 (Decidable.of_not_not q)
    refine ab_fin.s2 (i := .aload_n 0) (k := 1) (pc' := 39) (lv' := [(0, .ref 0), (1, .int l1), (2, .int l2), (3, .int l3)]) (st' := [.ref 0]) (by decide +kernel) rfl rfl ?_
    refine ab_fin.s1i (i := .bipush 7) (k := 2) (pc' := 41) (n := 7) (by decide +kernel) rfl (by decide +kernel) rfl ?_
    refine ab_fin.s2 (i := .iload_n 1) (k := 1) (pc' := 42) (lv' := [(0, .ref 0), (1, .int l1), (2, .int l2), (3, .int l3)]) (st' := [.int l1, .int 7, .ref 0]) (by decide +kernel) rfl rfl ?_
    refine ab_fin.q_yN (i := .invokevirtual 259) (k := 3) (y := 5910) (As := [.ref 0, .int 7, .int l1]) (rest := []) (M' := (mX23_breaks, [])) (lv2 := [(0, .ref 0), (1, .int 7), (2, .int l1)]) (pc' := 45) (X := K) (by decide +kernel) (ab_cv rfl rfl (conc_get (σ := σ) (F.s s0_0)) ⟨(Nat.le_of_ble_eq_true rfl), (Nat.le_of_ble_eq_true rfl)⟩ rfl) rfl (Nat.le_of_ble_eq_true rfl) rfl rfl (hY_no fun E => rfl) w (fun τ1 F2 w => ?_)
    exact ab_fin.lv ⟨(List.forall_mem_cons.mpr ⟨(List.Mem.head _), (List.forall_mem_cons.mpr ⟨(List.Mem.tail _ (List.Mem.head _)), (List.forall_mem_cons.mpr ⟨(List.Mem.tail _ (List.Mem.tail _ (List.Mem.head _))), (List.forall_mem_cons.mpr ⟨(List.Mem.tail _ (List.Mem.tail _ (List.Mem.tail _ (List.Mem.head _)))), (fun _ h => absurd h List.not_mem_nil)⟩)⟩)⟩)⟩), (show ([0, 1, 2, 3] : List Nat).Nodup from by decide)⟩ w
theorem S_X23_method_45 {Z : zT} {d : Nat} {σ : Sg} {l1 : Int32} {l2 : Int32} {l3 : Int32} {K : kS} (F : FX ΦR σ.sh σ.r) (w : (120 ≤ (σ.i 0 6) → B_X23_method_72 Z (d + 1) σ l1 l2 l3 50 K) ∧ (¬ 120 ≤ (σ.i 0 6) → ib ((σ.i 0 6) + (1 : Int32)) 121 ∧ (B_X23_method_72 Z (d + 1) σ l1 l2 l3 (2497 + 4 * (((σ.i 0 6) + (1 : Int32)).toNatClampNeg)) K))) : B_X23_method_45 Z (d + 1) σ l1 l2 l3 K := by
  unfold B_X23_method_45
  refine ab_fin.s2 (i := .aload_n 0) (k := 1) (pc' := 46) (lv' := [(0, .ref 0), (1, .int l1), (2, .int l2), (3, .int l3)]) (st' := [.ref 0]) (by decide +kernel) rfl rfl ?_
  refine ab_fin.q_rI (x := (σ.i 0 6)) (ix := 312) (ci := 24) (k := 6) (pc' := 49) (by decide +kernel) rfl (c_rI (F.s s0_0) rfl) rfl ?_
  refine ab_fin.s1i (i := .bipush 120) (k := 2) (pc' := 51) (n := 120) (by decide +kernel) rfl (by decide +kernel) rfl ?_
  refine ab_fin.br (c := 120 ≤ (σ.i 0 6)) (i := .if_icmp .ge 17) (off := 17) (t := 68) (pc' := 54) (r := []) (by decide +kernel) rfl (by decide +kernel) rfl (fun q => ?_) (fun q => ?_)
  · replace w := w.1 q
    refine ab_fin.s2 (i := .aload_n 0) (k := 1) (pc' := 69) (lv' := [(0, .ref 0), (1, .int l1), (2, .int l2), (3, .int l3)]) (st' := [.ref 0]) (by decide +kernel) rfl rfl ?_
    refine ab_fin.q_rA (b := 50) (ix := 319) (ci := 24) (k := 30) (pc' := 72) (by decide +kernel) rfl (c_rA (F.s s0_0) rfl (rM_30 F)) rfl ?_
    exact ab_fin.lv ⟨(List.forall_mem_cons.mpr ⟨(List.Mem.head _), (List.forall_mem_cons.mpr ⟨(List.Mem.tail _ (List.Mem.head _)), (List.forall_mem_cons.mpr ⟨(List.Mem.tail _ (List.Mem.tail _ (List.Mem.head _))), (List.forall_mem_cons.mpr ⟨(List.Mem.tail _ (List.Mem.tail _ (List.Mem.tail _ (List.Mem.head _)))), (fun _ h => absurd h List.not_mem_nil)⟩)⟩)⟩)⟩), (show ([0, 1, 2, 3] : List Nat).Nodup from by decide)⟩ w
  · replace w := w.2 q
    refine ab_fin.s2 (i := .aload_n 0) (k := 1) (pc' := 55) (lv' := [(0, .ref 0), (1, .int l1), (2, .int l2), (3, .int l3)]) (st' := [.ref 0]) (by decide +kernel) rfl rfl ?_
    refine ab_fin.q_rA (b := 3) (ix := 315) (ci := 24) (k := 2) (pc' := 58) (by decide +kernel) rfl (c_rA (F.s s0_0) rfl (rM_2 F)) rfl ?_
    refine ab_fin.s2 (i := .aload_n 0) (k := 1) (pc' := 59) (lv' := [(0, .ref 0), (1, .int l1), (2, .int l2), (3, .int l3)]) (st' := [.ref 0, .ref 3]) (by decide +kernel) rfl rfl ?_
    refine ab_fin.q_rI (x := (σ.i 0 6)) (ix := 312) (ci := 24) (k := 6) (pc' := 62) (by decide +kernel) rfl (c_rI (F.s s0_0) rfl) rfl ?_
    refine ab_fin.s1i (i := .iconst 1) (k := 1) (pc' := 63) (n := 1) (by decide +kernel) rfl (by decide +kernel) rfl ?_
    refine ab_fin.s1 (i := .iadd) (k := 1) (pc' := 64) (st' := [.int ((σ.i 0 6) + (1 : Int32)), .ref 3]) (by decide +kernel) rfl rfl ?_
    obtain ⟨e1, w⟩ := w
    refine ab_fin.q_eA (b := (2497 + 4 * (((σ.i 0 6) + (1 : Int32)).toNatClampNeg))) (pc' := 65) (by decide +kernel) (c_eA' (F.s s0_3) (by decide) rfl e1 rfl (rE_6 F s0_3 (by decide))) rfl ?_
    refine ab_fin.s3 (i := .goto 7) (k := 3) (t := 72) (st' := [.ref (2497 + 4 * (((σ.i 0 6) + (1 : Int32)).toNatClampNeg))]) (by decide +kernel) (ab_gto (by decide +kernel)) ?_
    exact ab_fin.lv ⟨(List.forall_mem_cons.mpr ⟨(List.Mem.head _), (List.forall_mem_cons.mpr ⟨(List.Mem.tail _ (List.Mem.head _)), (List.forall_mem_cons.mpr ⟨(List.Mem.tail _ (List.Mem.tail _ (List.Mem.head _))), (List.forall_mem_cons.mpr ⟨(List.Mem.tail _ (List.Mem.tail _ (List.Mem.tail _ (List.Mem.head _)))), (fun _ h => absurd h List.not_mem_nil)⟩)⟩)⟩)⟩), (show ([0, 1, 2, 3] : List Nat).Nodup from by decide)⟩ w
theorem S_X23_method_72 {Z : zT} {d : Nat} {σ : Sg} {l1 : Int32} {l2 : Int32} {l3 : Int32} {s0 : Nat} {K : kS} (F : FX ΦR σ.sh σ.r) (p_s0 : sh0R[s0]? = some (Sh.obj 19)) (w : B_X23_want_0 Z d ((((((σ.wi s0 0 l3).wi s0 3 (((σ.wi s0 0 l3).i 0 6) + (1 : Int32))).wi s0 10 (0 : Int32)).wi s0 2 (-1 : Int32)).wr s0 8 Rf.nul).wi 0 32 (0 : Int32)) 40 (yN K fun τ2 => (0 ≤ l3 → ib l3 24 ∧ (B_X23_method_140 Z (d + 1) τ2 l1 l2 l3 s0 s0 (τ2.i (2409 + 3 * l3.toNatClampNeg) 1) K)) ∧ (¬ 0 ≤ l3 → B_X23_method_140 Z (d + 1) τ2 l1 l2 l3 s0 s0 0 K))) : B_X23_method_72 Z (d + 1) σ l1 l2 l3 s0 K := by
  unfold B_X23_method_72
  refine ab_fin.s2 (i := .astore 4) (k := 2) (pc' := 74) (lv' := [(4, .ref s0), (0, .ref 0), (1, .int l1), (2, .int l2), (3, .int l3)]) (st' := []) (by decide +kernel) rfl rfl ?_
  refine ab_fin.s2 (i := .aload 4) (k := 2) (pc' := 76) (lv' := [(4, .ref s0), (0, .ref 0), (1, .int l1), (2, .int l2), (3, .int l3)]) (st' := [.ref s0]) (by decide +kernel) rfl rfl ?_
  refine ab_fin.s2 (i := .iload_n 3) (k := 1) (pc' := 77) (lv' := [(4, .ref s0), (0, .ref 0), (1, .int l1), (2, .int l2), (3, .int l3)]) (st' := [.int l3, .ref s0]) (by decide +kernel) rfl rfl ?_
  refine ab_fin.q_pF (ix := 323) (ci := 19) (k := 0) (h1 := conc (σ.wi s0 0 l3)) (pc' := 80) (by decide +kernel) rfl (c_pI (v := l3) (F.s p_s0) rfl) rfl rfl rfl ?_
  refine ab_fin.s2 (i := .aload 4) (k := 2) (pc' := 82) (lv' := [(4, .ref s0), (0, .ref 0), (1, .int l1), (2, .int l2), (3, .int l3)]) (st' := [.ref s0]) (by decide +kernel) rfl rfl ?_
  refine ab_fin.s2 (i := .aload_n 0) (k := 1) (pc' := 83) (lv' := [(4, .ref s0), (0, .ref 0), (1, .int l1), (2, .int l2), (3, .int l3)]) (st' := [.ref 0, .ref s0]) (by decide +kernel) rfl rfl ?_
  refine ab_fin.q_rI (x := ((σ.wi s0 0 l3).i 0 6)) (ix := 312) (ci := 24) (k := 6) (pc' := 86) (by decide +kernel) rfl (c_rI (F.s s0_0) rfl) rfl ?_
  refine ab_fin.s1i (i := .iconst 1) (k := 1) (pc' := 87) (n := 1) (by decide +kernel) rfl (by decide +kernel) rfl ?_
  refine ab_fin.s1 (i := .iadd) (k := 1) (pc' := 88) (st' := [.int (((σ.wi s0 0 l3).i 0 6) + (1 : Int32)), .ref s0]) (by decide +kernel) rfl rfl ?_
  refine ab_fin.q_pF (ix := 327) (ci := 19) (k := 3) (h1 := conc ((σ.wi s0 0 l3).wi s0 3 (((σ.wi s0 0 l3).i 0 6) + (1 : Int32)))) (pc' := 91) (by decide +kernel) rfl (c_pI (v := (((σ.wi s0 0 l3).i 0 6) + (1 : Int32))) (F.s p_s0) rfl) rfl rfl rfl ?_
  refine ab_fin.s2 (i := .aload 4) (k := 2) (pc' := 93) (lv' := [(4, .ref s0), (0, .ref 0), (1, .int l1), (2, .int l2), (3, .int l3)]) (st' := [.ref s0]) (by decide +kernel) rfl rfl ?_
  refine ab_fin.s1i (i := .iconst 0) (k := 1) (pc' := 94) (n := 0) (by decide +kernel) rfl (by decide +kernel) rfl ?_
  refine ab_fin.q_pF (ix := 330) (ci := 19) (k := 10) (h1 := conc (((σ.wi s0 0 l3).wi s0 3 (((σ.wi s0 0 l3).i 0 6) + (1 : Int32))).wi s0 10 (0 : Int32))) (pc' := 97) (by decide +kernel) rfl (c_pI (v := 0) (F.s p_s0) rfl) rfl rfl rfl ?_
  refine ab_fin.s2 (i := .aload 4) (k := 2) (pc' := 99) (lv' := [(4, .ref s0), (0, .ref 0), (1, .int l1), (2, .int l2), (3, .int l3)]) (st' := [.ref s0]) (by decide +kernel) rfl rfl ?_
  refine ab_fin.s1i (i := .iconst (-1)) (k := 1) (pc' := 100) (n := (-1)) (by decide +kernel) rfl (by decide +kernel) rfl ?_
  refine ab_fin.q_pF (ix := 333) (ci := 19) (k := 2) (h1 := conc ((((σ.wi s0 0 l3).wi s0 3 (((σ.wi s0 0 l3).i 0 6) + (1 : Int32))).wi s0 10 (0 : Int32)).wi s0 2 (-1 : Int32))) (pc' := 103) (by decide +kernel) rfl (c_pI (v := (-1)) (F.s p_s0) rfl) rfl rfl rfl ?_
  refine ab_fin.s2 (i := .aload 4) (k := 2) (pc' := 105) (lv' := [(4, .ref s0), (0, .ref 0), (1, .int l1), (2, .int l2), (3, .int l3)]) (st' := [.ref s0]) (by decide +kernel) rfl rfl ?_
  refine ab_fin.s1 (i := .aconst_null) (k := 1) (pc' := 106) (st' := [.null, .ref s0]) (by decide +kernel) rfl rfl ?_
  have F1 := FX.w (Φ := ΦR) (a := s0) (k := 8) (v := Rf.nul) F (cO_19_8 p_s0)
  refine ab_fin.q_pF (ix := 335) (ci := 19) (k := 8) (h1 := conc (((((σ.wi s0 0 l3).wi s0 3 (((σ.wi s0 0 l3).i 0 6) + (1 : Int32))).wi s0 10 (0 : Int32)).wi s0 2 (-1 : Int32)).wr s0 8 Rf.nul)) (pc' := 109) (by decide +kernel) rfl (c_pR (v := Rf.nul) (F.s p_s0) rfl) rfl rfl rfl ?_
  refine ab_fin.s2 (i := .aload_n 0) (k := 1) (pc' := 110) (lv' := [(4, .ref s0), (0, .ref 0), (1, .int l1), (2, .int l2), (3, .int l3)]) (st' := [.ref 0]) (by decide +kernel) rfl rfl ?_
  refine ab_fin.s1i (i := .iconst 0) (k := 1) (pc' := 111) (n := 0) (by decide +kernel) rfl (by decide +kernel) rfl ?_
  refine ab_fin.q_pF (ix := 339) (ci := 24) (k := 32) (h1 := conc ((((((σ.wi s0 0 l3).wi s0 3 (((σ.wi s0 0 l3).i 0 6) + (1 : Int32))).wi s0 10 (0 : Int32)).wi s0 2 (-1 : Int32)).wr s0 8 Rf.nul).wi 0 32 (0 : Int32))) (pc' := 114) (by decide +kernel) rfl (c_pI (v := 0) (F1.s s0_0) rfl) rfl rfl rfl ?_
  refine ab_fin.s2 (i := .aload_n 0) (k := 1) (pc' := 115) (lv' := [(4, .ref s0), (0, .ref 0), (1, .int l1), (2, .int l2), (3, .int l3)]) (st' := [.ref 0]) (by decide +kernel) rfl rfl ?_
  refine ab_fin.s1i (i := .bipush 40) (k := 2) (pc' := 117) (n := 40) (by decide +kernel) rfl (by decide +kernel) rfl ?_
  refine ab_fin.q_yN (i := .invokevirtual 293) (k := 3) (y := 5906) (As := [.ref 0, .int 40]) (rest := []) (M' := (mX23_want, [])) (lv2 := [(0, .ref 0), (1, .int 40)]) (pc' := 120) (X := K) (by decide +kernel) (ab_cv rfl rfl (conc_get (σ := ((((((σ.wi s0 0 l3).wi s0 3 (((σ.wi s0 0 l3).i 0 6) + (1 : Int32))).wi s0 10 (0 : Int32)).wi s0 2 (-1 : Int32)).wr s0 8 Rf.nul).wi 0 32 (0 : Int32))) (F1.s s0_0)) ⟨(Nat.le_of_ble_eq_true rfl), (Nat.le_of_ble_eq_true rfl)⟩ rfl) rfl (Nat.le_of_ble_eq_true rfl) rfl rfl (hY_no fun E => rfl) w (fun τ2 F3 w => ?_)
  refine ab_fin.s2 (i := .aload_n 0) (k := 1) (pc' := 121) (lv' := [(4, .ref s0), (0, .ref 0), (1, .int l1), (2, .int l2), (3, .int l3)]) (st' := [.ref 0]) (by decide +kernel) rfl rfl ?_
  refine ab_fin.s2 (i := .aload 4) (k := 2) (pc' := 123) (lv' := [(4, .ref s0), (0, .ref 0), (1, .int l1), (2, .int l2), (3, .int l3)]) (st' := [.ref s0, .ref 0]) (by decide +kernel) rfl rfl ?_
  refine ab_fin.s2 (i := .iload_n 3) (k := 1) (pc' := 124) (lv' := [(4, .ref s0), (0, .ref 0), (1, .int l1), (2, .int l2), (3, .int l3)]) (st' := [.int l3, .ref s0, .ref 0]) (by decide +kernel) rfl rfl ?_
  refine ab_fin.br (c := 0 ≤ l3) (i := .ifCond .ge 7) (off := 7) (t := 131) (pc' := 127) (r := [.ref s0, .ref 0]) (by decide +kernel) rfl (by decide +kernel) rfl (fun q => ?_) (fun q => ?_)
  · replace w := w.1 q
    refine ab_fin.s2 (i := .aload_n 0) (k := 1) (pc' := 132) (lv' := [(4, .ref s0), (0, .ref 0), (1, .int l1), (2, .int l2), (3, .int l3)]) (st' := [.ref 0, .ref s0, .ref 0]) (by decide +kernel) rfl rfl ?_
    refine ab_fin.q_rA (b := 2) (ix := 34) (ci := 24) (k := 1) (pc' := 135) (by decide +kernel) rfl (c_rA (F3.s s0_0) rfl (rM_1 F3)) rfl ?_
    refine ab_fin.s2 (i := .iload_n 3) (k := 1) (pc' := 136) (lv' := [(4, .ref s0), (0, .ref 0), (1, .int l1), (2, .int l2), (3, .int l3)]) (st' := [.int l3, .ref 2, .ref s0, .ref 0]) (by decide +kernel) rfl rfl ?_
    obtain ⟨e4, w⟩ := w
    refine ab_fin.q_eA (b := (2409 + 3 * l3.toNatClampNeg)) (pc' := 137) (by decide +kernel) (c_eA' (F3.s s0_2) (by decide) rfl e4 rfl (rE_5 F3 s0_2)) rfl ?_
    refine ab_fin.q_rI (x := (τ2.i (2409 + 3 * l3.toNatClampNeg) 1)) (ix := 303) (ci := 14) (k := 1) (pc' := 140) (by decide +kernel) rfl (c_rI (F3.s (kE_2 e4.2)) rfl) rfl ?_
    exact ab_fin.lv ⟨(List.forall_mem_cons.mpr ⟨(List.Mem.tail _ (List.Mem.head _)), (List.forall_mem_cons.mpr ⟨(List.Mem.tail _ (List.Mem.tail _ (List.Mem.head _))), (List.forall_mem_cons.mpr ⟨(List.Mem.tail _ (List.Mem.tail _ (List.Mem.tail _ (List.Mem.head _)))), (List.forall_mem_cons.mpr ⟨(List.Mem.tail _ (List.Mem.tail _ (List.Mem.tail _ (List.Mem.tail _ (List.Mem.head _))))), (List.forall_mem_cons.mpr ⟨(List.Mem.head _), (fun _ h => absurd h List.not_mem_nil)⟩)⟩)⟩)⟩)⟩), (show ([4, 0, 1, 2, 3] : List Nat).Nodup from by decide)⟩ w
  · replace w := w.2 q
    refine ab_fin.s1i (i := .iconst 0) (k := 1) (pc' := 128) (n := 0) (by decide +kernel) rfl (by decide +kernel) rfl ?_
    refine ab_fin.s3 (i := .goto 12) (k := 3) (t := 140) (st' := [.int 0, .ref s0, .ref 0]) (by decide +kernel) (ab_gto (by decide +kernel)) ?_
    exact ab_fin.lv ⟨(List.forall_mem_cons.mpr ⟨(List.Mem.tail _ (List.Mem.head _)), (List.forall_mem_cons.mpr ⟨(List.Mem.tail _ (List.Mem.tail _ (List.Mem.head _))), (List.forall_mem_cons.mpr ⟨(List.Mem.tail _ (List.Mem.tail _ (List.Mem.tail _ (List.Mem.head _)))), (List.forall_mem_cons.mpr ⟨(List.Mem.tail _ (List.Mem.tail _ (List.Mem.tail _ (List.Mem.tail _ (List.Mem.head _))))), (List.forall_mem_cons.mpr ⟨(List.Mem.head _), (fun _ h => absurd h List.not_mem_nil)⟩)⟩)⟩)⟩)⟩), (show ([4, 0, 1, 2, 3] : List Nat).Nodup from by decide)⟩ w
theorem S_X23_method_140 {Z : zT} {d : Nat} {σ : Sg} {l1 : Int32} {l2 : Int32} {l3 : Int32} {l4 : Nat} {s1 : Nat} {s2 : Int32} {K : kS} (F : FX ΦR σ.sh σ.r) (p_l4 : sh0R[l4]? = some (Sh.obj 19)) (p_s1 : sh0R[s1]? = some (Sh.obj 19)) (w : B_X23_specs_0 Z d σ s1 s2 (yN K fun τ1 => B_X23_skip_0 Z d τ1 (Rf.old 118) (yI K fun v5 τ3 => (v5 = 0 → B_X23_skip_0 Z d τ3 (Rf.old 128) (yI K fun v8 τ6 => (v8 = 0 → B_X23_skip_0 Z d τ6 (Rf.old 130) (yI K fun v11 τ9 => (v11 = 0 → B_X23_method_185 Z (d + 1) τ9 l1 l2 l3 l4 l4 0 K) ∧ (¬ v11 = 0 → B_X23_method_185 Z (d + 1) τ9 l1 l2 l3 l4 l4 3 K))) ∧ (¬ v8 = 0 → B_X23_method_185 Z (d + 1) τ6 l1 l2 l3 l4 l4 2 K))) ∧ (¬ v5 = 0 → B_X23_method_185 Z (d + 1) τ3 l1 l2 l3 l4 l4 1 K)))) : B_X23_method_140 Z (d + 1) σ l1 l2 l3 l4 s1 s2 K := by
  unfold B_X23_method_140
  refine ab_fin.q_yN (i := .invokevirtual 342) (k := 3) (y := 5919) (As := [.ref 0, .ref s1, .int s2]) (rest := []) (M' := (mX23_specs, [])) (lv2 := [(0, .ref 0), (1, .ref s1), (2, .int s2)]) (pc' := 143) (X := K) (by decide +kernel) (ab_cv rfl rfl (conc_get (σ := σ) (F.s s0_0)) ⟨(Nat.le_of_ble_eq_true rfl), (Nat.le_of_ble_eq_true rfl)⟩ rfl) rfl (Nat.le_of_ble_eq_true rfl) rfl rfl (hY_no fun E => rfl) w (fun τ1 F2 w => ?_)
  refine ab_fin.s2 (i := .aload 4) (k := 2) (pc' := 145) (lv' := [(0, .ref 0), (1, .int l1), (2, .int l2), (3, .int l3), (4, .ref l4)]) (st' := [.ref l4]) (by decide +kernel) rfl rfl ?_
  refine ab_fin.s2 (i := .aload_n 0) (k := 1) (pc' := 146) (lv' := [(0, .ref 0), (1, .int l1), (2, .int l2), (3, .int l3), (4, .ref l4)]) (st' := [.ref 0, .ref l4]) (by decide +kernel) rfl rfl ?_
  refine ab_fin.s8 (i := .ldc 108) (k := 2) (pc' := 148) (st' := [.retAddr 118, .ref 0, .ref l4]) (by decide +kernel) rfl rfl rfl rfl ?_
  refine ab_fin.q_yI (i := .invokevirtual 266) (k := 3) (y := 5908) (As := [.ref 0, .retAddr 118]) (rest := [.ref l4]) (M' := (mX23_skip, [])) (lv2 := [(0, .ref 0), (1, .retAddr 118)]) (pc' := 151) (X := K) (by decide +kernel) (ab_cv rfl rfl (conc_get (σ := τ1) (F2.s s0_0)) ⟨(Nat.le_of_ble_eq_true rfl), (Nat.le_of_ble_eq_true rfl)⟩ rfl) rfl (Nat.le_of_ble_eq_true rfl) rfl rfl (hY_no fun E => rfl) w (fun v5 τ3 F4 w => ?_)
  refine ab_fin.br (c := v5 = 0) (i := .ifCond .eq 7) (off := 7) (t := 158) (pc' := 154) (r := [.ref l4]) (by decide +kernel) rfl (by decide +kernel) rfl (fun q => ?_) (fun q => ?_)
  · replace w := w.1 q
    refine ab_fin.s2 (i := .aload_n 0) (k := 1) (pc' := 159) (lv' := [(0, .ref 0), (1, .int l1), (2, .int l2), (3, .int l3), (4, .ref l4)]) (st' := [.ref 0, .ref l4]) (by decide +kernel) rfl rfl ?_
    refine ab_fin.s8 (i := .ldc 122) (k := 2) (pc' := 161) (st' := [.retAddr 128, .ref 0, .ref l4]) (by decide +kernel) rfl rfl rfl rfl ?_
    refine ab_fin.q_yI (i := .invokevirtual 266) (k := 3) (y := 5908) (As := [.ref 0, .retAddr 128]) (rest := [.ref l4]) (M' := (mX23_skip, [])) (lv2 := [(0, .ref 0), (1, .retAddr 128)]) (pc' := 164) (X := K) (by decide +kernel) (ab_cv rfl rfl (conc_get (σ := τ3) (F4.s s0_0)) ⟨(Nat.le_of_ble_eq_true rfl), (Nat.le_of_ble_eq_true rfl)⟩ rfl) rfl (Nat.le_of_ble_eq_true rfl) rfl rfl (hY_no fun E => rfl) w (fun v8 τ6 F7 w => ?_)
    refine ab_fin.br (c := v8 = 0) (i := .ifCond .eq 7) (off := 7) (t := 171) (pc' := 167) (r := [.ref l4]) (by decide +kernel) rfl (by decide +kernel) rfl (fun q => ?_) (fun q => ?_)
    · replace w := w.1 q
      refine ab_fin.s2 (i := .aload_n 0) (k := 1) (pc' := 172) (lv' := [(0, .ref 0), (1, .int l1), (2, .int l2), (3, .int l3), (4, .ref l4)]) (st' := [.ref 0, .ref l4]) (by decide +kernel) rfl rfl ?_
      refine ab_fin.s8 (i := .ldc 124) (k := 2) (pc' := 174) (st' := [.retAddr 130, .ref 0, .ref l4]) (by decide +kernel) rfl rfl rfl rfl ?_
      refine ab_fin.q_yI (i := .invokevirtual 266) (k := 3) (y := 5908) (As := [.ref 0, .retAddr 130]) (rest := [.ref l4]) (M' := (mX23_skip, [])) (lv2 := [(0, .ref 0), (1, .retAddr 130)]) (pc' := 177) (X := K) (by decide +kernel) (ab_cv rfl rfl (conc_get (σ := τ6) (F7.s s0_0)) ⟨(Nat.le_of_ble_eq_true rfl), (Nat.le_of_ble_eq_true rfl)⟩ rfl) rfl (Nat.le_of_ble_eq_true rfl) rfl rfl (hY_no fun E => rfl) w (fun v11 τ9 F10 w => ?_)
      refine ab_fin.br (c := v11 = 0) (i := .ifCond .eq 7) (off := 7) (t := 184) (pc' := 180) (r := [.ref l4]) (by decide +kernel) rfl (by decide +kernel) rfl (fun q => ?_) (fun q => ?_)
      · replace w := w.1 q
        refine ab_fin.s1i (i := .iconst 0) (k := 1) (pc' := 185) (n := 0) (by decide +kernel) rfl (by decide +kernel) rfl ?_
        exact ab_fin.lv ⟨(List.forall_mem_cons.mpr ⟨(List.Mem.head _), (List.forall_mem_cons.mpr ⟨(List.Mem.tail _ (List.Mem.head _)), (List.forall_mem_cons.mpr ⟨(List.Mem.tail _ (List.Mem.tail _ (List.Mem.head _))), (List.forall_mem_cons.mpr ⟨(List.Mem.tail _ (List.Mem.tail _ (List.Mem.tail _ (List.Mem.head _)))), (List.forall_mem_cons.mpr ⟨(List.Mem.tail _ (List.Mem.tail _ (List.Mem.tail _ (List.Mem.tail _ (List.Mem.head _))))), (fun _ h => absurd h List.not_mem_nil)⟩)⟩)⟩)⟩)⟩), (show ([0, 1, 2, 3, 4] : List Nat).Nodup from by decide)⟩ w
      · replace w := w.2 q
        refine ab_fin.s1i (i := .iconst 3) (k := 1) (pc' := 181) (n := 3) (by decide +kernel) rfl (by decide +kernel) rfl ?_
        refine ab_fin.s3 (i := .goto 4) (k := 3) (t := 185) (st' := [.int 3, .ref l4]) (by decide +kernel) (ab_gto (by decide +kernel)) ?_
        exact ab_fin.lv ⟨(List.forall_mem_cons.mpr ⟨(List.Mem.head _), (List.forall_mem_cons.mpr ⟨(List.Mem.tail _ (List.Mem.head _)), (List.forall_mem_cons.mpr ⟨(List.Mem.tail _ (List.Mem.tail _ (List.Mem.head _))), (List.forall_mem_cons.mpr ⟨(List.Mem.tail _ (List.Mem.tail _ (List.Mem.tail _ (List.Mem.head _)))), (List.forall_mem_cons.mpr ⟨(List.Mem.tail _ (List.Mem.tail _ (List.Mem.tail _ (List.Mem.tail _ (List.Mem.head _))))), (fun _ h => absurd h List.not_mem_nil)⟩)⟩)⟩)⟩)⟩), (show ([0, 1, 2, 3, 4] : List Nat).Nodup from by decide)⟩ w
    · replace w := w.2 q
      refine ab_fin.s1i (i := .iconst 2) (k := 1) (pc' := 168) (n := 2) (by decide +kernel) rfl (by decide +kernel) rfl ?_
      refine ab_fin.s3 (i := .goto 17) (k := 3) (t := 185) (st' := [.int 2, .ref l4]) (by decide +kernel) (ab_gto (by decide +kernel)) ?_
      exact ab_fin.lv ⟨(List.forall_mem_cons.mpr ⟨(List.Mem.head _), (List.forall_mem_cons.mpr ⟨(List.Mem.tail _ (List.Mem.head _)), (List.forall_mem_cons.mpr ⟨(List.Mem.tail _ (List.Mem.tail _ (List.Mem.head _))), (List.forall_mem_cons.mpr ⟨(List.Mem.tail _ (List.Mem.tail _ (List.Mem.tail _ (List.Mem.head _)))), (List.forall_mem_cons.mpr ⟨(List.Mem.tail _ (List.Mem.tail _ (List.Mem.tail _ (List.Mem.tail _ (List.Mem.head _))))), (fun _ h => absurd h List.not_mem_nil)⟩)⟩)⟩)⟩)⟩), (show ([0, 1, 2, 3, 4] : List Nat).Nodup from by decide)⟩ w
  · replace w := w.2 q
    refine ab_fin.s1i (i := .iconst 1) (k := 1) (pc' := 155) (n := 1) (by decide +kernel) rfl (by decide +kernel) rfl ?_
    refine ab_fin.s3 (i := .goto 30) (k := 3) (t := 185) (st' := [.int 1, .ref l4]) (by decide +kernel) (ab_gto (by decide +kernel)) ?_
    exact ab_fin.lv ⟨(List.forall_mem_cons.mpr ⟨(List.Mem.head _), (List.forall_mem_cons.mpr ⟨(List.Mem.tail _ (List.Mem.head _)), (List.forall_mem_cons.mpr ⟨(List.Mem.tail _ (List.Mem.tail _ (List.Mem.head _))), (List.forall_mem_cons.mpr ⟨(List.Mem.tail _ (List.Mem.tail _ (List.Mem.tail _ (List.Mem.head _)))), (List.forall_mem_cons.mpr ⟨(List.Mem.tail _ (List.Mem.tail _ (List.Mem.tail _ (List.Mem.tail _ (List.Mem.head _))))), (fun _ h => absurd h List.not_mem_nil)⟩)⟩)⟩)⟩)⟩), (show ([0, 1, 2, 3, 4] : List Nat).Nodup from by decide)⟩ w
theorem S_X23_method_185 {Z : zT} {d : Nat} {σ : Sg} {l1 : Int32} {l2 : Int32} {l3 : Int32} {l4 : Nat} {s0 : Nat} {s1 : Int32} {K : kS} (F : FX ΦR σ.sh σ.r) (p_l4 : sh0R[l4]? = some (Sh.obj 19)) (p_s0 : sh0R[s0]? = some (Sh.obj 19)) (w : B_X23_skip_0 Z d (σ.wi s0 1 s1) (Rf.old 144) (yI K fun v3 τ1 => (v3 = 0 → B_X23_method_231 Z (d + 1) τ1 l1 l2 l3 l4 K) ∧ (¬ v3 = 0 → B_X23_name_0 Z d τ1  (yI K fun v6 τ4 => B_X23_layerNamed_0 Z d τ4 v6 (yI K fun v9 τ7 => (0 ≤ ((τ7.wi l4 2 v9).i l4 2) → B_X23_method_231 Z (d + 1) (τ7.wi l4 2 v9) l1 l2 l3 l4 K) ∧ (¬ 0 ≤ ((τ7.wi l4 2 v9).i l4 2) → B_X23_breaks_0 Z d (τ7.wi l4 2 v9) 3 (τ1.i 0 18) (yN K fun τ10 => B_X23_method_231 Z (d + 1) τ10 l1 l2 l3 l4 K))))))) : B_X23_method_185 Z (d + 1) σ l1 l2 l3 l4 s0 s1 K := by
  unfold B_X23_method_185
  refine ab_fin.q_pF (ix := 346) (ci := 19) (k := 1) (h1 := conc (σ.wi s0 1 s1)) (pc' := 188) (by decide +kernel) rfl (c_pI (v := s1) (F.s p_s0) rfl) rfl rfl rfl ?_
  refine ab_fin.s2 (i := .aload_n 0) (k := 1) (pc' := 189) (lv' := [(0, .ref 0), (1, .int l1), (2, .int l2), (3, .int l3), (4, .ref l4)]) (st' := [.ref 0]) (by decide +kernel) rfl rfl ?_
  refine ab_fin.s8 (i := .ldc 138) (k := 2) (pc' := 191) (st' := [.retAddr 144, .ref 0]) (by decide +kernel) rfl rfl rfl rfl ?_
  refine ab_fin.q_yI (i := .invokevirtual 266) (k := 3) (y := 5908) (As := [.ref 0, .retAddr 144]) (rest := []) (M' := (mX23_skip, [])) (lv2 := [(0, .ref 0), (1, .retAddr 144)]) (pc' := 194) (X := K) (by decide +kernel) (ab_cv rfl rfl (conc_get (σ := (σ.wi s0 1 s1)) (F.s s0_0)) ⟨(Nat.le_of_ble_eq_true rfl), (Nat.le_of_ble_eq_true rfl)⟩ rfl) rfl (Nat.le_of_ble_eq_true rfl) rfl rfl (hY_no fun E => rfl) w (fun v3 τ1 F2 w => ?_)
  refine ab_fin.br (c := v3 = 0) (i := .ifCond .eq 37) (off := 37) (t := 231) (pc' := 197) (r := []) (by decide +kernel) rfl (by decide +kernel) rfl (fun q => ?_) (fun q => ?_)
  · replace w := w.1 q
    exact ab_fin.lv ⟨(List.forall_mem_cons.mpr ⟨(List.Mem.head _), (List.forall_mem_cons.mpr ⟨(List.Mem.tail _ (List.Mem.head _)), (List.forall_mem_cons.mpr ⟨(List.Mem.tail _ (List.Mem.tail _ (List.Mem.head _))), (List.forall_mem_cons.mpr ⟨(List.Mem.tail _ (List.Mem.tail _ (List.Mem.tail _ (List.Mem.head _)))), (List.forall_mem_cons.mpr ⟨(List.Mem.tail _ (List.Mem.tail _ (List.Mem.tail _ (List.Mem.tail _ (List.Mem.head _))))), (fun _ h => absurd h List.not_mem_nil)⟩)⟩)⟩)⟩)⟩), (show ([0, 1, 2, 3, 4] : List Nat).Nodup from by decide)⟩ w
  · replace w := w.2 q
    refine ab_fin.s2 (i := .aload_n 0) (k := 1) (pc' := 198) (lv' := [(0, .ref 0), (1, .int l1), (2, .int l2), (3, .int l3), (4, .ref l4)]) (st' := [.ref 0]) (by decide +kernel) rfl rfl ?_
    refine ab_fin.q_rI (x := (τ1.i 0 18)) (ix := 106) (ci := 24) (k := 18) (pc' := 201) (by decide +kernel) rfl (c_rI (F2.s s0_0) rfl) rfl ?_
    refine ab_fin.s2 (i := .istore 5) (k := 2) (pc' := 203) (lv' := [(5, .int (τ1.i 0 18)), (0, .ref 0), (1, .int l1), (2, .int l2), (3, .int l3), (4, .ref l4)]) (st' := []) (by decide +kernel) rfl rfl ?_
    refine ab_fin.s2 (i := .aload 4) (k := 2) (pc' := 205) (lv' := [(5, .int (τ1.i 0 18)), (0, .ref 0), (1, .int l1), (2, .int l2), (3, .int l3), (4, .ref l4)]) (st' := [.ref l4]) (by decide +kernel) rfl rfl ?_
    refine ab_fin.s2 (i := .aload_n 0) (k := 1) (pc' := 206) (lv' := [(5, .int (τ1.i 0 18)), (0, .ref 0), (1, .int l1), (2, .int l2), (3, .int l3), (4, .ref l4)]) (st' := [.ref 0, .ref l4]) (by decide +kernel) rfl rfl ?_
    refine ab_fin.s2 (i := .aload_n 0) (k := 1) (pc' := 207) (lv' := [(5, .int (τ1.i 0 18)), (0, .ref 0), (1, .int l1), (2, .int l2), (3, .int l3), (4, .ref l4)]) (st' := [.ref 0, .ref 0, .ref l4]) (by decide +kernel) rfl rfl ?_
    refine ab_fin.q_yI (i := .invokevirtual 277) (k := 3) (y := 5909) (As := [.ref 0]) (rest := [.ref 0, .ref l4]) (M' := (mX23_name, [])) (lv2 := [(0, .ref 0)]) (pc' := 210) (X := K) (by decide +kernel) (ab_cv rfl rfl (conc_get (σ := τ1) (F2.s s0_0)) ⟨(Nat.le_of_ble_eq_true rfl), (Nat.le_of_ble_eq_true rfl)⟩ rfl) rfl (Nat.le_of_ble_eq_true rfl) rfl rfl (hY_no fun E => rfl) w (fun v6 τ4 F5 w => ?_)
    refine ab_fin.q_yI (i := .invokevirtual 55) (k := 3) (y := 5892) (As := [.ref 0, .int v6]) (rest := [.ref l4]) (M' := (mX23_layerNamed, [])) (lv2 := [(0, .ref 0), (1, .int v6)]) (pc' := 213) (X := K) (by decide +kernel) (ab_cv rfl rfl (conc_get (σ := τ4) (F5.s s0_0)) ⟨(Nat.le_of_ble_eq_true rfl), (Nat.le_of_ble_eq_true rfl)⟩ rfl) rfl (Nat.le_of_ble_eq_true rfl) rfl rfl (hY_no fun E => rfl) w (fun v9 τ7 F8 w => ?_)
    refine ab_fin.q_pF (ix := 333) (ci := 19) (k := 2) (h1 := conc (τ7.wi l4 2 v9)) (pc' := 216) (by decide +kernel) rfl (c_pI (v := v9) (F8.s p_l4) rfl) rfl rfl rfl ?_
    refine ab_fin.s2 (i := .aload 4) (k := 2) (pc' := 218) (lv' := [(5, .int (τ1.i 0 18)), (0, .ref 0), (1, .int l1), (2, .int l2), (3, .int l3), (4, .ref l4)]) (st' := [.ref l4]) (by decide +kernel) rfl rfl ?_
    refine ab_fin.q_rI (x := ((τ7.wi l4 2 v9).i l4 2)) (ix := 333) (ci := 19) (k := 2) (pc' := 221) (by decide +kernel) rfl (c_rI (F8.s p_l4) rfl) rfl ?_
    refine ab_fin.br (c := 0 ≤ ((τ7.wi l4 2 v9).i l4 2)) (i := .ifCond .ge 10) (off := 10) (t := 231) (pc' := 224) (r := []) (by decide +kernel) rfl (by decide +kernel) rfl (fun q => ?_) (fun q => ?_)
    · replace w := w.1 q
      exact ab_fin.lv ⟨(List.forall_mem_cons.mpr ⟨(List.Mem.tail _ (List.Mem.head _)), (List.forall_mem_cons.mpr ⟨(List.Mem.tail _ (List.Mem.tail _ (List.Mem.head _))), (List.forall_mem_cons.mpr ⟨(List.Mem.tail _ (List.Mem.tail _ (List.Mem.tail _ (List.Mem.head _)))), (List.forall_mem_cons.mpr ⟨(List.Mem.tail _ (List.Mem.tail _ (List.Mem.tail _ (List.Mem.tail _ (List.Mem.head _))))), (List.forall_mem_cons.mpr ⟨(List.Mem.tail _ (List.Mem.tail _ (List.Mem.tail _ (List.Mem.tail _ (List.Mem.tail _ (List.Mem.head _)))))), (fun _ h => absurd h List.not_mem_nil)⟩)⟩)⟩)⟩)⟩), (show ([5, 0, 1, 2, 3, 4] : List Nat).Nodup from by decide)⟩ w
    · replace w := w.2 q
      refine ab_fin.s2 (i := .aload_n 0) (k := 1) (pc' := 225) (lv' := [(5, .int (τ1.i 0 18)), (0, .ref 0), (1, .int l1), (2, .int l2), (3, .int l3), (4, .ref l4)]) (st' := [.ref 0]) (by decide +kernel) rfl rfl ?_
      refine ab_fin.s1i (i := .iconst 3) (k := 1) (pc' := 226) (n := 3) (by decide +kernel) rfl (by decide +kernel) rfl ?_
      refine ab_fin.s2 (i := .iload 5) (k := 2) (pc' := 228) (lv' := [(5, .int (τ1.i 0 18)), (0, .ref 0), (1, .int l1), (2, .int l2), (3, .int l3), (4, .ref l4)]) (st' := [.int (τ1.i 0 18), .int 3, .ref 0]) (by decide +kernel) rfl rfl ?_
      refine ab_fin.q_yN (i := .invokevirtual 259) (k := 3) (y := 5910) (As := [.ref 0, .int 3, .int (τ1.i 0 18)]) (rest := []) (M' := (mX23_breaks, [])) (lv2 := [(0, .ref 0), (1, .int 3), (2, .int (τ1.i 0 18))]) (pc' := 231) (X := K) (by decide +kernel) (ab_cv rfl rfl (conc_get (σ := (τ7.wi l4 2 v9)) (F8.s s0_0)) ⟨(Nat.le_of_ble_eq_true rfl), (Nat.le_of_ble_eq_true rfl)⟩ rfl) rfl (Nat.le_of_ble_eq_true rfl) rfl rfl (hY_no fun E => rfl) w (fun τ10 F11 w => ?_)
      exact ab_fin.lv ⟨(List.forall_mem_cons.mpr ⟨(List.Mem.tail _ (List.Mem.head _)), (List.forall_mem_cons.mpr ⟨(List.Mem.tail _ (List.Mem.tail _ (List.Mem.head _))), (List.forall_mem_cons.mpr ⟨(List.Mem.tail _ (List.Mem.tail _ (List.Mem.tail _ (List.Mem.head _)))), (List.forall_mem_cons.mpr ⟨(List.Mem.tail _ (List.Mem.tail _ (List.Mem.tail _ (List.Mem.tail _ (List.Mem.head _))))), (List.forall_mem_cons.mpr ⟨(List.Mem.tail _ (List.Mem.tail _ (List.Mem.tail _ (List.Mem.tail _ (List.Mem.tail _ (List.Mem.head _)))))), (fun _ h => absurd h List.not_mem_nil)⟩)⟩)⟩)⟩)⟩), (show ([5, 0, 1, 2, 3, 4] : List Nat).Nodup from by decide)⟩ w
theorem S_X23_method_231 {Z : zT} {d : Nat} {σ : Sg} {l1 : Int32} {l2 : Int32} {l3 : Int32} {l4 : Nat} {K : kS} (F : FX ΦR σ.sh σ.r) (p_l4 : sh0R[l4]? = some (Sh.obj 19)) (w : B_X23_skip_0 Z d (((σ.wr 0 34 (Rf.ptr 5)).wi 0 20 (0 : Int32)).wi 0 22 (0 : Int32)) (Rf.old 146) (yI K fun v4 τ2 => (v4 = 0 → B_X23_method_279 Z (d + 1) (τ2.wi l4 4 (τ2.i 0 22)) l1 l2 l3 l4 0 K) ∧ (¬ v4 = 0 → B_X23_test_0 Z d τ2  (yW K fun v7 τ5 => B_X23_method_279 Z (d + 1) ((τ5.wr l4 8 v7).wi l4 4 (τ5.i 0 22)) l1 l2 l3 l4 0 K)))) : B_X23_method_231 Z (d + 1) σ l1 l2 l3 l4 K := by
  unfold B_X23_method_231
  refine ab_fin.s2 (i := .aload_n 0) (k := 1) (pc' := 232) (lv' := [(0, .ref 0), (1, .int l1), (2, .int l2), (3, .int l3), (4, .ref l4)]) (st' := [.ref 0]) (by decide +kernel) rfl rfl ?_
  refine ab_fin.s2 (i := .aload_n 0) (k := 1) (pc' := 233) (lv' := [(0, .ref 0), (1, .int l1), (2, .int l2), (3, .int l3), (4, .ref l4)]) (st' := [.ref 0, .ref 0]) (by decide +kernel) rfl rfl ?_
  refine ab_fin.q_rA (b := 5) (ix := 349) (ci := 24) (k := 8) (pc' := 236) (by decide +kernel) rfl (c_rA (F.s s0_0) rfl (rM_8 F)) rfl ?_
  have F1 := FX.w (Φ := ΦR) (a := 0) (k := 34) (v := (Rf.ptr 5)) F (cM_34)
  refine ab_fin.q_pF (ix := 353) (ci := 24) (k := 34) (h1 := conc (σ.wr 0 34 (Rf.ptr 5))) (pc' := 239) (by decide +kernel) rfl (c_pR (v := (Rf.ptr 5)) (F.s s0_0) rfl) rfl rfl rfl ?_
  refine ab_fin.s2 (i := .aload_n 0) (k := 1) (pc' := 240) (lv' := [(0, .ref 0), (1, .int l1), (2, .int l2), (3, .int l3), (4, .ref l4)]) (st' := [.ref 0]) (by decide +kernel) rfl rfl ?_
  refine ab_fin.s1i (i := .iconst 0) (k := 1) (pc' := 241) (n := 0) (by decide +kernel) rfl (by decide +kernel) rfl ?_
  refine ab_fin.q_pF (ix := 253) (ci := 24) (k := 20) (h1 := conc ((σ.wr 0 34 (Rf.ptr 5)).wi 0 20 (0 : Int32))) (pc' := 244) (by decide +kernel) rfl (c_pI (v := 0) (F1.s s0_0) rfl) rfl rfl rfl ?_
  refine ab_fin.s2 (i := .aload_n 0) (k := 1) (pc' := 245) (lv' := [(0, .ref 0), (1, .int l1), (2, .int l2), (3, .int l3), (4, .ref l4)]) (st' := [.ref 0]) (by decide +kernel) rfl rfl ?_
  refine ab_fin.s1i (i := .iconst 0) (k := 1) (pc' := 246) (n := 0) (by decide +kernel) rfl (by decide +kernel) rfl ?_
  refine ab_fin.q_pF (ix := 356) (ci := 24) (k := 22) (h1 := conc (((σ.wr 0 34 (Rf.ptr 5)).wi 0 20 (0 : Int32)).wi 0 22 (0 : Int32))) (pc' := 249) (by decide +kernel) rfl (c_pI (v := 0) (F1.s s0_0) rfl) rfl rfl rfl ?_
  refine ab_fin.s2 (i := .aload_n 0) (k := 1) (pc' := 250) (lv' := [(0, .ref 0), (1, .int l1), (2, .int l2), (3, .int l3), (4, .ref l4)]) (st' := [.ref 0]) (by decide +kernel) rfl rfl ?_
  refine ab_fin.s8 (i := .ldc 140) (k := 2) (pc' := 252) (st' := [.retAddr 146, .ref 0]) (by decide +kernel) rfl rfl rfl rfl ?_
  refine ab_fin.q_yI (i := .invokevirtual 266) (k := 3) (y := 5908) (As := [.ref 0, .retAddr 146]) (rest := []) (M' := (mX23_skip, [])) (lv2 := [(0, .ref 0), (1, .retAddr 146)]) (pc' := 255) (X := K) (by decide +kernel) (ab_cv rfl rfl (conc_get (σ := (((σ.wr 0 34 (Rf.ptr 5)).wi 0 20 (0 : Int32)).wi 0 22 (0 : Int32))) (F1.s s0_0)) ⟨(Nat.le_of_ble_eq_true rfl), (Nat.le_of_ble_eq_true rfl)⟩ rfl) rfl (Nat.le_of_ble_eq_true rfl) rfl rfl (hY_no fun E => rfl) w (fun v4 τ2 F3 w => ?_)
  refine ab_fin.br (c := v4 = 0) (i := .ifCond .eq 12) (off := 12) (t := 267) (pc' := 258) (r := []) (by decide +kernel) rfl (by decide +kernel) rfl (fun q => ?_) (fun q => ?_)
  · replace w := w.1 q
    refine ab_fin.s2 (i := .aload 4) (k := 2) (pc' := 269) (lv' := [(0, .ref 0), (1, .int l1), (2, .int l2), (3, .int l3), (4, .ref l4)]) (st' := [.ref l4]) (by decide +kernel) rfl rfl ?_
    refine ab_fin.s2 (i := .aload_n 0) (k := 1) (pc' := 270) (lv' := [(0, .ref 0), (1, .int l1), (2, .int l2), (3, .int l3), (4, .ref l4)]) (st' := [.ref 0, .ref l4]) (by decide +kernel) rfl rfl ?_
    refine ab_fin.q_rI (x := (τ2.i 0 22)) (ix := 356) (ci := 24) (k := 22) (pc' := 273) (by decide +kernel) rfl (c_rI (F3.s s0_0) rfl) rfl ?_
    refine ab_fin.q_pF (ix := 362) (ci := 19) (k := 4) (h1 := conc (τ2.wi l4 4 (τ2.i 0 22))) (pc' := 276) (by decide +kernel) rfl (c_pI (v := (τ2.i 0 22)) (F3.s p_l4) rfl) rfl rfl rfl ?_
    refine ab_fin.s1i (i := .iconst 0) (k := 1) (pc' := 277) (n := 0) (by decide +kernel) rfl (by decide +kernel) rfl ?_
    refine ab_fin.s2 (i := .istore 5) (k := 2) (pc' := 279) (lv' := [(5, .int 0), (0, .ref 0), (1, .int l1), (2, .int l2), (3, .int l3), (4, .ref l4)]) (st' := []) (by decide +kernel) rfl rfl ?_
    exact ab_fin.lv ⟨(List.forall_mem_cons.mpr ⟨(List.Mem.tail _ (List.Mem.head _)), (List.forall_mem_cons.mpr ⟨(List.Mem.tail _ (List.Mem.tail _ (List.Mem.head _))), (List.forall_mem_cons.mpr ⟨(List.Mem.tail _ (List.Mem.tail _ (List.Mem.tail _ (List.Mem.head _)))), (List.forall_mem_cons.mpr ⟨(List.Mem.tail _ (List.Mem.tail _ (List.Mem.tail _ (List.Mem.tail _ (List.Mem.head _))))), (List.forall_mem_cons.mpr ⟨(List.Mem.tail _ (List.Mem.tail _ (List.Mem.tail _ (List.Mem.tail _ (List.Mem.tail _ (List.Mem.head _)))))), (List.forall_mem_cons.mpr ⟨(List.Mem.head _), (fun _ h => absurd h List.not_mem_nil)⟩)⟩)⟩)⟩)⟩)⟩), (show ([5, 0, 1, 2, 3, 4] : List Nat).Nodup from by decide)⟩ w
  · replace w := w.2 q
    refine ab_fin.s2 (i := .aload 4) (k := 2) (pc' := 260) (lv' := [(0, .ref 0), (1, .int l1), (2, .int l2), (3, .int l3), (4, .ref l4)]) (st' := [.ref l4]) (by decide +kernel) rfl rfl ?_
    refine ab_fin.s2 (i := .aload_n 0) (k := 1) (pc' := 261) (lv' := [(0, .ref 0), (1, .int l1), (2, .int l2), (3, .int l3), (4, .ref l4)]) (st' := [.ref 0, .ref l4]) (by decide +kernel) rfl rfl ?_
    refine ab_fin.q_yW (i := .invokevirtual 359) (k := 3) (y := 5922) (As := [.ref 0]) (rest := [.ref l4]) (M' := (mX23_test, [])) (lv2 := [(0, .ref 0)]) (pc' := 264) (X := K) (by decide +kernel) (ab_cv rfl rfl (conc_get (σ := τ2) (F3.s s0_0)) ⟨(Nat.le_of_ble_eq_true rfl), (Nat.le_of_ble_eq_true rfl)⟩ rfl) rfl (Nat.le_of_ble_eq_true rfl) rfl rfl (hY_no fun E => rfl) w (fun v7 τ5 F6 w => ?_)
    have F8 := FX.w (Φ := ΦR) (a := l4) (k := 8) (v := v7) F6 (cO_19_8 p_l4)
    refine ab_fin.q_pF (ix := 335) (ci := 19) (k := 8) (h1 := conc (τ5.wr l4 8 v7)) (pc' := 267) (by decide +kernel) rfl (c_pR (v := v7) (F6.s p_l4) rfl) nRv_n nRv_f rfl ?_
    refine ab_fin.s2 (i := .aload 4) (k := 2) (pc' := 269) (lv' := [(0, .ref 0), (1, .int l1), (2, .int l2), (3, .int l3), (4, .ref l4)]) (st' := [.ref l4]) (by decide +kernel) rfl rfl ?_
    refine ab_fin.s2 (i := .aload_n 0) (k := 1) (pc' := 270) (lv' := [(0, .ref 0), (1, .int l1), (2, .int l2), (3, .int l3), (4, .ref l4)]) (st' := [.ref 0, .ref l4]) (by decide +kernel) rfl rfl ?_
    refine ab_fin.q_rI (x := (τ5.i 0 22)) (ix := 356) (ci := 24) (k := 22) (pc' := 273) (by decide +kernel) rfl (c_rI (F8.s s0_0) rfl) rfl ?_
    refine ab_fin.q_pF (ix := 362) (ci := 19) (k := 4) (h1 := conc ((τ5.wr l4 8 v7).wi l4 4 (τ5.i 0 22))) (pc' := 276) (by decide +kernel) rfl (c_pI (v := (τ5.i 0 22)) (F8.s p_l4) rfl) rfl rfl rfl ?_
    refine ab_fin.s1i (i := .iconst 0) (k := 1) (pc' := 277) (n := 0) (by decide +kernel) rfl (by decide +kernel) rfl ?_
    refine ab_fin.s2 (i := .istore 5) (k := 2) (pc' := 279) (lv' := [(5, .int 0), (0, .ref 0), (1, .int l1), (2, .int l2), (3, .int l3), (4, .ref l4)]) (st' := []) (by decide +kernel) rfl rfl ?_
    exact ab_fin.lv ⟨(List.forall_mem_cons.mpr ⟨(List.Mem.tail _ (List.Mem.head _)), (List.forall_mem_cons.mpr ⟨(List.Mem.tail _ (List.Mem.tail _ (List.Mem.head _))), (List.forall_mem_cons.mpr ⟨(List.Mem.tail _ (List.Mem.tail _ (List.Mem.tail _ (List.Mem.head _)))), (List.forall_mem_cons.mpr ⟨(List.Mem.tail _ (List.Mem.tail _ (List.Mem.tail _ (List.Mem.tail _ (List.Mem.head _))))), (List.forall_mem_cons.mpr ⟨(List.Mem.tail _ (List.Mem.tail _ (List.Mem.tail _ (List.Mem.tail _ (List.Mem.tail _ (List.Mem.head _)))))), (List.forall_mem_cons.mpr ⟨(List.Mem.head _), (fun _ h => absurd h List.not_mem_nil)⟩)⟩)⟩)⟩)⟩)⟩), (show ([5, 0, 1, 2, 3, 4] : List Nat).Nodup from by decide)⟩ w
theorem S_X23_method_279 {Z : zT} {d : Nat} {σ : Sg} {l1 : Int32} {l2 : Int32} {l3 : Int32} {l4 : Nat} {l5 : Int32} {K : kS} (F : FX ΦR σ.sh σ.r) (p_l4 : sh0R[l4]? = some (Sh.obj 19)) (w : (l3 < 0 → B_X23_method_329 Z (d + 1) σ l1 l2 l3 l4 K) ∧ (¬ l3 < 0 → ib l3 24 ∧ (((σ.i (2409 + 3 * l3.toNatClampNeg) 1) ≤ l5 → B_X23_method_329 Z (d + 1) σ l1 l2 l3 l4 K) ∧ (¬ (σ.i (2409 + 3 * l3.toNatClampNeg) 1) ≤ l5 → ib l5 3 ∧ (((σ.i (l4 + 3) l5.toNatClampNeg) = 0 → B_X23_method_279 Z (d + 1) (σ.wi l4 4 ((σ.i l4 4) + (0 : Int32))) l1 l2 l3 l4 (l5 + 1) K) ∧ (¬ (σ.i (l4 + 3) l5.toNatClampNeg) = 0 → B_X23_method_279 Z (d + 1) (σ.wi l4 4 ((σ.i l4 4) + (1 : Int32))) l1 l2 l3 l4 (l5 + 1) K)))))) : B_X23_method_279 Z (d + 1) σ l1 l2 l3 l4 l5 K := by
  unfold B_X23_method_279
  refine ab_fin.s2 (i := .iload_n 3) (k := 1) (pc' := 280) (lv' := [(0, .ref 0), (1, .int l1), (2, .int l2), (3, .int l3), (4, .ref l4), (5, .int l5)]) (st' := [.int l3]) (by decide +kernel) rfl rfl ?_
  refine ab_fin.br (c := l3 < 0) (i := .ifCond .lt 49) (off := 49) (t := 329) (pc' := 283) (r := []) (by decide +kernel) rfl (by decide +kernel) rfl (fun q => ?_) (fun q => ?_)
  · replace w := w.1 q
    exact ab_fin.lv ⟨(List.forall_mem_cons.mpr ⟨(List.Mem.head _), (List.forall_mem_cons.mpr ⟨(List.Mem.tail _ (List.Mem.head _)), (List.forall_mem_cons.mpr ⟨(List.Mem.tail _ (List.Mem.tail _ (List.Mem.head _))), (List.forall_mem_cons.mpr ⟨(List.Mem.tail _ (List.Mem.tail _ (List.Mem.tail _ (List.Mem.head _)))), (List.forall_mem_cons.mpr ⟨(List.Mem.tail _ (List.Mem.tail _ (List.Mem.tail _ (List.Mem.tail _ (List.Mem.head _))))), (fun _ h => absurd h List.not_mem_nil)⟩)⟩)⟩)⟩)⟩), (show ([0, 1, 2, 3, 4, 5] : List Nat).Nodup from by decide)⟩ w
  · replace w := w.2 q
    refine ab_fin.s2 (i := .iload 5) (k := 2) (pc' := 285) (lv' := [(0, .ref 0), (1, .int l1), (2, .int l2), (3, .int l3), (4, .ref l4), (5, .int l5)]) (st' := [.int l5]) (by decide +kernel) rfl rfl ?_
    refine ab_fin.s2 (i := .aload_n 0) (k := 1) (pc' := 286) (lv' := [(0, .ref 0), (1, .int l1), (2, .int l2), (3, .int l3), (4, .ref l4), (5, .int l5)]) (st' := [.ref 0, .int l5]) (by decide +kernel) rfl rfl ?_
    refine ab_fin.q_rA (b := 2) (ix := 34) (ci := 24) (k := 1) (pc' := 289) (by decide +kernel) rfl (c_rA (F.s s0_0) rfl (rM_1 F)) rfl ?_
    refine ab_fin.s2 (i := .iload_n 3) (k := 1) (pc' := 290) (lv' := [(0, .ref 0), (1, .int l1), (2, .int l2), (3, .int l3), (4, .ref l4), (5, .int l5)]) (st' := [.int l3, .ref 2, .int l5]) (by decide +kernel) rfl rfl ?_
    obtain ⟨e1, w⟩ := w
    refine ab_fin.q_eA (b := (2409 + 3 * l3.toNatClampNeg)) (pc' := 291) (by decide +kernel) (c_eA' (F.s s0_2) (by decide) rfl e1 rfl (rE_5 F s0_2)) rfl ?_
    refine ab_fin.q_rI (x := (σ.i (2409 + 3 * l3.toNatClampNeg) 1)) (ix := 303) (ci := 14) (k := 1) (pc' := 294) (by decide +kernel) rfl (c_rI (F.s (kE_2 e1.2)) rfl) rfl ?_
    refine ab_fin.br (c := (σ.i (2409 + 3 * l3.toNatClampNeg) 1) ≤ l5) (i := .if_icmp .ge 35) (off := 35) (t := 329) (pc' := 297) (r := []) (by decide +kernel) rfl (by decide +kernel) rfl (fun q => ?_) (fun q => ?_)
    · replace w := w.1 q
      exact ab_fin.lv ⟨(List.forall_mem_cons.mpr ⟨(List.Mem.head _), (List.forall_mem_cons.mpr ⟨(List.Mem.tail _ (List.Mem.head _)), (List.forall_mem_cons.mpr ⟨(List.Mem.tail _ (List.Mem.tail _ (List.Mem.head _))), (List.forall_mem_cons.mpr ⟨(List.Mem.tail _ (List.Mem.tail _ (List.Mem.tail _ (List.Mem.head _)))), (List.forall_mem_cons.mpr ⟨(List.Mem.tail _ (List.Mem.tail _ (List.Mem.tail _ (List.Mem.tail _ (List.Mem.head _))))), (fun _ h => absurd h List.not_mem_nil)⟩)⟩)⟩)⟩)⟩), (show ([0, 1, 2, 3, 4, 5] : List Nat).Nodup from by decide)⟩ w
    · replace w := w.2 q
      refine ab_fin.s2 (i := .aload 4) (k := 2) (pc' := 299) (lv' := [(0, .ref 0), (1, .int l1), (2, .int l2), (3, .int l3), (4, .ref l4), (5, .int l5)]) (st' := [.ref l4]) (by decide +kernel) rfl rfl ?_
      refine ab_fin.s1 (i := .dup) (k := 1) (pc' := 300) (st' := [.ref l4, .ref l4]) (by decide +kernel) rfl rfl ?_
      refine ab_fin.q_rI (x := (σ.i l4 4)) (ix := 362) (ci := 19) (k := 4) (pc' := 303) (by decide +kernel) rfl (c_rI (F.s p_l4) rfl) rfl ?_
      refine ab_fin.s2 (i := .aload 4) (k := 2) (pc' := 305) (lv' := [(0, .ref 0), (1, .int l1), (2, .int l2), (3, .int l3), (4, .ref l4), (5, .int l5)]) (st' := [.ref l4, .int (σ.i l4 4), .ref l4]) (by decide +kernel) rfl rfl ?_
      refine ab_fin.q_rA (b := (l4 + 3)) (ix := 365) (ci := 19) (k := 7) (pc' := 308) (by decide +kernel) rfl (c_rA (F.s p_l4) rfl (rO_19_7 F p_l4)) rfl ?_
      refine ab_fin.s2 (i := .iload 5) (k := 2) (pc' := 310) (lv' := [(0, .ref 0), (1, .int l1), (2, .int l2), (3, .int l3), (4, .ref l4), (5, .int l5)]) (st' := [.int l5, .ref (l4 + 3), .int (σ.i l4 4), .ref l4]) (by decide +kernel) rfl rfl ?_
      obtain ⟨e2, w⟩ := w
      refine ab_fin.q_eB (x := (σ.i (l4 + 3) l5.toNatClampNeg)) (pc' := 311) (by decide +kernel) (c_eB3' (F.s (kF_19_3 p_l4)) e2 rfl) rfl ?_
      refine ab_fin.br (c := (σ.i (l4 + 3) l5.toNatClampNeg) = 0) (i := .ifCond .eq 7) (off := 7) (t := 318) (pc' := 314) (r := [.int (σ.i l4 4), .ref l4]) (by decide +kernel) rfl (by decide +kernel) rfl (fun q => ?_) (fun q => ?_)
      · replace w := w.1 q
        refine ab_fin.s1i (i := .iconst 0) (k := 1) (pc' := 319) (n := 0) (by decide +kernel) rfl (by decide +kernel) rfl ?_
        refine ab_fin.s1 (i := .iadd) (k := 1) (pc' := 320) (st' := [.int ((σ.i l4 4) + (0 : Int32)), .ref l4]) (by decide +kernel) rfl rfl ?_
        refine ab_fin.q_pF (ix := 362) (ci := 19) (k := 4) (h1 := conc (σ.wi l4 4 ((σ.i l4 4) + (0 : Int32)))) (pc' := 323) (by decide +kernel) rfl (c_pI (v := ((σ.i l4 4) + (0 : Int32))) (F.s p_l4) rfl) rfl rfl rfl ?_
        refine ab_fin.q_inc (n := 5) (c := 1) (pc' := 326) (lv' := [(5, .int (l5 + 1)), (0, .ref 0), (1, .int l1), (2, .int l2), (3, .int l3), (4, .ref l4)]) (by decide +kernel) (by decide) rfl rfl rfl rfl ?_
        refine ab_fin.s3 (i := .goto (-47)) (k := 3) (t := 279) (st' := []) (by decide +kernel) (ab_gto (by decide +kernel)) ?_
        exact ab_fin.lv ⟨(List.forall_mem_cons.mpr ⟨(List.Mem.tail _ (List.Mem.head _)), (List.forall_mem_cons.mpr ⟨(List.Mem.tail _ (List.Mem.tail _ (List.Mem.head _))), (List.forall_mem_cons.mpr ⟨(List.Mem.tail _ (List.Mem.tail _ (List.Mem.tail _ (List.Mem.head _)))), (List.forall_mem_cons.mpr ⟨(List.Mem.tail _ (List.Mem.tail _ (List.Mem.tail _ (List.Mem.tail _ (List.Mem.head _))))), (List.forall_mem_cons.mpr ⟨(List.Mem.tail _ (List.Mem.tail _ (List.Mem.tail _ (List.Mem.tail _ (List.Mem.tail _ (List.Mem.head _)))))), (List.forall_mem_cons.mpr ⟨(List.Mem.head _), (fun _ h => absurd h List.not_mem_nil)⟩)⟩)⟩)⟩)⟩)⟩), (show ([5, 0, 1, 2, 3, 4] : List Nat).Nodup from by decide)⟩ w
      · replace w := w.2 q
        refine ab_fin.s1i (i := .iconst 1) (k := 1) (pc' := 315) (n := 1) (by decide +kernel) rfl (by decide +kernel) rfl ?_
        refine ab_fin.s3 (i := .goto 4) (k := 3) (t := 319) (st' := [.int 1, .int (σ.i l4 4), .ref l4]) (by decide +kernel) (ab_gto (by decide +kernel)) ?_
        refine ab_fin.s1 (i := .iadd) (k := 1) (pc' := 320) (st' := [.int ((σ.i l4 4) + (1 : Int32)), .ref l4]) (by decide +kernel) rfl rfl ?_
        refine ab_fin.q_pF (ix := 362) (ci := 19) (k := 4) (h1 := conc (σ.wi l4 4 ((σ.i l4 4) + (1 : Int32)))) (pc' := 323) (by decide +kernel) rfl (c_pI (v := ((σ.i l4 4) + (1 : Int32))) (F.s p_l4) rfl) rfl rfl rfl ?_
        refine ab_fin.q_inc (n := 5) (c := 1) (pc' := 326) (lv' := [(5, .int (l5 + 1)), (0, .ref 0), (1, .int l1), (2, .int l2), (3, .int l3), (4, .ref l4)]) (by decide +kernel) (by decide) rfl rfl rfl rfl ?_
        refine ab_fin.s3 (i := .goto (-47)) (k := 3) (t := 279) (st' := []) (by decide +kernel) (ab_gto (by decide +kernel)) ?_
        exact ab_fin.lv ⟨(List.forall_mem_cons.mpr ⟨(List.Mem.tail _ (List.Mem.head _)), (List.forall_mem_cons.mpr ⟨(List.Mem.tail _ (List.Mem.tail _ (List.Mem.head _))), (List.forall_mem_cons.mpr ⟨(List.Mem.tail _ (List.Mem.tail _ (List.Mem.tail _ (List.Mem.head _)))), (List.forall_mem_cons.mpr ⟨(List.Mem.tail _ (List.Mem.tail _ (List.Mem.tail _ (List.Mem.tail _ (List.Mem.head _))))), (List.forall_mem_cons.mpr ⟨(List.Mem.tail _ (List.Mem.tail _ (List.Mem.tail _ (List.Mem.tail _ (List.Mem.tail _ (List.Mem.head _)))))), (List.forall_mem_cons.mpr ⟨(List.Mem.head _), (fun _ h => absurd h List.not_mem_nil)⟩)⟩)⟩)⟩)⟩)⟩), (show ([5, 0, 1, 2, 3, 4] : List Nat).Nodup from by decide)⟩ w
theorem S_X23_method_329 {Z : zT} {d : Nat} {σ : Sg} {l1 : Int32} {l2 : Int32} {l3 : Int32} {l4 : Nat} {K : kS} (F : FX ΦR σ.sh σ.r) (p_l4 : sh0R[l4]? = some (Sh.obj 19)) (w : B_X23_want_0 Z d σ 61 (yN K fun τ1 => (0 ≤ l3 → B_X23_method_346 Z (d + 1) τ1 l1 l2 l4 l3 K) ∧ (¬ 0 ≤ l3 → B_X23_method_346 Z (d + 1) τ1 l1 l2 l4 (-2) K))) : B_X23_method_329 Z (d + 1) σ l1 l2 l3 l4 K := by
  unfold B_X23_method_329
  refine ab_fin.s2 (i := .aload_n 0) (k := 1) (pc' := 330) (lv' := [(0, .ref 0), (1, .int l1), (2, .int l2), (3, .int l3), (4, .ref l4)]) (st' := [.ref 0]) (by decide +kernel) rfl rfl ?_
  refine ab_fin.s1i (i := .bipush 61) (k := 2) (pc' := 332) (n := 61) (by decide +kernel) rfl (by decide +kernel) rfl ?_
  refine ab_fin.q_yN (i := .invokevirtual 293) (k := 3) (y := 5906) (As := [.ref 0, .int 61]) (rest := []) (M' := (mX23_want, [])) (lv2 := [(0, .ref 0), (1, .int 61)]) (pc' := 335) (X := K) (by decide +kernel) (ab_cv rfl rfl (conc_get (σ := σ) (F.s s0_0)) ⟨(Nat.le_of_ble_eq_true rfl), (Nat.le_of_ble_eq_true rfl)⟩ rfl) rfl (Nat.le_of_ble_eq_true rfl) rfl rfl (hY_no fun E => rfl) w (fun τ1 F2 w => ?_)
  refine ab_fin.s2 (i := .aload_n 0) (k := 1) (pc' := 336) (lv' := [(0, .ref 0), (1, .int l1), (2, .int l2), (3, .int l3), (4, .ref l4)]) (st' := [.ref 0]) (by decide +kernel) rfl rfl ?_
  refine ab_fin.s2 (i := .iload_n 3) (k := 1) (pc' := 337) (lv' := [(0, .ref 0), (1, .int l1), (2, .int l2), (3, .int l3), (4, .ref l4)]) (st' := [.int l3, .ref 0]) (by decide +kernel) rfl rfl ?_
  refine ab_fin.br (c := 0 ≤ l3) (i := .ifCond .ge 8) (off := 8) (t := 345) (pc' := 340) (r := [.ref 0]) (by decide +kernel) rfl (by decide +kernel) rfl (fun q => ?_) (fun q => ?_)
  · replace w := w.1 q
    refine ab_fin.s2 (i := .iload_n 3) (k := 1) (pc' := 346) (lv' := [(0, .ref 0), (1, .int l1), (2, .int l2), (3, .int l3), (4, .ref l4)]) (st' := [.int l3, .ref 0]) (by decide +kernel) rfl rfl ?_
    exact ab_fin.lv ⟨(List.forall_mem_cons.mpr ⟨(List.Mem.head _), (List.forall_mem_cons.mpr ⟨(List.Mem.tail _ (List.Mem.head _)), (List.forall_mem_cons.mpr ⟨(List.Mem.tail _ (List.Mem.tail _ (List.Mem.head _))), (List.forall_mem_cons.mpr ⟨(List.Mem.tail _ (List.Mem.tail _ (List.Mem.tail _ (List.Mem.tail _ (List.Mem.head _))))), (fun _ h => absurd h List.not_mem_nil)⟩)⟩)⟩)⟩), (show ([0, 1, 2, 3, 4] : List Nat).Nodup from by decide)⟩ w
  · replace w := w.2 q
    refine ab_fin.s1i (i := .bipush (-2)) (k := 2) (pc' := 342) (n := (-2)) (by decide +kernel) rfl (by decide +kernel) rfl ?_
    refine ab_fin.s3 (i := .goto 4) (k := 3) (t := 346) (st' := [.int (-2), .ref 0]) (by decide +kernel) (ab_gto (by decide +kernel)) ?_
    exact ab_fin.lv ⟨(List.forall_mem_cons.mpr ⟨(List.Mem.head _), (List.forall_mem_cons.mpr ⟨(List.Mem.tail _ (List.Mem.head _)), (List.forall_mem_cons.mpr ⟨(List.Mem.tail _ (List.Mem.tail _ (List.Mem.head _))), (List.forall_mem_cons.mpr ⟨(List.Mem.tail _ (List.Mem.tail _ (List.Mem.tail _ (List.Mem.tail _ (List.Mem.head _))))), (fun _ h => absurd h List.not_mem_nil)⟩)⟩)⟩)⟩), (show ([0, 1, 2, 3, 4] : List Nat).Nodup from by decide)⟩ w
theorem S_X23_method_346 {Z : zT} {d : Nat} {σ : Sg} {l1 : Int32} {l2 : Int32} {l4 : Nat} {s1 : Int32} {K : kS} (F : FX ΦR σ.sh σ.r) (p_l4 : sh0R[l4]? = some (Sh.obj 19)) (w : B_X23_e_0 Z d (((σ.wi 0 33 s1).wi 0 21 (0 : Int32)).wi 0 20 (0 : Int32))  (yW K fun v3 τ1 => B_X23_want_0 Z d (τ1.wr l4 9 v3) 59 (yN K fun τ5 => (¬ (τ5.i 0 27) = l2 → B_X23_method_397 Z (d + 1) τ5  K) ∧ ((τ5.i 0 27) = l2 → B_X23_isThere_0 Z d τ5 l4 (yI K fun v9 τ7 => (v9 = 0 → B_X23_method_397 Z (d + 1) τ7  K) ∧ (¬ v9 = 0 → B_X23_breaks_0 Z d τ7 2 l1 (yN K fun τ10 => B_X23_method_397 Z (d + 1) τ10  K))))))) : B_X23_method_346 Z (d + 1) σ l1 l2 l4 s1 K := by
  unfold B_X23_method_346
  refine ab_fin.q_pF (ix := 369) (ci := 24) (k := 33) (h1 := conc (σ.wi 0 33 s1)) (pc' := 349) (by decide +kernel) rfl (c_pI (v := s1) (F.s s0_0) rfl) rfl rfl rfl ?_
  refine ab_fin.s2 (i := .aload_n 0) (k := 1) (pc' := 350) (lv' := [(0, .ref 0), (1, .int l1), (2, .int l2), (4, .ref l4)]) (st' := [.ref 0]) (by decide +kernel) rfl rfl ?_
  refine ab_fin.s1i (i := .iconst 0) (k := 1) (pc' := 351) (n := 0) (by decide +kernel) rfl (by decide +kernel) rfl ?_
  refine ab_fin.q_pF (ix := 256) (ci := 24) (k := 21) (h1 := conc ((σ.wi 0 33 s1).wi 0 21 (0 : Int32))) (pc' := 354) (by decide +kernel) rfl (c_pI (v := 0) (F.s s0_0) rfl) rfl rfl rfl ?_
  refine ab_fin.s2 (i := .aload_n 0) (k := 1) (pc' := 355) (lv' := [(0, .ref 0), (1, .int l1), (2, .int l2), (4, .ref l4)]) (st' := [.ref 0]) (by decide +kernel) rfl rfl ?_
  refine ab_fin.s1i (i := .iconst 0) (k := 1) (pc' := 356) (n := 0) (by decide +kernel) rfl (by decide +kernel) rfl ?_
  refine ab_fin.q_pF (ix := 253) (ci := 24) (k := 20) (h1 := conc (((σ.wi 0 33 s1).wi 0 21 (0 : Int32)).wi 0 20 (0 : Int32))) (pc' := 359) (by decide +kernel) rfl (c_pI (v := 0) (F.s s0_0) rfl) rfl rfl rfl ?_
  refine ab_fin.s2 (i := .aload 4) (k := 2) (pc' := 361) (lv' := [(0, .ref 0), (1, .int l1), (2, .int l2), (4, .ref l4)]) (st' := [.ref l4]) (by decide +kernel) rfl rfl ?_
  refine ab_fin.s2 (i := .aload_n 0) (k := 1) (pc' := 362) (lv' := [(0, .ref 0), (1, .int l1), (2, .int l2), (4, .ref l4)]) (st' := [.ref 0, .ref l4]) (by decide +kernel) rfl rfl ?_
  refine ab_fin.q_yW (i := .invokevirtual 372) (k := 3) (y := 5930) (As := [.ref 0]) (rest := [.ref l4]) (M' := (mX23_e, [])) (lv2 := [(0, .ref 0)]) (pc' := 365) (X := K) (by decide +kernel) (ab_cv rfl rfl (conc_get (σ := (((σ.wi 0 33 s1).wi 0 21 (0 : Int32)).wi 0 20 (0 : Int32))) (F.s s0_0)) ⟨(Nat.le_of_ble_eq_true rfl), (Nat.le_of_ble_eq_true rfl)⟩ rfl) rfl (Nat.le_of_ble_eq_true rfl) rfl rfl (hY_no fun E => rfl) w (fun v3 τ1 F2 w => ?_)
  have F4 := FX.w (Φ := ΦR) (a := l4) (k := 9) (v := v3) F2 (cO_19_9 p_l4)
  refine ab_fin.q_pF (ix := 375) (ci := 19) (k := 9) (h1 := conc (τ1.wr l4 9 v3)) (pc' := 368) (by decide +kernel) rfl (c_pR (v := v3) (F2.s p_l4) rfl) nRv_n nRv_f rfl ?_
  refine ab_fin.s2 (i := .aload_n 0) (k := 1) (pc' := 369) (lv' := [(0, .ref 0), (1, .int l1), (2, .int l2), (4, .ref l4)]) (st' := [.ref 0]) (by decide +kernel) rfl rfl ?_
  refine ab_fin.s1i (i := .bipush 59) (k := 2) (pc' := 371) (n := 59) (by decide +kernel) rfl (by decide +kernel) rfl ?_
  refine ab_fin.q_yN (i := .invokevirtual 293) (k := 3) (y := 5906) (As := [.ref 0, .int 59]) (rest := []) (M' := (mX23_want, [])) (lv2 := [(0, .ref 0), (1, .int 59)]) (pc' := 374) (X := K) (by decide +kernel) (ab_cv rfl rfl (conc_get (σ := (τ1.wr l4 9 v3)) (F4.s s0_0)) ⟨(Nat.le_of_ble_eq_true rfl), (Nat.le_of_ble_eq_true rfl)⟩ rfl) rfl (Nat.le_of_ble_eq_true rfl) rfl rfl (hY_no fun E => rfl) w (fun τ5 F6 w => ?_)
  refine ab_fin.s2 (i := .aload_n 0) (k := 1) (pc' := 375) (lv' := [(0, .ref 0), (1, .int l1), (2, .int l2), (4, .ref l4)]) (st' := [.ref 0]) (by decide +kernel) rfl rfl ?_
  refine ab_fin.q_rI (x := (τ5.i 0 27)) (ix := 244) (ci := 24) (k := 27) (pc' := 378) (by decide +kernel) rfl (c_rI (F6.s s0_0) rfl) rfl ?_
  refine ab_fin.s2 (i := .iload_n 2) (k := 1) (pc' := 379) (lv' := [(0, .ref 0), (1, .int l1), (2, .int l2), (4, .ref l4)]) (st' := [.int l2, .int (τ5.i 0 27)]) (by decide +kernel) rfl rfl ?_
  refine ab_fin.br (c := ¬ (τ5.i 0 27) = l2) (i := .if_icmp .ne 18) (off := 18) (t := 397) (pc' := 382) (r := []) (by decide +kernel) rfl (by decide +kernel) rfl (fun q => ?_) (fun q => ?_)
  · replace w := w.1 q
    exact ab_fin.lv ⟨(List.forall_mem_cons.mpr ⟨(List.Mem.head _), (fun _ h => absurd h List.not_mem_nil)⟩), (show ([0, 1, 2, 4] : List Nat).Nodup from by decide)⟩ w
  · replace w := w.2 (Decidable.of_not_not q)
    refine ab_fin.s2 (i := .aload_n 0) (k := 1) (pc' := 383) (lv' := [(0, .ref 0), (1, .int l1), (2, .int l2), (4, .ref l4)]) (st' := [.ref 0]) (by decide +kernel) rfl rfl ?_
    refine ab_fin.s2 (i := .aload 4) (k := 2) (pc' := 385) (lv' := [(0, .ref 0), (1, .int l1), (2, .int l2), (4, .ref l4)]) (st' := [.ref l4, .ref 0]) (by decide +kernel) rfl rfl ?_
    refine ab_fin.q_yI (i := .invokevirtual 378) (k := 3) (y := 5921) (As := [.ref 0, .ref l4]) (rest := []) (M' := (mX23_isThere, [])) (lv2 := [(0, .ref 0), (1, .ref l4)]) (pc' := 388) (X := K) (by decide +kernel) (ab_cv rfl rfl (conc_get (σ := τ5) (F6.s s0_0)) ⟨(Nat.le_of_ble_eq_true rfl), (Nat.le_of_ble_eq_true rfl)⟩ rfl) rfl (Nat.le_of_ble_eq_true rfl) rfl rfl (hY_no fun E => rfl) w (fun v9 τ7 F8 w => ?_)
    refine ab_fin.br (c := v9 = 0) (i := .ifCond .eq 9) (off := 9) (t := 397) (pc' := 391) (r := []) (by decide +kernel) rfl (by decide +kernel) rfl (fun q => ?_) (fun q => ?_)
    · replace w := w.1 q
      exact ab_fin.lv ⟨(List.forall_mem_cons.mpr ⟨(List.Mem.head _), (fun _ h => absurd h List.not_mem_nil)⟩), (show ([0, 1, 2, 4] : List Nat).Nodup from by decide)⟩ w
    · replace w := w.2 q
      refine ab_fin.s2 (i := .aload_n 0) (k := 1) (pc' := 392) (lv' := [(0, .ref 0), (1, .int l1), (2, .int l2), (4, .ref l4)]) (st' := [.ref 0]) (by decide +kernel) rfl rfl ?_
      refine ab_fin.s1i (i := .iconst 2) (k := 1) (pc' := 393) (n := 2) (by decide +kernel) rfl (by decide +kernel) rfl ?_
      refine ab_fin.s2 (i := .iload_n 1) (k := 1) (pc' := 394) (lv' := [(0, .ref 0), (1, .int l1), (2, .int l2), (4, .ref l4)]) (st' := [.int l1, .int 2, .ref 0]) (by decide +kernel) rfl rfl ?_
      refine ab_fin.q_yN (i := .invokevirtual 259) (k := 3) (y := 5910) (As := [.ref 0, .int 2, .int l1]) (rest := []) (M' := (mX23_breaks, [])) (lv2 := [(0, .ref 0), (1, .int 2), (2, .int l1)]) (pc' := 397) (X := K) (by decide +kernel) (ab_cv rfl rfl (conc_get (σ := τ7) (F8.s s0_0)) ⟨(Nat.le_of_ble_eq_true rfl), (Nat.le_of_ble_eq_true rfl)⟩ rfl) rfl (Nat.le_of_ble_eq_true rfl) rfl rfl (hY_no fun E => rfl) w (fun τ10 F11 w => ?_)
      exact ab_fin.lv ⟨(List.forall_mem_cons.mpr ⟨(List.Mem.head _), (fun _ h => absurd h List.not_mem_nil)⟩), (show ([0, 1, 2, 4] : List Nat).Nodup from by decide)⟩ w
theorem S_X23_method_397 {Z : zT} {d : Nat} {σ : Sg}  {K : kS} (F : FX ΦR σ.sh σ.r) (w : (120 ≤ (σ.i 0 6) → K (.inl none) σ) ∧ (¬ 120 ≤ (σ.i 0 6) → K (.inl none) (σ.wi 0 6 ((σ.i 0 6) + (1 : Int32))))) : B_X23_method_397 Z (d + 1) σ  K := by
  unfold B_X23_method_397
  refine ab_fin.s2 (i := .aload_n 0) (k := 1) (pc' := 398) (lv' := [(0, .ref 0)]) (st' := [.ref 0]) (by decide +kernel) rfl rfl ?_
  refine ab_fin.q_rI (x := (σ.i 0 6)) (ix := 312) (ci := 24) (k := 6) (pc' := 401) (by decide +kernel) rfl (c_rI (F.s s0_0) rfl) rfl ?_
  refine ab_fin.s1i (i := .bipush 120) (k := 2) (pc' := 403) (n := 120) (by decide +kernel) rfl (by decide +kernel) rfl ?_
  refine ab_fin.br (c := 120 ≤ (σ.i 0 6)) (i := .if_icmp .ge 13) (off := 13) (t := 416) (pc' := 406) (r := []) (by decide +kernel) rfl (by decide +kernel) rfl (fun q => ?_) (fun q => ?_)
  · replace w := w.1 q
    exact ab_fin.q_ret (i := .return_) (k := 1) (v := none) (by decide +kernel) rfl F w
  · replace w := w.2 q
    refine ab_fin.s2 (i := .aload_n 0) (k := 1) (pc' := 407) (lv' := [(0, .ref 0)]) (st' := [.ref 0]) (by decide +kernel) rfl rfl ?_
    refine ab_fin.s1 (i := .dup) (k := 1) (pc' := 408) (st' := [.ref 0, .ref 0]) (by decide +kernel) rfl rfl ?_
    refine ab_fin.q_rI (x := (σ.i 0 6)) (ix := 312) (ci := 24) (k := 6) (pc' := 411) (by decide +kernel) rfl (c_rI (F.s s0_0) rfl) rfl ?_
    refine ab_fin.s1i (i := .iconst 1) (k := 1) (pc' := 412) (n := 1) (by decide +kernel) rfl (by decide +kernel) rfl ?_
    refine ab_fin.s1 (i := .iadd) (k := 1) (pc' := 413) (st' := [.int ((σ.i 0 6) + (1 : Int32)), .ref 0]) (by decide +kernel) rfl rfl ?_
    refine ab_fin.q_pF (ix := 312) (ci := 24) (k := 6) (h1 := conc (σ.wi 0 6 ((σ.i 0 6) + (1 : Int32)))) (pc' := 416) (by decide +kernel) rfl (c_pI (v := ((σ.i 0 6) + (1 : Int32))) (F.s s0_0) rfl) rfl rfl rfl ?_
    exact ab_fin.q_ret (i := .return_) (k := 1) (v := none) (by decide +kernel) rfl F w
theorem S_X23_specs_0 {Z : zT} {d : Nat} {σ : Sg} {l1 : Nat} {l2 : Int32} {K : kS} (F : FX ΦR σ.sh σ.r) (w : B_X23_specs_2 Z (d + 1) σ l1 l2 0 K) : B_X23_specs_0 Z (d + 1) σ l1 l2 K := by
  unfold B_X23_specs_0
  refine ab_fin.s1i (i := .iconst 0) (k := 1) (pc' := 1) (n := 0) (by decide +kernel) rfl (by decide +kernel) rfl ?_
  refine ab_fin.s2 (i := .istore_n 3) (k := 1) (pc' := 2) (lv' := [(3, .int 0), (0, .ref 0), (1, .ref l1), (2, .int l2)]) (st' := []) (by decide +kernel) rfl rfl ?_
  exact ab_fin.lv ⟨(List.forall_mem_cons.mpr ⟨(List.Mem.tail _ (List.Mem.head _)), (List.forall_mem_cons.mpr ⟨(List.Mem.tail _ (List.Mem.tail _ (List.Mem.head _))), (List.forall_mem_cons.mpr ⟨(List.Mem.tail _ (List.Mem.tail _ (List.Mem.tail _ (List.Mem.head _)))), (List.forall_mem_cons.mpr ⟨(List.Mem.head _), (fun _ h => absurd h List.not_mem_nil)⟩)⟩)⟩)⟩), (show ([3, 0, 1, 2] : List Nat).Nodup from by decide)⟩ w
theorem S_X23_specs_2 {Z : zT} {d : Nat} {σ : Sg} {l1 : Nat} {l2 : Int32} {l3 : Int32} {K : kS} (F : FX ΦR σ.sh σ.r) (w : (l2 ≤ 0 → B_X23_name_0 Z d σ  (yI K fun v3 τ1 => B_X23_specs_33 Z (d + 1) τ1 l1 l2 l3 (σ.i 0 18) v3 0 K)) ∧ (¬ l2 ≤ 0 → (¬ l3 = l2 → B_X23_name_0 Z d σ  (yI K fun v6 τ4 => B_X23_specs_33 Z (d + 1) τ4 l1 l2 l3 (σ.i 0 18) v6 0 K)) ∧ (l3 = l2 → B_X23_breaks_0 Z d σ 4 (σ.i 0 18) (yN K fun τ7 => B_X23_name_0 Z d τ7  (yI K fun v11 τ9 => B_X23_specs_33 Z (d + 1) τ9 l1 l2 l3 (σ.i 0 18) v11 0 K))))) : B_X23_specs_2 Z (d + 1) σ l1 l2 l3 K := by
  unfold B_X23_specs_2
  refine ab_fin.s2 (i := .aload_n 0) (k := 1) (pc' := 3) (lv' := [(0, .ref 0), (1, .ref l1), (2, .int l2), (3, .int l3)]) (st' := [.ref 0]) (by decide +kernel) rfl rfl ?_
  refine ab_fin.q_rI (x := (σ.i 0 18)) (ix := 106) (ci := 24) (k := 18) (pc' := 6) (by decide +kernel) rfl (c_rI (F.s s0_0) rfl) rfl ?_
  refine ab_fin.s2 (i := .istore 4) (k := 2) (pc' := 8) (lv' := [(4, .int (σ.i 0 18)), (0, .ref 0), (1, .ref l1), (2, .int l2), (3, .int l3)]) (st' := []) (by decide +kernel) rfl rfl ?_
  refine ab_fin.s2 (i := .iload_n 2) (k := 1) (pc' := 9) (lv' := [(4, .int (σ.i 0 18)), (0, .ref 0), (1, .ref l1), (2, .int l2), (3, .int l3)]) (st' := [.int l2]) (by decide +kernel) rfl rfl ?_
  refine ab_fin.br (c := l2 ≤ 0) (i := .ifCond .le 15) (off := 15) (t := 24) (pc' := 12) (r := []) (by decide +kernel) rfl (by decide +kernel) rfl (fun q => ?_) (fun q => ?_)
  · replace w := w.1 q
    refine ab_fin.s2 (i := .aload_n 0) (k := 1) (pc' := 25) (lv' := [(4, .int (σ.i 0 18)), (0, .ref 0), (1, .ref l1), (2, .int l2), (3, .int l3)]) (st' := [.ref 0]) (by decide +kernel) rfl rfl ?_
    refine ab_fin.q_yI (i := .invokevirtual 277) (k := 3) (y := 5909) (As := [.ref 0]) (rest := []) (M' := (mX23_name, [])) (lv2 := [(0, .ref 0)]) (pc' := 28) (X := K) (by decide +kernel) (ab_cv rfl rfl (conc_get (σ := σ) (F.s s0_0)) ⟨(Nat.le_of_ble_eq_true rfl), (Nat.le_of_ble_eq_true rfl)⟩ rfl) rfl (Nat.le_of_ble_eq_true rfl) rfl rfl (hY_no fun E => rfl) w (fun v3 τ1 F2 w => ?_)
    refine ab_fin.s2 (i := .istore 5) (k := 2) (pc' := 30) (lv' := [(5, .int v3), (4, .int (σ.i 0 18)), (0, .ref 0), (1, .ref l1), (2, .int l2), (3, .int l3)]) (st' := []) (by decide +kernel) rfl rfl ?_
    refine ab_fin.s1i (i := .iconst 0) (k := 1) (pc' := 31) (n := 0) (by decide +kernel) rfl (by decide +kernel) rfl ?_
    refine ab_fin.s2 (i := .istore 6) (k := 2) (pc' := 33) (lv' := [(6, .int 0), (5, .int v3), (4, .int (σ.i 0 18)), (0, .ref 0), (1, .ref l1), (2, .int l2), (3, .int l3)]) (st' := []) (by decide +kernel) rfl rfl ?_
    exact ab_fin.lv ⟨(List.forall_mem_cons.mpr ⟨(List.Mem.tail _ (List.Mem.tail _ (List.Mem.tail _ (List.Mem.head _)))), (List.forall_mem_cons.mpr ⟨(List.Mem.tail _ (List.Mem.tail _ (List.Mem.tail _ (List.Mem.tail _ (List.Mem.head _))))), (List.forall_mem_cons.mpr ⟨(List.Mem.tail _ (List.Mem.tail _ (List.Mem.tail _ (List.Mem.tail _ (List.Mem.tail _ (List.Mem.head _)))))), (List.forall_mem_cons.mpr ⟨(List.Mem.tail _ (List.Mem.tail _ (List.Mem.tail _ (List.Mem.tail _ (List.Mem.tail _ (List.Mem.tail _ (List.Mem.head _))))))), (List.forall_mem_cons.mpr ⟨(List.Mem.tail _ (List.Mem.tail _ (List.Mem.head _))), (List.forall_mem_cons.mpr ⟨(List.Mem.tail _ (List.Mem.head _)), (List.forall_mem_cons.mpr ⟨(List.Mem.head _), (fun _ h => absurd h List.not_mem_nil)⟩)⟩)⟩)⟩)⟩)⟩)⟩), (show ([6, 5, 4, 0, 1, 2, 3] : List Nat).Nodup from by decide)⟩ w
  · replace w := w.2 q
    refine ab_fin.s2 (i := .iload_n 3) (k := 1) (pc' := 13) (lv' := [(4, .int (σ.i 0 18)), (0, .ref 0), (1, .ref l1), (2, .int l2), (3, .int l3)]) (st' := [.int l3]) (by decide +kernel) rfl rfl ?_
    refine ab_fin.s2 (i := .iload_n 2) (k := 1) (pc' := 14) (lv' := [(4, .int (σ.i 0 18)), (0, .ref 0), (1, .ref l1), (2, .int l2), (3, .int l3)]) (st' := [.int l2, .int l3]) (by decide +kernel) rfl rfl ?_
    refine ab_fin.br (c := ¬ l3 = l2) (i := .if_icmp .ne 10) (off := 10) (t := 24) (pc' := 17) (r := []) (by decide +kernel) rfl (by decide +kernel) rfl (fun q => ?_) (fun q => ?_)
    · replace w := w.1 q
      refine ab_fin.s2 (i := .aload_n 0) (k := 1) (pc' := 25) (lv' := [(4, .int (σ.i 0 18)), (0, .ref 0), (1, .ref l1), (2, .int l2), (3, .int l3)]) (st' := [.ref 0]) (by decide +kernel) rfl rfl ?_
      refine ab_fin.q_yI (i := .invokevirtual 277) (k := 3) (y := 5909) (As := [.ref 0]) (rest := []) (M' := (mX23_name, [])) (lv2 := [(0, .ref 0)]) (pc' := 28) (X := K) (by decide +kernel) (ab_cv rfl rfl (conc_get (σ := σ) (F.s s0_0)) ⟨(Nat.le_of_ble_eq_true rfl), (Nat.le_of_ble_eq_true rfl)⟩ rfl) rfl (Nat.le_of_ble_eq_true rfl) rfl rfl (hY_no fun E => rfl) w (fun v6 τ4 F5 w => ?_)
      refine ab_fin.s2 (i := .istore 5) (k := 2) (pc' := 30) (lv' := [(5, .int v6), (4, .int (σ.i 0 18)), (0, .ref 0), (1, .ref l1), (2, .int l2), (3, .int l3)]) (st' := []) (by decide +kernel) rfl rfl ?_
      refine ab_fin.s1i (i := .iconst 0) (k := 1) (pc' := 31) (n := 0) (by decide +kernel) rfl (by decide +kernel) rfl ?_
      refine ab_fin.s2 (i := .istore 6) (k := 2) (pc' := 33) (lv' := [(6, .int 0), (5, .int v6), (4, .int (σ.i 0 18)), (0, .ref 0), (1, .ref l1), (2, .int l2), (3, .int l3)]) (st' := []) (by decide +kernel) rfl rfl ?_
      exact ab_fin.lv ⟨(List.forall_mem_cons.mpr ⟨(List.Mem.tail _ (List.Mem.tail _ (List.Mem.tail _ (List.Mem.head _)))), (List.forall_mem_cons.mpr ⟨(List.Mem.tail _ (List.Mem.tail _ (List.Mem.tail _ (List.Mem.tail _ (List.Mem.head _))))), (List.forall_mem_cons.mpr ⟨(List.Mem.tail _ (List.Mem.tail _ (List.Mem.tail _ (List.Mem.tail _ (List.Mem.tail _ (List.Mem.head _)))))), (List.forall_mem_cons.mpr ⟨(List.Mem.tail _ (List.Mem.tail _ (List.Mem.tail _ (List.Mem.tail _ (List.Mem.tail _ (List.Mem.tail _ (List.Mem.head _))))))), (List.forall_mem_cons.mpr ⟨(List.Mem.tail _ (List.Mem.tail _ (List.Mem.head _))), (List.forall_mem_cons.mpr ⟨(List.Mem.tail _ (List.Mem.head _)), (List.forall_mem_cons.mpr ⟨(List.Mem.head _), (fun _ h => absurd h List.not_mem_nil)⟩)⟩)⟩)⟩)⟩)⟩)⟩), (show ([6, 5, 4, 0, 1, 2, 3] : List Nat).Nodup from by decide)⟩ w
    · replace w := w.2 (Decidable.of_not_not q)
      refine ab_fin.s2 (i := .aload_n 0) (k := 1) (pc' := 18) (lv' := [(4, .int (σ.i 0 18)), (0, .ref 0), (1, .ref l1), (2, .int l2), (3, .int l3)]) (st' := [.ref 0]) (by decide +kernel) rfl rfl ?_
      refine ab_fin.s1i (i := .iconst 4) (k := 1) (pc' := 19) (n := 4) (by decide +kernel) rfl (by decide +kernel) rfl ?_
      refine ab_fin.s2 (i := .iload 4) (k := 2) (pc' := 21) (lv' := [(4, .int (σ.i 0 18)), (0, .ref 0), (1, .ref l1), (2, .int l2), (3, .int l3)]) (st' := [.int (σ.i 0 18), .int 4, .ref 0]) (by decide +kernel) rfl rfl ?_
      refine ab_fin.q_yN (i := .invokevirtual 259) (k := 3) (y := 5910) (As := [.ref 0, .int 4, .int (σ.i 0 18)]) (rest := []) (M' := (mX23_breaks, [])) (lv2 := [(0, .ref 0), (1, .int 4), (2, .int (σ.i 0 18))]) (pc' := 24) (X := K) (by decide +kernel) (ab_cv rfl rfl (conc_get (σ := σ) (F.s s0_0)) ⟨(Nat.le_of_ble_eq_true rfl), (Nat.le_of_ble_eq_true rfl)⟩ rfl) rfl (Nat.le_of_ble_eq_true rfl) rfl rfl (hY_no fun E => rfl) w (fun τ7 F8 w => ?_)
      refine ab_fin.s2 (i := .aload_n 0) (k := 1) (pc' := 25) (lv' := [(4, .int (σ.i 0 18)), (0, .ref 0), (1, .ref l1), (2, .int l2), (3, .int l3)]) (st' := [.ref 0]) (by decide +kernel) rfl rfl ?_
      refine ab_fin.q_yI (i := .invokevirtual 277) (k := 3) (y := 5909) (As := [.ref 0]) (rest := []) (M' := (mX23_name, [])) (lv2 := [(0, .ref 0)]) (pc' := 28) (X := K) (by decide +kernel) (ab_cv rfl rfl (conc_get (σ := τ7) (F8.s s0_0)) ⟨(Nat.le_of_ble_eq_true rfl), (Nat.le_of_ble_eq_true rfl)⟩ rfl) rfl (Nat.le_of_ble_eq_true rfl) rfl rfl (hY_no fun E => rfl) w (fun v11 τ9 F10 w => ?_)
      refine ab_fin.s2 (i := .istore 5) (k := 2) (pc' := 30) (lv' := [(5, .int v11), (4, .int (σ.i 0 18)), (0, .ref 0), (1, .ref l1), (2, .int l2), (3, .int l3)]) (st' := []) (by decide +kernel) rfl rfl ?_
      refine ab_fin.s1i (i := .iconst 0) (k := 1) (pc' := 31) (n := 0) (by decide +kernel) rfl (by decide +kernel) rfl ?_
      refine ab_fin.s2 (i := .istore 6) (k := 2) (pc' := 33) (lv' := [(6, .int 0), (5, .int v11), (4, .int (σ.i 0 18)), (0, .ref 0), (1, .ref l1), (2, .int l2), (3, .int l3)]) (st' := []) (by decide +kernel) rfl rfl ?_
      exact ab_fin.lv ⟨(List.forall_mem_cons.mpr ⟨(List.Mem.tail _ (List.Mem.tail _ (List.Mem.tail _ (List.Mem.head _)))), (List.forall_mem_cons.mpr ⟨(List.Mem.tail _ (List.Mem.tail _ (List.Mem.tail _ (List.Mem.tail _ (List.Mem.head _))))), (List.forall_mem_cons.mpr ⟨(List.Mem.tail _ (List.Mem.tail _ (List.Mem.tail _ (List.Mem.tail _ (List.Mem.tail _ (List.Mem.head _)))))), (List.forall_mem_cons.mpr ⟨(List.Mem.tail _ (List.Mem.tail _ (List.Mem.tail _ (List.Mem.tail _ (List.Mem.tail _ (List.Mem.tail _ (List.Mem.head _))))))), (List.forall_mem_cons.mpr ⟨(List.Mem.tail _ (List.Mem.tail _ (List.Mem.head _))), (List.forall_mem_cons.mpr ⟨(List.Mem.tail _ (List.Mem.head _)), (List.forall_mem_cons.mpr ⟨(List.Mem.head _), (fun _ h => absurd h List.not_mem_nil)⟩)⟩)⟩)⟩)⟩)⟩)⟩), (show ([6, 5, 4, 0, 1, 2, 3] : List Nat).Nodup from by decide)⟩ w
theorem S_X23_specs_33 {Z : zT} {d : Nat} {σ : Sg} {l1 : Nat} {l2 : Int32} {l3 : Int32} {l4 : Int32} {l5 : Int32} {l6 : Int32} {K : kS} (F : FX ΦR σ.sh σ.r) (w : ((σ.i 0 32) ≤ l6 → (3 ≤ (σ.i 0 32) → B_X23_specs_100 Z (d + 1) σ l1 l2 l3 K) ∧ (¬ 3 ≤ (σ.i 0 32) → ib (σ.i 0 32) 64 ∧ (B_X23_specs_100 Z (d + 1) ((σ.wi 54 ((σ.i 0 32).toNatClampNeg) l5).wi 0 32 ((σ.i 0 32) + (1 : Int32))) l1 l2 l3 K))) ∧ (¬ (σ.i 0 32) ≤ l6 → ib l6 64 ∧ (B_X23_isSame_0 Z d σ (σ.i 54 l6.toNatClampNeg) l5 (yI K fun v5 τ3 => (v5 = 0 → B_X23_specs_33 Z (d + 1) τ3 l1 l2 l3 l4 l5 (l6 + 1) K) ∧ (¬ v5 = 0 → B_X23_breaks_0 Z d τ3 2 l4 (yN K fun τ6 => B_X23_specs_33 Z (d + 1) τ6 l1 l2 l3 l4 l5 (l6 + 1) K)))))) : B_X23_specs_33 Z (d + 1) σ l1 l2 l3 l4 l5 l6 K := by
  unfold B_X23_specs_33
  refine ab_fin.s2 (i := .iload 6) (k := 2) (pc' := 35) (lv' := [(0, .ref 0), (1, .ref l1), (2, .int l2), (3, .int l3), (4, .int l4), (5, .int l5), (6, .int l6)]) (st' := [.int l6]) (by decide +kernel) rfl rfl ?_
  refine ab_fin.s2 (i := .aload_n 0) (k := 1) (pc' := 36) (lv' := [(0, .ref 0), (1, .ref l1), (2, .int l2), (3, .int l3), (4, .int l4), (5, .int l5), (6, .int l6)]) (st' := [.ref 0, .int l6]) (by decide +kernel) rfl rfl ?_
  refine ab_fin.q_rI (x := (σ.i 0 32)) (ix := 339) (ci := 24) (k := 32) (pc' := 39) (by decide +kernel) rfl (c_rI (F.s s0_0) rfl) rfl ?_
  refine ab_fin.br (c := (σ.i 0 32) ≤ l6) (i := .if_icmp .ge 32) (off := 32) (t := 71) (pc' := 42) (r := []) (by decide +kernel) rfl (by decide +kernel) rfl (fun q => ?_) (fun q => ?_)
  · replace w := w.1 q
    refine ab_fin.s2 (i := .aload_n 0) (k := 1) (pc' := 72) (lv' := [(0, .ref 0), (1, .ref l1), (2, .int l2), (3, .int l3), (4, .int l4), (5, .int l5), (6, .int l6)]) (st' := [.ref 0]) (by decide +kernel) rfl rfl ?_
    refine ab_fin.q_rI (x := (σ.i 0 32)) (ix := 339) (ci := 24) (k := 32) (pc' := 75) (by decide +kernel) rfl (c_rI (F.s s0_0) rfl) rfl ?_
    refine ab_fin.s1i (i := .iconst 3) (k := 1) (pc' := 76) (n := 3) (by decide +kernel) rfl (by decide +kernel) rfl ?_
    refine ab_fin.br (c := 3 ≤ (σ.i 0 32)) (i := .if_icmp .ge 24) (off := 24) (t := 100) (pc' := 79) (r := []) (by decide +kernel) rfl (by decide +kernel) rfl (fun q => ?_) (fun q => ?_)
    · replace w := w.1 q
      exact ab_fin.lv ⟨(List.forall_mem_cons.mpr ⟨(List.Mem.head _), (List.forall_mem_cons.mpr ⟨(List.Mem.tail _ (List.Mem.head _)), (List.forall_mem_cons.mpr ⟨(List.Mem.tail _ (List.Mem.tail _ (List.Mem.head _))), (List.forall_mem_cons.mpr ⟨(List.Mem.tail _ (List.Mem.tail _ (List.Mem.tail _ (List.Mem.head _)))), (fun _ h => absurd h List.not_mem_nil)⟩)⟩)⟩)⟩), (show ([0, 1, 2, 3, 4, 5, 6] : List Nat).Nodup from by decide)⟩ w
    · replace w := w.2 q
      refine ab_fin.s2 (i := .aload_n 0) (k := 1) (pc' := 80) (lv' := [(0, .ref 0), (1, .ref l1), (2, .int l2), (3, .int l3), (4, .int l4), (5, .int l5), (6, .int l6)]) (st' := [.ref 0]) (by decide +kernel) rfl rfl ?_
      refine ab_fin.q_rA (b := 54) (ix := 382) (ci := 24) (k := 31) (pc' := 83) (by decide +kernel) rfl (c_rA (F.s s0_0) rfl (rM_31 F)) rfl ?_
      refine ab_fin.s2 (i := .aload_n 0) (k := 1) (pc' := 84) (lv' := [(0, .ref 0), (1, .ref l1), (2, .int l2), (3, .int l3), (4, .int l4), (5, .int l5), (6, .int l6)]) (st' := [.ref 0, .ref 54]) (by decide +kernel) rfl rfl ?_
      refine ab_fin.q_rI (x := (σ.i 0 32)) (ix := 339) (ci := 24) (k := 32) (pc' := 87) (by decide +kernel) rfl (c_rI (F.s s0_0) rfl) rfl ?_
      refine ab_fin.s2 (i := .iload 5) (k := 2) (pc' := 89) (lv' := [(0, .ref 0), (1, .ref l1), (2, .int l2), (3, .int l3), (4, .int l4), (5, .int l5), (6, .int l6)]) (st' := [.int l5, .int (σ.i 0 32), .ref 54]) (by decide +kernel) rfl rfl ?_
      obtain ⟨e1, w⟩ := w
      refine ab_fin.q_sI (h1 := conc (σ.wi 54 ((σ.i 0 32).toNatClampNeg) l5)) (pc' := 90) (by decide +kernel) (c_sI' (F.s s0_54) e1 rfl) rfl ?_
      refine ab_fin.s2 (i := .aload_n 0) (k := 1) (pc' := 91) (lv' := [(0, .ref 0), (1, .ref l1), (2, .int l2), (3, .int l3), (4, .int l4), (5, .int l5), (6, .int l6)]) (st' := [.ref 0]) (by decide +kernel) rfl rfl ?_
      refine ab_fin.s1 (i := .dup) (k := 1) (pc' := 92) (st' := [.ref 0, .ref 0]) (by decide +kernel) rfl rfl ?_
      refine ab_fin.q_rI (x := (σ.i 0 32)) (ix := 339) (ci := 24) (k := 32) (pc' := 95) (by decide +kernel) rfl (c_rI (F.s s0_0) rfl) rfl ?_
      refine ab_fin.s1i (i := .iconst 1) (k := 1) (pc' := 96) (n := 1) (by decide +kernel) rfl (by decide +kernel) rfl ?_
      refine ab_fin.s1 (i := .iadd) (k := 1) (pc' := 97) (st' := [.int ((σ.i 0 32) + (1 : Int32)), .ref 0]) (by decide +kernel) rfl rfl ?_
      refine ab_fin.q_pF (ix := 339) (ci := 24) (k := 32) (h1 := conc ((σ.wi 54 ((σ.i 0 32).toNatClampNeg) l5).wi 0 32 ((σ.i 0 32) + (1 : Int32)))) (pc' := 100) (by decide +kernel) rfl (c_pI (v := ((σ.i 0 32) + (1 : Int32))) (F.s s0_0) rfl) rfl rfl rfl ?_
      exact ab_fin.lv ⟨(List.forall_mem_cons.mpr ⟨(List.Mem.head _), (List.forall_mem_cons.mpr ⟨(List.Mem.tail _ (List.Mem.head _)), (List.forall_mem_cons.mpr ⟨(List.Mem.tail _ (List.Mem.tail _ (List.Mem.head _))), (List.forall_mem_cons.mpr ⟨(List.Mem.tail _ (List.Mem.tail _ (List.Mem.tail _ (List.Mem.head _)))), (fun _ h => absurd h List.not_mem_nil)⟩)⟩)⟩)⟩), (show ([0, 1, 2, 3, 4, 5, 6] : List Nat).Nodup from by decide)⟩ w
  · replace w := w.2 q
    refine ab_fin.s2 (i := .aload_n 0) (k := 1) (pc' := 43) (lv' := [(0, .ref 0), (1, .ref l1), (2, .int l2), (3, .int l3), (4, .int l4), (5, .int l5), (6, .int l6)]) (st' := [.ref 0]) (by decide +kernel) rfl rfl ?_
    refine ab_fin.s2 (i := .aload_n 0) (k := 1) (pc' := 44) (lv' := [(0, .ref 0), (1, .ref l1), (2, .int l2), (3, .int l3), (4, .int l4), (5, .int l5), (6, .int l6)]) (st' := [.ref 0, .ref 0]) (by decide +kernel) rfl rfl ?_
    refine ab_fin.q_rA (b := 54) (ix := 382) (ci := 24) (k := 31) (pc' := 47) (by decide +kernel) rfl (c_rA (F.s s0_0) rfl (rM_31 F)) rfl ?_
    refine ab_fin.s2 (i := .iload 6) (k := 2) (pc' := 49) (lv' := [(0, .ref 0), (1, .ref l1), (2, .int l2), (3, .int l3), (4, .int l4), (5, .int l5), (6, .int l6)]) (st' := [.int l6, .ref 54, .ref 0]) (by decide +kernel) rfl rfl ?_
    obtain ⟨e2, w⟩ := w
    refine ab_fin.q_eI (x := (σ.i 54 l6.toNatClampNeg)) (pc' := 50) (by decide +kernel) (c_eI' (F.s s0_54) e2 rfl) rfl ?_
    refine ab_fin.s2 (i := .iload 5) (k := 2) (pc' := 52) (lv' := [(0, .ref 0), (1, .ref l1), (2, .int l2), (3, .int l3), (4, .int l4), (5, .int l5), (6, .int l6)]) (st' := [.int l5, .int (σ.i 54 l6.toNatClampNeg), .ref 0]) (by decide +kernel) rfl rfl ?_
    refine ab_fin.q_yI (i := .invokevirtual 385) (k := 3) (y := 5889) (As := [.ref 0, .int (σ.i 54 l6.toNatClampNeg), .int l5]) (rest := []) (M' := (mX23_isSame, [])) (lv2 := [(0, .ref 0), (1, .int (σ.i 54 l6.toNatClampNeg)), (2, .int l5)]) (pc' := 55) (X := K) (by decide +kernel) (ab_cv rfl rfl (conc_get (σ := σ) (F.s s0_0)) ⟨(Nat.le_of_ble_eq_true rfl), (Nat.le_of_ble_eq_true rfl)⟩ rfl) rfl (Nat.le_of_ble_eq_true rfl) rfl rfl (hY_no fun E => rfl) w (fun v5 τ3 F4 w => ?_)
    refine ab_fin.br (c := v5 = 0) (i := .ifCond .eq 10) (off := 10) (t := 65) (pc' := 58) (r := []) (by decide +kernel) rfl (by decide +kernel) rfl (fun q => ?_) (fun q => ?_)
    · replace w := w.1 q
      refine ab_fin.q_inc (n := 6) (c := 1) (pc' := 68) (lv' := [(6, .int (l6 + 1)), (0, .ref 0), (1, .ref l1), (2, .int l2), (3, .int l3), (4, .int l4), (5, .int l5)]) (by decide +kernel) (by decide) rfl rfl rfl rfl ?_
      refine ab_fin.s3 (i := .goto (-35)) (k := 3) (t := 33) (st' := []) (by decide +kernel) (ab_gto (by decide +kernel)) ?_
      exact ab_fin.lv ⟨(List.forall_mem_cons.mpr ⟨(List.Mem.tail _ (List.Mem.head _)), (List.forall_mem_cons.mpr ⟨(List.Mem.tail _ (List.Mem.tail _ (List.Mem.head _))), (List.forall_mem_cons.mpr ⟨(List.Mem.tail _ (List.Mem.tail _ (List.Mem.tail _ (List.Mem.head _)))), (List.forall_mem_cons.mpr ⟨(List.Mem.tail _ (List.Mem.tail _ (List.Mem.tail _ (List.Mem.tail _ (List.Mem.head _))))), (List.forall_mem_cons.mpr ⟨(List.Mem.tail _ (List.Mem.tail _ (List.Mem.tail _ (List.Mem.tail _ (List.Mem.tail _ (List.Mem.head _)))))), (List.forall_mem_cons.mpr ⟨(List.Mem.tail _ (List.Mem.tail _ (List.Mem.tail _ (List.Mem.tail _ (List.Mem.tail _ (List.Mem.tail _ (List.Mem.head _))))))), (List.forall_mem_cons.mpr ⟨(List.Mem.head _), (fun _ h => absurd h List.not_mem_nil)⟩)⟩)⟩)⟩)⟩)⟩)⟩), (show ([6, 0, 1, 2, 3, 4, 5] : List Nat).Nodup from by decide)⟩ w
    · replace w := w.2 q
      refine ab_fin.s2 (i := .aload_n 0) (k := 1) (pc' := 59) (lv' := [(0, .ref 0), (1, .ref l1), (2, .int l2), (3, .int l3), (4, .int l4), (5, .int l5), (6, .int l6)]) (st' := [.ref 0]) (by decide +kernel) rfl rfl ?_
      refine ab_fin.s1i (i := .iconst 2) (k := 1) (pc' := 60) (n := 2) (by decide +kernel) rfl (by decide +kernel) rfl ?_
      refine ab_fin.s2 (i := .iload 4) (k := 2) (pc' := 62) (lv' := [(0, .ref 0), (1, .ref l1), (2, .int l2), (3, .int l3), (4, .int l4), (5, .int l5), (6, .int l6)]) (st' := [.int l4, .int 2, .ref 0]) (by decide +kernel) rfl rfl ?_
      refine ab_fin.q_yN (i := .invokevirtual 259) (k := 3) (y := 5910) (As := [.ref 0, .int 2, .int l4]) (rest := []) (M' := (mX23_breaks, [])) (lv2 := [(0, .ref 0), (1, .int 2), (2, .int l4)]) (pc' := 65) (X := K) (by decide +kernel) (ab_cv rfl rfl (conc_get (σ := τ3) (F4.s s0_0)) ⟨(Nat.le_of_ble_eq_true rfl), (Nat.le_of_ble_eq_true rfl)⟩ rfl) rfl (Nat.le_of_ble_eq_true rfl) rfl rfl (hY_no fun E => rfl) w (fun τ6 F7 w => ?_)
      refine ab_fin.q_inc (n := 6) (c := 1) (pc' := 68) (lv' := [(6, .int (l6 + 1)), (0, .ref 0), (1, .ref l1), (2, .int l2), (3, .int l3), (4, .int l4), (5, .int l5)]) (by decide +kernel) (by decide) rfl rfl rfl rfl ?_
      refine ab_fin.s3 (i := .goto (-35)) (k := 3) (t := 33) (st' := []) (by decide +kernel) (ab_gto (by decide +kernel)) ?_
      exact ab_fin.lv ⟨(List.forall_mem_cons.mpr ⟨(List.Mem.tail _ (List.Mem.head _)), (List.forall_mem_cons.mpr ⟨(List.Mem.tail _ (List.Mem.tail _ (List.Mem.head _))), (List.forall_mem_cons.mpr ⟨(List.Mem.tail _ (List.Mem.tail _ (List.Mem.tail _ (List.Mem.head _)))), (List.forall_mem_cons.mpr ⟨(List.Mem.tail _ (List.Mem.tail _ (List.Mem.tail _ (List.Mem.tail _ (List.Mem.head _))))), (List.forall_mem_cons.mpr ⟨(List.Mem.tail _ (List.Mem.tail _ (List.Mem.tail _ (List.Mem.tail _ (List.Mem.tail _ (List.Mem.head _)))))), (List.forall_mem_cons.mpr ⟨(List.Mem.tail _ (List.Mem.tail _ (List.Mem.tail _ (List.Mem.tail _ (List.Mem.tail _ (List.Mem.tail _ (List.Mem.head _))))))), (List.forall_mem_cons.mpr ⟨(List.Mem.head _), (fun _ h => absurd h List.not_mem_nil)⟩)⟩)⟩)⟩)⟩)⟩)⟩), (show ([6, 0, 1, 2, 3, 4, 5] : List Nat).Nodup from by decide)⟩ w
theorem S_X23_specs_100 {Z : zT} {d : Nat} {σ : Sg} {l1 : Nat} {l2 : Int32} {l3 : Int32} {K : kS} (F : FX ΦR σ.sh σ.r) (w : B_X23_is_0 Z d σ 58 (yI K fun v3 τ1 => (v3 = 0 → B_X23_specs_150 Z (d + 1) τ1 l1 l2 l3 0 0 0 K) ∧ (¬ v3 = 0 → B_X23_next_0 Z d τ1  (yN K fun τ4 => B_X23_name_0 Z d τ4  (yI K fun v8 τ6 => B_X23_kindNamed_0 Z d τ6 v8 (yI K fun v11 τ9 => (0 ≤ v11 → B_X23_specs_150 Z (d + 1) τ9 l1 l2 l3 v11 0 0 K) ∧ (¬ 0 ≤ v11 → B_X23_breaks_0 Z d τ9 3 (τ4.i 0 18) (yN K fun τ12 => B_X23_specs_150 Z (d + 1) τ12 l1 l2 l3 v11 0 0 K)))))))) : B_X23_specs_100 Z (d + 1) σ l1 l2 l3 K := by
  unfold B_X23_specs_100
  refine ab_fin.s1i (i := .iconst 0) (k := 1) (pc' := 101) (n := 0) (by decide +kernel) rfl (by decide +kernel) rfl ?_
  refine ab_fin.s2 (i := .istore 6) (k := 2) (pc' := 103) (lv' := [(6, .int 0), (0, .ref 0), (1, .ref l1), (2, .int l2), (3, .int l3)]) (st' := []) (by decide +kernel) rfl rfl ?_
  refine ab_fin.s1i (i := .iconst 0) (k := 1) (pc' := 104) (n := 0) (by decide +kernel) rfl (by decide +kernel) rfl ?_
  refine ab_fin.s2 (i := .istore 7) (k := 2) (pc' := 106) (lv' := [(7, .int 0), (6, .int 0), (0, .ref 0), (1, .ref l1), (2, .int l2), (3, .int l3)]) (st' := []) (by decide +kernel) rfl rfl ?_
  refine ab_fin.s1i (i := .iconst 0) (k := 1) (pc' := 107) (n := 0) (by decide +kernel) rfl (by decide +kernel) rfl ?_
  refine ab_fin.s2 (i := .istore 8) (k := 2) (pc' := 109) (lv' := [(8, .int 0), (7, .int 0), (6, .int 0), (0, .ref 0), (1, .ref l1), (2, .int l2), (3, .int l3)]) (st' := []) (by decide +kernel) rfl rfl ?_
  refine ab_fin.s2 (i := .aload_n 0) (k := 1) (pc' := 110) (lv' := [(8, .int 0), (7, .int 0), (6, .int 0), (0, .ref 0), (1, .ref l1), (2, .int l2), (3, .int l3)]) (st' := [.ref 0]) (by decide +kernel) rfl rfl ?_
  refine ab_fin.s1i (i := .bipush 58) (k := 2) (pc' := 112) (n := 58) (by decide +kernel) rfl (by decide +kernel) rfl ?_
  refine ab_fin.q_yI (i := .invokevirtual 233) (k := 3) (y := 5904) (As := [.ref 0, .int 58]) (rest := []) (M' := (mX23_is, [])) (lv2 := [(0, .ref 0), (1, .int 58)]) (pc' := 115) (X := K) (by decide +kernel) (ab_cv rfl rfl (conc_get (σ := σ) (F.s s0_0)) ⟨(Nat.le_of_ble_eq_true rfl), (Nat.le_of_ble_eq_true rfl)⟩ rfl) rfl (Nat.le_of_ble_eq_true rfl) rfl rfl (hY_no fun E => rfl) w (fun v3 τ1 F2 w => ?_)
  refine ab_fin.br (c := v3 = 0) (i := .ifCond .eq 35) (off := 35) (t := 150) (pc' := 118) (r := []) (by decide +kernel) rfl (by decide +kernel) rfl (fun q => ?_) (fun q => ?_)
  · replace w := w.1 q
    exact ab_fin.lv ⟨(List.forall_mem_cons.mpr ⟨(List.Mem.tail _ (List.Mem.tail _ (List.Mem.tail _ (List.Mem.head _)))), (List.forall_mem_cons.mpr ⟨(List.Mem.tail _ (List.Mem.tail _ (List.Mem.tail _ (List.Mem.tail _ (List.Mem.head _))))), (List.forall_mem_cons.mpr ⟨(List.Mem.tail _ (List.Mem.tail _ (List.Mem.tail _ (List.Mem.tail _ (List.Mem.tail _ (List.Mem.head _)))))), (List.forall_mem_cons.mpr ⟨(List.Mem.tail _ (List.Mem.tail _ (List.Mem.tail _ (List.Mem.tail _ (List.Mem.tail _ (List.Mem.tail _ (List.Mem.head _))))))), (List.forall_mem_cons.mpr ⟨(List.Mem.tail _ (List.Mem.tail _ (List.Mem.head _))), (List.forall_mem_cons.mpr ⟨(List.Mem.tail _ (List.Mem.head _)), (List.forall_mem_cons.mpr ⟨(List.Mem.head _), (fun _ h => absurd h List.not_mem_nil)⟩)⟩)⟩)⟩)⟩)⟩)⟩), (show ([8, 7, 6, 0, 1, 2, 3] : List Nat).Nodup from by decide)⟩ w
  · replace w := w.2 q
    refine ab_fin.s2 (i := .aload_n 0) (k := 1) (pc' := 119) (lv' := [(8, .int 0), (7, .int 0), (6, .int 0), (0, .ref 0), (1, .ref l1), (2, .int l2), (3, .int l3)]) (st' := [.ref 0]) (by decide +kernel) rfl rfl ?_
    refine ab_fin.q_yN (i := .invokevirtual 239) (k := 3) (y := 5902) (As := [.ref 0]) (rest := []) (M' := (mX23_next, [])) (lv2 := [(0, .ref 0)]) (pc' := 122) (X := K) (by decide +kernel) (ab_cv rfl rfl (conc_get (σ := τ1) (F2.s s0_0)) ⟨(Nat.le_of_ble_eq_true rfl), (Nat.le_of_ble_eq_true rfl)⟩ rfl) rfl (Nat.le_of_ble_eq_true rfl) rfl rfl (hY_no fun E => rfl) w (fun τ4 F5 w => ?_)
    refine ab_fin.s2 (i := .aload_n 0) (k := 1) (pc' := 123) (lv' := [(8, .int 0), (7, .int 0), (6, .int 0), (0, .ref 0), (1, .ref l1), (2, .int l2), (3, .int l3)]) (st' := [.ref 0]) (by decide +kernel) rfl rfl ?_
    refine ab_fin.q_rI (x := (τ4.i 0 18)) (ix := 106) (ci := 24) (k := 18) (pc' := 126) (by decide +kernel) rfl (c_rI (F5.s s0_0) rfl) rfl ?_
    refine ab_fin.s2 (i := .istore 9) (k := 2) (pc' := 128) (lv' := [(9, .int (τ4.i 0 18)), (8, .int 0), (7, .int 0), (6, .int 0), (0, .ref 0), (1, .ref l1), (2, .int l2), (3, .int l3)]) (st' := []) (by decide +kernel) rfl rfl ?_
    refine ab_fin.s2 (i := .aload_n 0) (k := 1) (pc' := 129) (lv' := [(9, .int (τ4.i 0 18)), (8, .int 0), (7, .int 0), (6, .int 0), (0, .ref 0), (1, .ref l1), (2, .int l2), (3, .int l3)]) (st' := [.ref 0]) (by decide +kernel) rfl rfl ?_
    refine ab_fin.s2 (i := .aload_n 0) (k := 1) (pc' := 130) (lv' := [(9, .int (τ4.i 0 18)), (8, .int 0), (7, .int 0), (6, .int 0), (0, .ref 0), (1, .ref l1), (2, .int l2), (3, .int l3)]) (st' := [.ref 0, .ref 0]) (by decide +kernel) rfl rfl ?_
    refine ab_fin.q_yI (i := .invokevirtual 277) (k := 3) (y := 5909) (As := [.ref 0]) (rest := [.ref 0]) (M' := (mX23_name, [])) (lv2 := [(0, .ref 0)]) (pc' := 133) (X := K) (by decide +kernel) (ab_cv rfl rfl (conc_get (σ := τ4) (F5.s s0_0)) ⟨(Nat.le_of_ble_eq_true rfl), (Nat.le_of_ble_eq_true rfl)⟩ rfl) rfl (Nat.le_of_ble_eq_true rfl) rfl rfl (hY_no fun E => rfl) w (fun v8 τ6 F7 w => ?_)
    refine ab_fin.q_yI (i := .invokevirtual 48) (k := 3) (y := 5890) (As := [.ref 0, .int v8]) (rest := []) (M' := (mX23_kindNamed, [])) (lv2 := [(0, .ref 0), (1, .int v8)]) (pc' := 136) (X := K) (by decide +kernel) (ab_cv rfl rfl (conc_get (σ := τ6) (F7.s s0_0)) ⟨(Nat.le_of_ble_eq_true rfl), (Nat.le_of_ble_eq_true rfl)⟩ rfl) rfl (Nat.le_of_ble_eq_true rfl) rfl rfl (hY_no fun E => rfl) w (fun v11 τ9 F10 w => ?_)
    refine ab_fin.s2 (i := .istore 6) (k := 2) (pc' := 138) (lv' := [(6, .int v11), (9, .int (τ4.i 0 18)), (8, .int 0), (7, .int 0), (0, .ref 0), (1, .ref l1), (2, .int l2), (3, .int l3)]) (st' := []) (by decide +kernel) rfl rfl ?_
    refine ab_fin.s2 (i := .iload 6) (k := 2) (pc' := 140) (lv' := [(6, .int v11), (9, .int (τ4.i 0 18)), (8, .int 0), (7, .int 0), (0, .ref 0), (1, .ref l1), (2, .int l2), (3, .int l3)]) (st' := [.int v11]) (by decide +kernel) rfl rfl ?_
    refine ab_fin.br (c := 0 ≤ v11) (i := .ifCond .ge 10) (off := 10) (t := 150) (pc' := 143) (r := []) (by decide +kernel) rfl (by decide +kernel) rfl (fun q => ?_) (fun q => ?_)
    · replace w := w.1 q
      exact ab_fin.lv ⟨(List.forall_mem_cons.mpr ⟨(List.Mem.tail _ (List.Mem.tail _ (List.Mem.tail _ (List.Mem.tail _ (List.Mem.head _))))), (List.forall_mem_cons.mpr ⟨(List.Mem.tail _ (List.Mem.tail _ (List.Mem.tail _ (List.Mem.tail _ (List.Mem.tail _ (List.Mem.head _)))))), (List.forall_mem_cons.mpr ⟨(List.Mem.tail _ (List.Mem.tail _ (List.Mem.tail _ (List.Mem.tail _ (List.Mem.tail _ (List.Mem.tail _ (List.Mem.head _))))))), (List.forall_mem_cons.mpr ⟨(List.Mem.tail _ (List.Mem.tail _ (List.Mem.tail _ (List.Mem.tail _ (List.Mem.tail _ (List.Mem.tail _ (List.Mem.tail _ (List.Mem.head _)))))))), (List.forall_mem_cons.mpr ⟨(List.Mem.head _), (List.forall_mem_cons.mpr ⟨(List.Mem.tail _ (List.Mem.tail _ (List.Mem.tail _ (List.Mem.head _)))), (List.forall_mem_cons.mpr ⟨(List.Mem.tail _ (List.Mem.tail _ (List.Mem.head _))), (fun _ h => absurd h List.not_mem_nil)⟩)⟩)⟩)⟩)⟩)⟩)⟩), (show ([6, 9, 8, 7, 0, 1, 2, 3] : List Nat).Nodup from by decide)⟩ w
    · replace w := w.2 q
      refine ab_fin.s2 (i := .aload_n 0) (k := 1) (pc' := 144) (lv' := [(6, .int v11), (9, .int (τ4.i 0 18)), (8, .int 0), (7, .int 0), (0, .ref 0), (1, .ref l1), (2, .int l2), (3, .int l3)]) (st' := [.ref 0]) (by decide +kernel) rfl rfl ?_
      refine ab_fin.s1i (i := .iconst 3) (k := 1) (pc' := 145) (n := 3) (by decide +kernel) rfl (by decide +kernel) rfl ?_
      refine ab_fin.s2 (i := .iload 9) (k := 2) (pc' := 147) (lv' := [(6, .int v11), (9, .int (τ4.i 0 18)), (8, .int 0), (7, .int 0), (0, .ref 0), (1, .ref l1), (2, .int l2), (3, .int l3)]) (st' := [.int (τ4.i 0 18), .int 3, .ref 0]) (by decide +kernel) rfl rfl ?_
      refine ab_fin.q_yN (i := .invokevirtual 259) (k := 3) (y := 5910) (As := [.ref 0, .int 3, .int (τ4.i 0 18)]) (rest := []) (M' := (mX23_breaks, [])) (lv2 := [(0, .ref 0), (1, .int 3), (2, .int (τ4.i 0 18))]) (pc' := 150) (X := K) (by decide +kernel) (ab_cv rfl rfl (conc_get (σ := τ9) (F10.s s0_0)) ⟨(Nat.le_of_ble_eq_true rfl), (Nat.le_of_ble_eq_true rfl)⟩ rfl) rfl (Nat.le_of_ble_eq_true rfl) rfl rfl (hY_no fun E => rfl) w (fun τ12 F13 w => ?_)
      exact ab_fin.lv ⟨(List.forall_mem_cons.mpr ⟨(List.Mem.tail _ (List.Mem.tail _ (List.Mem.tail _ (List.Mem.tail _ (List.Mem.head _))))), (List.forall_mem_cons.mpr ⟨(List.Mem.tail _ (List.Mem.tail _ (List.Mem.tail _ (List.Mem.tail _ (List.Mem.tail _ (List.Mem.head _)))))), (List.forall_mem_cons.mpr ⟨(List.Mem.tail _ (List.Mem.tail _ (List.Mem.tail _ (List.Mem.tail _ (List.Mem.tail _ (List.Mem.tail _ (List.Mem.head _))))))), (List.forall_mem_cons.mpr ⟨(List.Mem.tail _ (List.Mem.tail _ (List.Mem.tail _ (List.Mem.tail _ (List.Mem.tail _ (List.Mem.tail _ (List.Mem.tail _ (List.Mem.head _)))))))), (List.forall_mem_cons.mpr ⟨(List.Mem.head _), (List.forall_mem_cons.mpr ⟨(List.Mem.tail _ (List.Mem.tail _ (List.Mem.tail _ (List.Mem.head _)))), (List.forall_mem_cons.mpr ⟨(List.Mem.tail _ (List.Mem.tail _ (List.Mem.head _))), (fun _ h => absurd h List.not_mem_nil)⟩)⟩)⟩)⟩)⟩)⟩)⟩), (show ([6, 9, 8, 7, 0, 1, 2, 3] : List Nat).Nodup from by decide)⟩ w
theorem S_X23_specs_150 {Z : zT} {d : Nat} {σ : Sg} {l1 : Nat} {l2 : Int32} {l3 : Int32} {l6 : Int32} {l7 : Int32} {l8 : Int32} {K : kS} (F : FX ΦR σ.sh σ.r) (w : B_X23_is_0 Z d σ 317 (yI K fun v3 τ1 => (v3 = 0 → B_X23_specs_173 Z (d + 1) τ1 l1 l2 l3 l6 l7 l8 K) ∧ (¬ v3 = 0 → B_X23_next_0 Z d τ1  (yN K fun τ4 => B_X23_signed_0 Z d τ4  (yI K fun v8 τ6 => B_X23_specs_173 Z (d + 1) τ6 l1 l2 l3 l6 v8 1 K))))) : B_X23_specs_150 Z (d + 1) σ l1 l2 l3 l6 l7 l8 K := by
  unfold B_X23_specs_150
  refine ab_fin.s2 (i := .aload_n 0) (k := 1) (pc' := 151) (lv' := [(0, .ref 0), (1, .ref l1), (2, .int l2), (3, .int l3), (6, .int l6), (7, .int l7), (8, .int l8)]) (st' := [.ref 0]) (by decide +kernel) rfl rfl ?_
  refine ab_fin.s1i (i := .sipush 317) (k := 3) (pc' := 154) (n := 317) (by decide +kernel) rfl (by decide +kernel) rfl ?_
  refine ab_fin.q_yI (i := .invokevirtual 233) (k := 3) (y := 5904) (As := [.ref 0, .int 317]) (rest := []) (M' := (mX23_is, [])) (lv2 := [(0, .ref 0), (1, .int 317)]) (pc' := 157) (X := K) (by decide +kernel) (ab_cv rfl rfl (conc_get (σ := σ) (F.s s0_0)) ⟨(Nat.le_of_ble_eq_true rfl), (Nat.le_of_ble_eq_true rfl)⟩ rfl) rfl (Nat.le_of_ble_eq_true rfl) rfl rfl (hY_no fun E => rfl) w (fun v3 τ1 F2 w => ?_)
  refine ab_fin.br (c := v3 = 0) (i := .ifCond .eq 16) (off := 16) (t := 173) (pc' := 160) (r := []) (by decide +kernel) rfl (by decide +kernel) rfl (fun q => ?_) (fun q => ?_)
  · replace w := w.1 q
    exact ab_fin.lv ⟨(List.forall_mem_cons.mpr ⟨(List.Mem.head _), (List.forall_mem_cons.mpr ⟨(List.Mem.tail _ (List.Mem.head _)), (List.forall_mem_cons.mpr ⟨(List.Mem.tail _ (List.Mem.tail _ (List.Mem.head _))), (List.forall_mem_cons.mpr ⟨(List.Mem.tail _ (List.Mem.tail _ (List.Mem.tail _ (List.Mem.head _)))), (List.forall_mem_cons.mpr ⟨(List.Mem.tail _ (List.Mem.tail _ (List.Mem.tail _ (List.Mem.tail _ (List.Mem.head _))))), (List.forall_mem_cons.mpr ⟨(List.Mem.tail _ (List.Mem.tail _ (List.Mem.tail _ (List.Mem.tail _ (List.Mem.tail _ (List.Mem.head _)))))), (List.forall_mem_cons.mpr ⟨(List.Mem.tail _ (List.Mem.tail _ (List.Mem.tail _ (List.Mem.tail _ (List.Mem.tail _ (List.Mem.tail _ (List.Mem.head _))))))), (fun _ h => absurd h List.not_mem_nil)⟩)⟩)⟩)⟩)⟩)⟩)⟩), (show ([0, 1, 2, 3, 6, 7, 8] : List Nat).Nodup from by decide)⟩ w
  · replace w := w.2 q
    refine ab_fin.s2 (i := .aload_n 0) (k := 1) (pc' := 161) (lv' := [(0, .ref 0), (1, .ref l1), (2, .int l2), (3, .int l3), (6, .int l6), (7, .int l7), (8, .int l8)]) (st' := [.ref 0]) (by decide +kernel) rfl rfl ?_
    refine ab_fin.q_yN (i := .invokevirtual 239) (k := 3) (y := 5902) (As := [.ref 0]) (rest := []) (M' := (mX23_next, [])) (lv2 := [(0, .ref 0)]) (pc' := 164) (X := K) (by decide +kernel) (ab_cv rfl rfl (conc_get (σ := τ1) (F2.s s0_0)) ⟨(Nat.le_of_ble_eq_true rfl), (Nat.le_of_ble_eq_true rfl)⟩ rfl) rfl (Nat.le_of_ble_eq_true rfl) rfl rfl (hY_no fun E => rfl) w (fun τ4 F5 w => ?_)
    refine ab_fin.s2 (i := .aload_n 0) (k := 1) (pc' := 165) (lv' := [(0, .ref 0), (1, .ref l1), (2, .int l2), (3, .int l3), (6, .int l6), (7, .int l7), (8, .int l8)]) (st' := [.ref 0]) (by decide +kernel) rfl rfl ?_
    refine ab_fin.q_yI (i := .invokevirtual 388) (k := 3) (y := 5920) (As := [.ref 0]) (rest := []) (M' := (mX23_signed, [])) (lv2 := [(0, .ref 0)]) (pc' := 168) (X := K) (by decide +kernel) (ab_cv rfl rfl (conc_get (σ := τ4) (F5.s s0_0)) ⟨(Nat.le_of_ble_eq_true rfl), (Nat.le_of_ble_eq_true rfl)⟩ rfl) rfl (Nat.le_of_ble_eq_true rfl) rfl rfl (hY_no fun E => rfl) w (fun v8 τ6 F7 w => ?_)
    refine ab_fin.s2 (i := .istore 7) (k := 2) (pc' := 170) (lv' := [(7, .int v8), (0, .ref 0), (1, .ref l1), (2, .int l2), (3, .int l3), (6, .int l6), (8, .int l8)]) (st' := []) (by decide +kernel) rfl rfl ?_
    refine ab_fin.s1i (i := .iconst 1) (k := 1) (pc' := 171) (n := 1) (by decide +kernel) rfl (by decide +kernel) rfl ?_
    refine ab_fin.s2 (i := .istore 8) (k := 2) (pc' := 173) (lv' := [(8, .int 1), (7, .int v8), (0, .ref 0), (1, .ref l1), (2, .int l2), (3, .int l3), (6, .int l6)]) (st' := []) (by decide +kernel) rfl rfl ?_
    exact ab_fin.lv ⟨(List.forall_mem_cons.mpr ⟨(List.Mem.tail _ (List.Mem.tail _ (List.Mem.head _))), (List.forall_mem_cons.mpr ⟨(List.Mem.tail _ (List.Mem.tail _ (List.Mem.tail _ (List.Mem.head _)))), (List.forall_mem_cons.mpr ⟨(List.Mem.tail _ (List.Mem.tail _ (List.Mem.tail _ (List.Mem.tail _ (List.Mem.head _))))), (List.forall_mem_cons.mpr ⟨(List.Mem.tail _ (List.Mem.tail _ (List.Mem.tail _ (List.Mem.tail _ (List.Mem.tail _ (List.Mem.head _)))))), (List.forall_mem_cons.mpr ⟨(List.Mem.tail _ (List.Mem.tail _ (List.Mem.tail _ (List.Mem.tail _ (List.Mem.tail _ (List.Mem.tail _ (List.Mem.head _))))))), (List.forall_mem_cons.mpr ⟨(List.Mem.tail _ (List.Mem.head _)), (List.forall_mem_cons.mpr ⟨(List.Mem.head _), (fun _ h => absurd h List.not_mem_nil)⟩)⟩)⟩)⟩)⟩)⟩)⟩), (show ([8, 7, 0, 1, 2, 3, 6] : List Nat).Nodup from by decide)⟩ w
theorem S_X23_specs_173 {Z : zT} {d : Nat} {σ : Sg} {l1 : Nat} {l2 : Int32} {l3 : Int32} {l6 : Int32} {l7 : Int32} {l8 : Int32} {K : kS} (F : FX ΦR σ.sh σ.r) (w : (3 ≤ l3 → B_X23_specs_202 Z (d + 1) σ l1 l2 l3 K) ∧ (¬ 3 ≤ l3 → sh0R[l1]? = some (Sh.obj 19) ∧ (ib l3 3 ∧ (ib l3 3 ∧ (ib l3 3 ∧ (B_X23_specs_202 Z (d + 1) (((σ.wi (l1 + 1) l3.toNatClampNeg l6).wi (l1 + 3) l3.toNatClampNeg (vp_nar .boolean l8)).wi (l1 + 2) l3.toNatClampNeg l7) l1 l2 l3 K)))))) : B_X23_specs_173 Z (d + 1) σ l1 l2 l3 l6 l7 l8 K := by
  unfold B_X23_specs_173
  refine ab_fin.s2 (i := .iload_n 3) (k := 1) (pc' := 174) (lv' := [(0, .ref 0), (1, .ref l1), (2, .int l2), (3, .int l3), (6, .int l6), (7, .int l7), (8, .int l8)]) (st' := [.int l3]) (by decide +kernel) rfl rfl ?_
  refine ab_fin.s1i (i := .iconst 3) (k := 1) (pc' := 175) (n := 3) (by decide +kernel) rfl (by decide +kernel) rfl ?_
  refine ab_fin.br (c := 3 ≤ l3) (i := .if_icmp .ge 27) (off := 27) (t := 202) (pc' := 178) (r := []) (by decide +kernel) rfl (by decide +kernel) rfl (fun q => ?_) (fun q => ?_)
  · replace w := w.1 q
    exact ab_fin.lv ⟨(List.forall_mem_cons.mpr ⟨(List.Mem.head _), (List.forall_mem_cons.mpr ⟨(List.Mem.tail _ (List.Mem.head _)), (List.forall_mem_cons.mpr ⟨(List.Mem.tail _ (List.Mem.tail _ (List.Mem.head _))), (List.forall_mem_cons.mpr ⟨(List.Mem.tail _ (List.Mem.tail _ (List.Mem.tail _ (List.Mem.head _)))), (fun _ h => absurd h List.not_mem_nil)⟩)⟩)⟩)⟩), (show ([0, 1, 2, 3, 6, 7, 8] : List Nat).Nodup from by decide)⟩ w
  · replace w := w.2 q
    refine ab_fin.s2 (i := .aload_n 1) (k := 1) (pc' := 179) (lv' := [(0, .ref 0), (1, .ref l1), (2, .int l2), (3, .int l3), (6, .int l6), (7, .int l7), (8, .int l8)]) (st' := [.ref l1]) (by decide +kernel) rfl rfl ?_
    obtain ⟨e1, w⟩ := w
    refine ab_fin.q_rA (b := (l1 + 1)) (ix := 391) (ci := 19) (k := 5) (pc' := 182) (by decide +kernel) rfl (c_rA (F.s e1) rfl (rO_19_5 F e1)) rfl ?_
    refine ab_fin.s2 (i := .iload_n 3) (k := 1) (pc' := 183) (lv' := [(0, .ref 0), (1, .ref l1), (2, .int l2), (3, .int l3), (6, .int l6), (7, .int l7), (8, .int l8)]) (st' := [.int l3, .ref (l1 + 1)]) (by decide +kernel) rfl rfl ?_
    refine ab_fin.s2 (i := .iload 6) (k := 2) (pc' := 185) (lv' := [(0, .ref 0), (1, .ref l1), (2, .int l2), (3, .int l3), (6, .int l6), (7, .int l7), (8, .int l8)]) (st' := [.int l6, .int l3, .ref (l1 + 1)]) (by decide +kernel) rfl rfl ?_
    obtain ⟨e2, w⟩ := w
    refine ab_fin.q_sI (h1 := conc (σ.wi (l1 + 1) l3.toNatClampNeg l6)) (pc' := 186) (by decide +kernel) (c_sI' (F.s (kF_19_1 e1)) e2 rfl) rfl ?_
    refine ab_fin.s2 (i := .aload_n 1) (k := 1) (pc' := 187) (lv' := [(0, .ref 0), (1, .ref l1), (2, .int l2), (3, .int l3), (6, .int l6), (7, .int l7), (8, .int l8)]) (st' := [.ref l1]) (by decide +kernel) rfl rfl ?_
    refine ab_fin.q_rA (b := (l1 + 3)) (ix := 365) (ci := 19) (k := 7) (pc' := 190) (by decide +kernel) rfl (c_rA (F.s e1) rfl (rO_19_7 F e1)) rfl ?_
    refine ab_fin.s2 (i := .iload_n 3) (k := 1) (pc' := 191) (lv' := [(0, .ref 0), (1, .ref l1), (2, .int l2), (3, .int l3), (6, .int l6), (7, .int l7), (8, .int l8)]) (st' := [.int l3, .ref (l1 + 3)]) (by decide +kernel) rfl rfl ?_
    refine ab_fin.s2 (i := .iload 8) (k := 2) (pc' := 193) (lv' := [(0, .ref 0), (1, .ref l1), (2, .int l2), (3, .int l3), (6, .int l6), (7, .int l7), (8, .int l8)]) (st' := [.int l8, .int l3, .ref (l1 + 3)]) (by decide +kernel) rfl rfl ?_
    obtain ⟨e3, w⟩ := w
    refine ab_fin.q_sB (h1 := conc ((σ.wi (l1 + 1) l3.toNatClampNeg l6).wi (l1 + 3) l3.toNatClampNeg (vp_nar .boolean l8))) (pc' := 194) (by decide +kernel) (c_sB3' (F.s (kF_19_3 e1)) e3 rfl) rfl ?_
    refine ab_fin.s2 (i := .aload_n 1) (k := 1) (pc' := 195) (lv' := [(0, .ref 0), (1, .ref l1), (2, .int l2), (3, .int l3), (6, .int l6), (7, .int l7), (8, .int l8)]) (st' := [.ref l1]) (by decide +kernel) rfl rfl ?_
    refine ab_fin.q_rA (b := (l1 + 2)) (ix := 393) (ci := 19) (k := 6) (pc' := 198) (by decide +kernel) rfl (c_rA (F.s e1) rfl (rO_19_6 F e1)) rfl ?_
    refine ab_fin.s2 (i := .iload_n 3) (k := 1) (pc' := 199) (lv' := [(0, .ref 0), (1, .ref l1), (2, .int l2), (3, .int l3), (6, .int l6), (7, .int l7), (8, .int l8)]) (st' := [.int l3, .ref (l1 + 2)]) (by decide +kernel) rfl rfl ?_
    refine ab_fin.s2 (i := .iload 7) (k := 2) (pc' := 201) (lv' := [(0, .ref 0), (1, .ref l1), (2, .int l2), (3, .int l3), (6, .int l6), (7, .int l7), (8, .int l8)]) (st' := [.int l7, .int l3, .ref (l1 + 2)]) (by decide +kernel) rfl rfl ?_
    obtain ⟨e4, w⟩ := w
    refine ab_fin.q_sI (h1 := conc (((σ.wi (l1 + 1) l3.toNatClampNeg l6).wi (l1 + 3) l3.toNatClampNeg (vp_nar .boolean l8)).wi (l1 + 2) l3.toNatClampNeg l7)) (pc' := 202) (by decide +kernel) (c_sI' (F.s (kF_19_2 e1)) e4 rfl) rfl ?_
    exact ab_fin.lv ⟨(List.forall_mem_cons.mpr ⟨(List.Mem.head _), (List.forall_mem_cons.mpr ⟨(List.Mem.tail _ (List.Mem.head _)), (List.forall_mem_cons.mpr ⟨(List.Mem.tail _ (List.Mem.tail _ (List.Mem.head _))), (List.forall_mem_cons.mpr ⟨(List.Mem.tail _ (List.Mem.tail _ (List.Mem.tail _ (List.Mem.head _)))), (fun _ h => absurd h List.not_mem_nil)⟩)⟩)⟩)⟩), (show ([0, 1, 2, 3, 6, 7, 8] : List Nat).Nodup from by decide)⟩ w
theorem S_X23_specs_202 {Z : zT} {d : Nat} {σ : Sg} {l1 : Nat} {l2 : Int32} {l3 : Int32} {K : kS} (F : FX ΦR σ.sh σ.r) (w : B_X23_is_0 Z d σ 44 (yI K fun v3 τ1 => (¬ v3 = 0 → B_X23_next_0 Z d τ1  (yN K fun τ4 => B_X23_specs_2 Z (d + 1) τ4 l1 l2 (l3 + 1) K)) ∧ (v3 = 0 → (l2 ≤ 0 → B_X23_want_0 Z d τ1 41 (yN K fun τ6 => K (.inl none) τ6)) ∧ (¬ l2 ≤ 0 → (l2 ≤ (l3 + 1) → B_X23_want_0 Z d τ1 41 (yN K fun τ8 => K (.inl none) τ8)) ∧ (¬ l2 ≤ (l3 + 1) → B_X23_breaks_0 Z d τ1 4 (τ1.i 0 18) (yN K fun τ10 => B_X23_want_0 Z d τ10 41 (yN K fun τ12 => K (.inl none) τ12))))))) : B_X23_specs_202 Z (d + 1) σ l1 l2 l3 K := by
  unfold B_X23_specs_202
  refine ab_fin.q_inc (n := 3) (c := 1) (pc' := 205) (lv' := [(3, .int (l3 + 1)), (0, .ref 0), (1, .ref l1), (2, .int l2)]) (by decide +kernel) (by decide) rfl rfl rfl rfl ?_
  refine ab_fin.s2 (i := .aload_n 0) (k := 1) (pc' := 206) (lv' := [(3, .int (l3 + 1)), (0, .ref 0), (1, .ref l1), (2, .int l2)]) (st' := [.ref 0]) (by decide +kernel) rfl rfl ?_
  refine ab_fin.s1i (i := .bipush 44) (k := 2) (pc' := 208) (n := 44) (by decide +kernel) rfl (by decide +kernel) rfl ?_
  refine ab_fin.q_yI (i := .invokevirtual 233) (k := 3) (y := 5904) (As := [.ref 0, .int 44]) (rest := []) (M' := (mX23_is, [])) (lv2 := [(0, .ref 0), (1, .int 44)]) (pc' := 211) (X := K) (by decide +kernel) (ab_cv rfl rfl (conc_get (σ := σ) (F.s s0_0)) ⟨(Nat.le_of_ble_eq_true rfl), (Nat.le_of_ble_eq_true rfl)⟩ rfl) rfl (Nat.le_of_ble_eq_true rfl) rfl rfl (hY_no fun E => rfl) w (fun v3 τ1 F2 w => ?_)
  refine ab_fin.br (c := ¬ v3 = 0) (i := .ifCond .ne 6) (off := 6) (t := 217) (pc' := 214) (r := []) (by decide +kernel) rfl (by decide +kernel) rfl (fun q => ?_) (fun q => ?_)
  · replace w := w.1 q
    refine ab_fin.s2 (i := .aload_n 0) (k := 1) (pc' := 218) (lv' := [(3, .int (l3 + 1)), (0, .ref 0), (1, .ref l1), (2, .int l2)]) (st' := [.ref 0]) (by decide +kernel) rfl rfl ?_
    refine ab_fin.q_yN (i := .invokevirtual 239) (k := 3) (y := 5902) (As := [.ref 0]) (rest := []) (M' := (mX23_next, [])) (lv2 := [(0, .ref 0)]) (pc' := 221) (X := K) (by decide +kernel) (ab_cv rfl rfl (conc_get (σ := τ1) (F2.s s0_0)) ⟨(Nat.le_of_ble_eq_true rfl), (Nat.le_of_ble_eq_true rfl)⟩ rfl) rfl (Nat.le_of_ble_eq_true rfl) rfl rfl (hY_no fun E => rfl) w (fun τ4 F5 w => ?_)
    refine ab_fin.s3 (i := .goto (-219)) (k := 3) (t := 2) (st' := []) (by decide +kernel) (ab_gto (by decide +kernel)) ?_
    exact ab_fin.lv ⟨(List.forall_mem_cons.mpr ⟨(List.Mem.tail _ (List.Mem.head _)), (List.forall_mem_cons.mpr ⟨(List.Mem.tail _ (List.Mem.tail _ (List.Mem.head _))), (List.forall_mem_cons.mpr ⟨(List.Mem.tail _ (List.Mem.tail _ (List.Mem.tail _ (List.Mem.head _)))), (List.forall_mem_cons.mpr ⟨(List.Mem.head _), (fun _ h => absurd h List.not_mem_nil)⟩)⟩)⟩)⟩), (show ([3, 0, 1, 2] : List Nat).Nodup from by decide)⟩ w
  · replace w := w.2 (Decidable.of_not_not q)
    refine ab_fin.s3 (i := .goto 10) (k := 3) (t := 224) (st' := []) (by decide +kernel) (ab_gto (by decide +kernel)) ?_
    refine ab_fin.s2 (i := .iload_n 2) (k := 1) (pc' := 225) (lv' := [(3, .int (l3 + 1)), (0, .ref 0), (1, .ref l1), (2, .int l2)]) (st' := [.int l2]) (by decide +kernel) rfl rfl ?_
    refine ab_fin.br (c := l2 ≤ 0) (i := .ifCond .le 17) (off := 17) (t := 242) (pc' := 228) (r := []) (by decide +kernel) rfl (by decide +kernel) rfl (fun q => ?_) (fun q => ?_)
    · replace w := w.1 q
      refine ab_fin.s2 (i := .aload_n 0) (k := 1) (pc' := 243) (lv' := [(3, .int (l3 + 1)), (0, .ref 0), (1, .ref l1), (2, .int l2)]) (st' := [.ref 0]) (by decide +kernel) rfl rfl ?_
      refine ab_fin.s1i (i := .bipush 41) (k := 2) (pc' := 245) (n := 41) (by decide +kernel) rfl (by decide +kernel) rfl ?_
      refine ab_fin.q_yN (i := .invokevirtual 293) (k := 3) (y := 5906) (As := [.ref 0, .int 41]) (rest := []) (M' := (mX23_want, [])) (lv2 := [(0, .ref 0), (1, .int 41)]) (pc' := 248) (X := K) (by decide +kernel) (ab_cv rfl rfl (conc_get (σ := τ1) (F2.s s0_0)) ⟨(Nat.le_of_ble_eq_true rfl), (Nat.le_of_ble_eq_true rfl)⟩ rfl) rfl (Nat.le_of_ble_eq_true rfl) rfl rfl (hY_no fun E => rfl) w (fun τ6 F7 w => ?_)
      exact ab_fin.q_ret (i := .return_) (k := 1) (v := none) (by decide +kernel) rfl F7 w
    · replace w := w.2 q
      refine ab_fin.s2 (i := .iload_n 3) (k := 1) (pc' := 229) (lv' := [(3, .int (l3 + 1)), (0, .ref 0), (1, .ref l1), (2, .int l2)]) (st' := [.int (l3 + 1)]) (by decide +kernel) rfl rfl ?_
      refine ab_fin.s2 (i := .iload_n 2) (k := 1) (pc' := 230) (lv' := [(3, .int (l3 + 1)), (0, .ref 0), (1, .ref l1), (2, .int l2)]) (st' := [.int l2, .int (l3 + 1)]) (by decide +kernel) rfl rfl ?_
      refine ab_fin.br (c := l2 ≤ (l3 + 1)) (i := .if_icmp .ge 12) (off := 12) (t := 242) (pc' := 233) (r := []) (by decide +kernel) rfl (by decide +kernel) rfl (fun q => ?_) (fun q => ?_)
      · replace w := w.1 q
        refine ab_fin.s2 (i := .aload_n 0) (k := 1) (pc' := 243) (lv' := [(3, .int (l3 + 1)), (0, .ref 0), (1, .ref l1), (2, .int l2)]) (st' := [.ref 0]) (by decide +kernel) rfl rfl ?_
        refine ab_fin.s1i (i := .bipush 41) (k := 2) (pc' := 245) (n := 41) (by decide +kernel) rfl (by decide +kernel) rfl ?_
        refine ab_fin.q_yN (i := .invokevirtual 293) (k := 3) (y := 5906) (As := [.ref 0, .int 41]) (rest := []) (M' := (mX23_want, [])) (lv2 := [(0, .ref 0), (1, .int 41)]) (pc' := 248) (X := K) (by decide +kernel) (ab_cv rfl rfl (conc_get (σ := τ1) (F2.s s0_0)) ⟨(Nat.le_of_ble_eq_true rfl), (Nat.le_of_ble_eq_true rfl)⟩ rfl) rfl (Nat.le_of_ble_eq_true rfl) rfl rfl (hY_no fun E => rfl) w (fun τ8 F9 w => ?_)
        exact ab_fin.q_ret (i := .return_) (k := 1) (v := none) (by decide +kernel) rfl F9 w
      · replace w := w.2 q
        refine ab_fin.s2 (i := .aload_n 0) (k := 1) (pc' := 234) (lv' := [(3, .int (l3 + 1)), (0, .ref 0), (1, .ref l1), (2, .int l2)]) (st' := [.ref 0]) (by decide +kernel) rfl rfl ?_
        refine ab_fin.s1i (i := .iconst 4) (k := 1) (pc' := 235) (n := 4) (by decide +kernel) rfl (by decide +kernel) rfl ?_
        refine ab_fin.s2 (i := .aload_n 0) (k := 1) (pc' := 236) (lv' := [(3, .int (l3 + 1)), (0, .ref 0), (1, .ref l1), (2, .int l2)]) (st' := [.ref 0, .int 4, .ref 0]) (by decide +kernel) rfl rfl ?_
        refine ab_fin.q_rI (x := (τ1.i 0 18)) (ix := 106) (ci := 24) (k := 18) (pc' := 239) (by decide +kernel) rfl (c_rI (F2.s s0_0) rfl) rfl ?_
        refine ab_fin.q_yN (i := .invokevirtual 259) (k := 3) (y := 5910) (As := [.ref 0, .int 4, .int (τ1.i 0 18)]) (rest := []) (M' := (mX23_breaks, [])) (lv2 := [(0, .ref 0), (1, .int 4), (2, .int (τ1.i 0 18))]) (pc' := 242) (X := K) (by decide +kernel) (ab_cv rfl rfl (conc_get (σ := τ1) (F2.s s0_0)) ⟨(Nat.le_of_ble_eq_true rfl), (Nat.le_of_ble_eq_true rfl)⟩ rfl) rfl (Nat.le_of_ble_eq_true rfl) rfl rfl (hY_no fun E => rfl) w (fun τ10 F11 w => ?_)
        refine ab_fin.s2 (i := .aload_n 0) (k := 1) (pc' := 243) (lv' := [(3, .int (l3 + 1)), (0, .ref 0), (1, .ref l1), (2, .int l2)]) (st' := [.ref 0]) (by decide +kernel) rfl rfl ?_
        refine ab_fin.s1i (i := .bipush 41) (k := 2) (pc' := 245) (n := 41) (by decide +kernel) rfl (by decide +kernel) rfl ?_
        refine ab_fin.q_yN (i := .invokevirtual 293) (k := 3) (y := 5906) (As := [.ref 0, .int 41]) (rest := []) (M' := (mX23_want, [])) (lv2 := [(0, .ref 0), (1, .int 41)]) (pc' := 248) (X := K) (by decide +kernel) (ab_cv rfl rfl (conc_get (σ := τ10) (F11.s s0_0)) ⟨(Nat.le_of_ble_eq_true rfl), (Nat.le_of_ble_eq_true rfl)⟩ rfl) rfl (Nat.le_of_ble_eq_true rfl) rfl rfl (hY_no fun E => rfl) w (fun τ12 F13 w => ?_)
        exact ab_fin.q_ret (i := .return_) (k := 1) (v := none) (by decide +kernel) rfl F13 w
theorem S_X23_signed_0 {Z : zT} {d : Nat} {σ : Sg}  {K : kS} (F : FX ΦR σ.sh σ.r) (w : B_X23_is_0 Z d σ 45 (yI K fun v3 τ1 => (v3 = 0 → B_X23_signed_15 Z (d + 1) τ1 v3 K) ∧ (¬ v3 = 0 → B_X23_next_0 Z d τ1  (yN K fun τ4 => B_X23_signed_15 Z (d + 1) τ4 v3 K)))) : B_X23_signed_0 Z (d + 1) σ  K := by
  unfold B_X23_signed_0
  refine ab_fin.s2 (i := .aload_n 0) (k := 1) (pc' := 1) (lv' := [(0, .ref 0)]) (st' := [.ref 0]) (by decide +kernel) rfl rfl ?_
  refine ab_fin.s1i (i := .bipush 45) (k := 2) (pc' := 3) (n := 45) (by decide +kernel) rfl (by decide +kernel) rfl ?_
  refine ab_fin.q_yI (i := .invokevirtual 233) (k := 3) (y := 5904) (As := [.ref 0, .int 45]) (rest := []) (M' := (mX23_is, [])) (lv2 := [(0, .ref 0), (1, .int 45)]) (pc' := 6) (X := K) (by decide +kernel) (ab_cv rfl rfl (conc_get (σ := σ) (F.s s0_0)) ⟨(Nat.le_of_ble_eq_true rfl), (Nat.le_of_ble_eq_true rfl)⟩ rfl) rfl (Nat.le_of_ble_eq_true rfl) rfl rfl (hY_no fun E => rfl) w (fun v3 τ1 F2 w => ?_)
  refine ab_fin.s2 (i := .istore_n 1) (k := 1) (pc' := 7) (lv' := [(1, .int v3), (0, .ref 0)]) (st' := []) (by decide +kernel) rfl rfl ?_
  refine ab_fin.s2 (i := .iload_n 1) (k := 1) (pc' := 8) (lv' := [(1, .int v3), (0, .ref 0)]) (st' := [.int v3]) (by decide +kernel) rfl rfl ?_
  refine ab_fin.br (c := v3 = 0) (i := .ifCond .eq 7) (off := 7) (t := 15) (pc' := 11) (r := []) (by decide +kernel) rfl (by decide +kernel) rfl (fun q => ?_) (fun q => ?_)
  · replace w := w.1 q
    exact ab_fin.lv ⟨(List.forall_mem_cons.mpr ⟨(List.Mem.tail _ (List.Mem.head _)), (List.forall_mem_cons.mpr ⟨(List.Mem.head _), (fun _ h => absurd h List.not_mem_nil)⟩)⟩), (show ([1, 0] : List Nat).Nodup from by decide)⟩ w
  · replace w := w.2 q
    refine ab_fin.s2 (i := .aload_n 0) (k := 1) (pc' := 12) (lv' := [(1, .int v3), (0, .ref 0)]) (st' := [.ref 0]) (by decide +kernel) rfl rfl ?_
    refine ab_fin.q_yN (i := .invokevirtual 239) (k := 3) (y := 5902) (As := [.ref 0]) (rest := []) (M' := (mX23_next, [])) (lv2 := [(0, .ref 0)]) (pc' := 15) (X := K) (by decide +kernel) (ab_cv rfl rfl (conc_get (σ := τ1) (F2.s s0_0)) ⟨(Nat.le_of_ble_eq_true rfl), (Nat.le_of_ble_eq_true rfl)⟩ rfl) rfl (Nat.le_of_ble_eq_true rfl) rfl rfl (hY_no fun E => rfl) w (fun τ4 F5 w => ?_)
    exact ab_fin.lv ⟨(List.forall_mem_cons.mpr ⟨(List.Mem.tail _ (List.Mem.head _)), (List.forall_mem_cons.mpr ⟨(List.Mem.head _), (fun _ h => absurd h List.not_mem_nil)⟩)⟩), (show ([1, 0] : List Nat).Nodup from by decide)⟩ w
theorem S_X23_signed_15 {Z : zT} {d : Nat} {σ : Sg} {l1 : Int32} {K : kS} (F : FX ΦR σ.sh σ.r) (w : ((σ.i 0 17) = 3 → B_X23_next_0 Z d σ  (yN K fun τ1 => (l1 = 0 → K (.inl (some (.int (σ.i 0 19)))) τ1) ∧ (¬ l1 = 0 → K (.inl (some (.int ((-(σ.i 0 19)))))) τ1))) ∧ (¬ (σ.i 0 17) = 3 → B_X23_no_0 Z d σ  (yR K fun v5 τ3 => ∃ x7, aT τ3 v5 x7 ∧ K (.inr (x7, v5)) τ3))) : B_X23_signed_15 Z (d + 1) σ l1 K := by
  unfold B_X23_signed_15
  refine ab_fin.s2 (i := .aload_n 0) (k := 1) (pc' := 16) (lv' := [(0, .ref 0), (1, .int l1)]) (st' := [.ref 0]) (by decide +kernel) rfl rfl ?_
  refine ab_fin.q_rI (x := (σ.i 0 17)) (ix := 183) (ci := 24) (k := 17) (pc' := 19) (by decide +kernel) rfl (c_rI (F.s s0_0) rfl) rfl ?_
  refine ab_fin.s1i (i := .iconst 3) (k := 1) (pc' := 20) (n := 3) (by decide +kernel) rfl (by decide +kernel) rfl ?_
  refine ab_fin.br (c := (σ.i 0 17) = 3) (i := .if_icmp .eq 8) (off := 8) (t := 28) (pc' := 23) (r := []) (by decide +kernel) rfl (by decide +kernel) rfl (fun q => ?_) (fun q => ?_)
  · replace w := w.1 q
    refine ab_fin.s2 (i := .aload_n 0) (k := 1) (pc' := 29) (lv' := [(0, .ref 0), (1, .int l1)]) (st' := [.ref 0]) (by decide +kernel) rfl rfl ?_
    refine ab_fin.q_rI (x := (σ.i 0 19)) (ix := 213) (ci := 24) (k := 19) (pc' := 32) (by decide +kernel) rfl (c_rI (F.s s0_0) rfl) rfl ?_
    refine ab_fin.s2 (i := .istore_n 2) (k := 1) (pc' := 33) (lv' := [(2, .int (σ.i 0 19)), (0, .ref 0), (1, .int l1)]) (st' := []) (by decide +kernel) rfl rfl ?_
    refine ab_fin.s2 (i := .aload_n 0) (k := 1) (pc' := 34) (lv' := [(2, .int (σ.i 0 19)), (0, .ref 0), (1, .int l1)]) (st' := [.ref 0]) (by decide +kernel) rfl rfl ?_
    refine ab_fin.q_yN (i := .invokevirtual 239) (k := 3) (y := 5902) (As := [.ref 0]) (rest := []) (M' := (mX23_next, [])) (lv2 := [(0, .ref 0)]) (pc' := 37) (X := K) (by decide +kernel) (ab_cv rfl rfl (conc_get (σ := σ) (F.s s0_0)) ⟨(Nat.le_of_ble_eq_true rfl), (Nat.le_of_ble_eq_true rfl)⟩ rfl) rfl (Nat.le_of_ble_eq_true rfl) rfl rfl (hY_no fun E => rfl) w (fun τ1 F2 w => ?_)
    refine ab_fin.s2 (i := .iload_n 1) (k := 1) (pc' := 38) (lv' := [(2, .int (σ.i 0 19)), (0, .ref 0), (1, .int l1)]) (st' := [.int l1]) (by decide +kernel) rfl rfl ?_
    refine ab_fin.br (c := l1 = 0) (i := .ifCond .eq 8) (off := 8) (t := 46) (pc' := 41) (r := []) (by decide +kernel) rfl (by decide +kernel) rfl (fun q => ?_) (fun q => ?_)
    · replace w := w.1 q
      refine ab_fin.s2 (i := .iload_n 2) (k := 1) (pc' := 47) (lv' := [(2, .int (σ.i 0 19)), (0, .ref 0), (1, .int l1)]) (st' := [.int (σ.i 0 19)]) (by decide +kernel) rfl rfl ?_
      exact ab_fin.q_ret (i := .ireturn) (k := 1) (v := some (.int (σ.i 0 19))) (by decide +kernel) rfl F2 w
    · replace w := w.2 q
      refine ab_fin.s2 (i := .iload_n 2) (k := 1) (pc' := 42) (lv' := [(2, .int (σ.i 0 19)), (0, .ref 0), (1, .int l1)]) (st' := [.int (σ.i 0 19)]) (by decide +kernel) rfl rfl ?_
      refine ab_fin.s1 (i := .ineg) (k := 1) (pc' := 43) (st' := [.int ((-(σ.i 0 19)))]) (by decide +kernel) rfl rfl ?_
      refine ab_fin.s3 (i := .goto 4) (k := 3) (t := 47) (st' := [.int ((-(σ.i 0 19)))]) (by decide +kernel) (ab_gto (by decide +kernel)) ?_
      exact ab_fin.q_ret (i := .ireturn) (k := 1) (v := some (.int ((-(σ.i 0 19))))) (by decide +kernel) rfl F2 w
  · replace w := w.2 q
    refine ab_fin.s2 (i := .aload_n 0) (k := 1) (pc' := 24) (lv' := [(0, .ref 0), (1, .int l1)]) (st' := [.ref 0]) (by decide +kernel) rfl rfl ?_
    refine ab_fin.q_yR (i := .invokevirtual 235) (k := 3) (y := 5903) (As := [.ref 0]) (rest := []) (M' := (mX23_no, [])) (lv2 := [(0, .ref 0)]) (pc' := 27) (X := K) (by decide +kernel) (ab_cv rfl rfl (conc_get (σ := σ) (F.s s0_0)) ⟨(Nat.le_of_ble_eq_true rfl), (Nat.le_of_ble_eq_true rfl)⟩ rfl) rfl (Nat.le_of_ble_eq_true rfl) rfl rfl (hY_no fun E => rfl) w (fun v5 τ3 F4 w => ?_)
    obtain ⟨x7, e6, w⟩ := w
    exact ab_fin.q_ath (X := fun r h => ∃ τ, h = conc τ ∧ FX ΦR τ.sh τ.r ∧ K r τ) (by decide +kernel) (aT_ok e6) (fun p h ⟨τ, q, f, z⟩ => by subst q; exact ((hY_no fun E => rfl) : hY ΦR _ _ _ _ _ _ _ _ _ _) p τ f z) ⟨_, rfl, F4, w⟩
theorem S_X23_isThere_0 {Z : zT} {d : Nat} {σ : Sg} {l1 : Nat} {K : kS} (F : FX ΦR σ.sh σ.r) (w : sh0R[l1]? = some (Sh.obj 19) ∧ (((σ.r l1 8) = Rf.nul → B_X23_isThere_11 Z (d + 1) σ l1 1 K) ∧ (¬ (σ.r l1 8) = Rf.nul → K (.inl (some (.int 0))) σ))) : B_X23_isThere_0 Z (d + 1) σ l1 K := by
  unfold B_X23_isThere_0
  refine ab_fin.s2 (i := .aload_n 1) (k := 1) (pc' := 1) (lv' := [(0, .ref 0), (1, .ref l1)]) (st' := [.ref l1]) (by decide +kernel) rfl rfl ?_
  obtain ⟨e1, w⟩ := w
  refine ab_fin.q_rV (v := rv (σ.r l1 8)) (ix := 335) (ci := 19) (k := 8) (pc' := 4) (by decide +kernel) rfl (c_rV (F.s e1) rfl) rfl ?_
  refine ab_fin.q_nul (off := 5) (t := 9) (pc' := 7) (by decide +kernel) (oR_rv _) (by decide +kernel) rfl (fun q => ?_) (fun q => ?_)
  · replace w := w.1 (rv_null.mp q)
    refine ab_fin.s1i (i := .iconst 1) (k := 1) (pc' := 10) (n := 1) (by decide +kernel) rfl (by decide +kernel) rfl ?_
    refine ab_fin.s2 (i := .istore_n 2) (k := 1) (pc' := 11) (lv' := [(2, .int 1), (0, .ref 0), (1, .ref l1)]) (st' := []) (by decide +kernel) rfl rfl ?_
    exact ab_fin.lv ⟨(List.forall_mem_cons.mpr ⟨(List.Mem.tail _ (List.Mem.head _)), (List.forall_mem_cons.mpr ⟨(List.Mem.tail _ (List.Mem.tail _ (List.Mem.head _))), (List.forall_mem_cons.mpr ⟨(List.Mem.head _), (fun _ h => absurd h List.not_mem_nil)⟩)⟩)⟩), (show ([2, 0, 1] : List Nat).Nodup from by decide)⟩ w
  · replace w := w.2 (fun z => q (rv_null.mpr z))
    refine ab_fin.s1i (i := .iconst 0) (k := 1) (pc' := 8) (n := 0) (by decide +kernel) rfl (by decide +kernel) rfl ?_
    exact ab_fin.q_ret (i := .ireturn) (k := 1) (v := some (.int 0)) (by decide +kernel) rfl F w
theorem S_X23_isThere_11 {Z : zT} {d : Nat} {σ : Sg} {l1 : Nat} {l2 : Int32} {K : kS} (F : FX ΦR σ.sh σ.r) (p_l1 : sh0R[l1]? = some (Sh.obj 19)) (w : ((σ.i 0 6) < l2 → K (.inl (some (.int 0))) σ) ∧ (¬ (σ.i 0 6) < l2 → ib l2 121 ∧ (((2497 + 4 * l2.toNatClampNeg) = l1 → B_X23_isThere_11 Z (d + 1) σ l1 (l2 + 1) K) ∧ (¬ (2497 + 4 * l2.toNatClampNeg) = l1 → (¬ (σ.i (2497 + 4 * l2.toNatClampNeg) 10) = 0 → B_X23_isThere_11 Z (d + 1) σ l1 (l2 + 1) K) ∧ ((σ.i (2497 + 4 * l2.toNatClampNeg) 10) = 0 → (¬ (σ.i (2497 + 4 * l2.toNatClampNeg) 0) = (σ.i l1 0) → B_X23_isThere_11 Z (d + 1) σ l1 (l2 + 1) K) ∧ ((σ.i (2497 + 4 * l2.toNatClampNeg) 0) = (σ.i l1 0) → (¬ (σ.r (2497 + 4 * l2.toNatClampNeg) 8) = Rf.nul → B_X23_isThere_11 Z (d + 1) σ l1 (l2 + 1) K) ∧ ((σ.r (2497 + 4 * l2.toNatClampNeg) 8) = Rf.nul → (¬ (σ.i (2497 + 4 * l2.toNatClampNeg) 1) = (σ.i l1 1) → B_X23_isThere_11 Z (d + 1) σ l1 (l2 + 1) K) ∧ ((σ.i (2497 + 4 * l2.toNatClampNeg) 1) = (σ.i l1 1) → ((σ.i (2497 + 4 * l2.toNatClampNeg) 2) = (σ.i l1 2) → B_X23_isThere_87 Z (d + 1) σ l1 l2 (2497 + 4 * l2.toNatClampNeg) 1 0 K) ∧ (¬ (σ.i (2497 + 4 * l2.toNatClampNeg) 2) = (σ.i l1 2) → B_X23_isThere_11 Z (d + 1) σ l1 (l2 + 1) K))))))))) : B_X23_isThere_11 Z (d + 1) σ l1 l2 K := by
  unfold B_X23_isThere_11
  refine ab_fin.s2 (i := .iload_n 2) (k := 1) (pc' := 12) (lv' := [(0, .ref 0), (1, .ref l1), (2, .int l2)]) (st' := [.int l2]) (by decide +kernel) rfl rfl ?_
  refine ab_fin.s2 (i := .aload_n 0) (k := 1) (pc' := 13) (lv' := [(0, .ref 0), (1, .ref l1), (2, .int l2)]) (st' := [.ref 0, .int l2]) (by decide +kernel) rfl rfl ?_
  refine ab_fin.q_rI (x := (σ.i 0 6)) (ix := 312) (ci := 24) (k := 6) (pc' := 16) (by decide +kernel) rfl (c_rI (F.s s0_0) rfl) rfl ?_
  refine ab_fin.br (c := (σ.i 0 6) < l2) (i := .if_icmp .gt 180) (off := 180) (t := 196) (pc' := 19) (r := []) (by decide +kernel) rfl (by decide +kernel) rfl (fun q => ?_) (fun q => ?_)
  · replace w := w.1 q
    refine ab_fin.s1i (i := .iconst 0) (k := 1) (pc' := 197) (n := 0) (by decide +kernel) rfl (by decide +kernel) rfl ?_
    exact ab_fin.q_ret (i := .ireturn) (k := 1) (v := some (.int 0)) (by decide +kernel) rfl F w
  · replace w := w.2 q
    refine ab_fin.s2 (i := .aload_n 0) (k := 1) (pc' := 20) (lv' := [(0, .ref 0), (1, .ref l1), (2, .int l2)]) (st' := [.ref 0]) (by decide +kernel) rfl rfl ?_
    refine ab_fin.q_rA (b := 3) (ix := 315) (ci := 24) (k := 2) (pc' := 23) (by decide +kernel) rfl (c_rA (F.s s0_0) rfl (rM_2 F)) rfl ?_
    refine ab_fin.s2 (i := .iload_n 2) (k := 1) (pc' := 24) (lv' := [(0, .ref 0), (1, .ref l1), (2, .int l2)]) (st' := [.int l2, .ref 3]) (by decide +kernel) rfl rfl ?_
    obtain ⟨e1, w⟩ := w
    refine ab_fin.q_eA (b := (2497 + 4 * l2.toNatClampNeg)) (pc' := 25) (by decide +kernel) (c_eA' (F.s s0_3) (by decide) rfl e1 rfl (rE_6 F s0_3 (by decide))) rfl ?_
    refine ab_fin.s2 (i := .astore_n 3) (k := 1) (pc' := 26) (lv' := [(3, .ref (2497 + 4 * l2.toNatClampNeg)), (0, .ref 0), (1, .ref l1), (2, .int l2)]) (st' := []) (by decide +kernel) rfl rfl ?_
    refine ab_fin.s2 (i := .aload_n 3) (k := 1) (pc' := 27) (lv' := [(3, .ref (2497 + 4 * l2.toNatClampNeg)), (0, .ref 0), (1, .ref l1), (2, .int l2)]) (st' := [.ref (2497 + 4 * l2.toNatClampNeg)]) (by decide +kernel) rfl rfl ?_
    refine ab_fin.s2 (i := .aload_n 1) (k := 1) (pc' := 28) (lv' := [(3, .ref (2497 + 4 * l2.toNatClampNeg)), (0, .ref 0), (1, .ref l1), (2, .int l2)]) (st' := [.ref l1, .ref (2497 + 4 * l2.toNatClampNeg)]) (by decide +kernel) rfl rfl ?_
    refine ab_fin.q_aeq (off := 162) (t := 190) (pc' := 31) (by decide +kernel) (by decide +kernel) rfl (fun q => ?_) (fun q => ?_)
    · replace w := w.1 q
      refine ab_fin.q_inc (n := 2) (c := 1) (pc' := 193) (lv' := [(2, .int (l2 + 1)), (3, .ref (2497 + 4 * l2.toNatClampNeg)), (0, .ref 0), (1, .ref l1)]) (by decide +kernel) (by decide) rfl rfl rfl rfl ?_
      refine ab_fin.s3 (i := .goto (-182)) (k := 3) (t := 11) (st' := []) (by decide +kernel) (ab_gto (by decide +kernel)) ?_
      exact ab_fin.lv ⟨(List.forall_mem_cons.mpr ⟨(List.Mem.tail _ (List.Mem.tail _ (List.Mem.head _))), (List.forall_mem_cons.mpr ⟨(List.Mem.tail _ (List.Mem.tail _ (List.Mem.tail _ (List.Mem.head _)))), (List.forall_mem_cons.mpr ⟨(List.Mem.head _), (fun _ h => absurd h List.not_mem_nil)⟩)⟩)⟩), (show ([2, 3, 0, 1] : List Nat).Nodup from by decide)⟩ w
    · replace w := w.2 q
      refine ab_fin.s2 (i := .aload_n 3) (k := 1) (pc' := 32) (lv' := [(3, .ref (2497 + 4 * l2.toNatClampNeg)), (0, .ref 0), (1, .ref l1), (2, .int l2)]) (st' := [.ref (2497 + 4 * l2.toNatClampNeg)]) (by decide +kernel) rfl rfl ?_
      refine ab_fin.q_rI (x := (σ.i (2497 + 4 * l2.toNatClampNeg) 10)) (ix := 330) (ci := 19) (k := 10) (pc' := 35) (by decide +kernel) rfl (c_rI (F.s (kE_3 e1.2)) rfl) rfl ?_
      refine ab_fin.br (c := ¬ (σ.i (2497 + 4 * l2.toNatClampNeg) 10) = 0) (i := .ifCond .ne 155) (off := 155) (t := 190) (pc' := 38) (r := []) (by decide +kernel) rfl (by decide +kernel) rfl (fun q => ?_) (fun q => ?_)
      · replace w := w.1 q
        refine ab_fin.q_inc (n := 2) (c := 1) (pc' := 193) (lv' := [(2, .int (l2 + 1)), (3, .ref (2497 + 4 * l2.toNatClampNeg)), (0, .ref 0), (1, .ref l1)]) (by decide +kernel) (by decide) rfl rfl rfl rfl ?_
        refine ab_fin.s3 (i := .goto (-182)) (k := 3) (t := 11) (st' := []) (by decide +kernel) (ab_gto (by decide +kernel)) ?_
        exact ab_fin.lv ⟨(List.forall_mem_cons.mpr ⟨(List.Mem.tail _ (List.Mem.tail _ (List.Mem.head _))), (List.forall_mem_cons.mpr ⟨(List.Mem.tail _ (List.Mem.tail _ (List.Mem.tail _ (List.Mem.head _)))), (List.forall_mem_cons.mpr ⟨(List.Mem.head _), (fun _ h => absurd h List.not_mem_nil)⟩)⟩)⟩), (show ([2, 3, 0, 1] : List Nat).Nodup from by decide)⟩ w
      · replace w := w.2 (Decidable.of_not_not q)
        refine ab_fin.s2 (i := .aload_n 3) (k := 1) (pc' := 39) (lv' := [(3, .ref (2497 + 4 * l2.toNatClampNeg)), (0, .ref 0), (1, .ref l1), (2, .int l2)]) (st' := [.ref (2497 + 4 * l2.toNatClampNeg)]) (by decide +kernel) rfl rfl ?_
        refine ab_fin.q_rI (x := (σ.i (2497 + 4 * l2.toNatClampNeg) 0)) (ix := 323) (ci := 19) (k := 0) (pc' := 42) (by decide +kernel) rfl (c_rI (F.s (kE_3 e1.2)) rfl) rfl ?_
        refine ab_fin.s2 (i := .aload_n 1) (k := 1) (pc' := 43) (lv' := [(3, .ref (2497 + 4 * l2.toNatClampNeg)), (0, .ref 0), (1, .ref l1), (2, .int l2)]) (st' := [.ref l1, .int (σ.i (2497 + 4 * l2.toNatClampNeg) 0)]) (by decide +kernel) rfl rfl ?_
        refine ab_fin.q_rI (x := (σ.i l1 0)) (ix := 323) (ci := 19) (k := 0) (pc' := 46) (by decide +kernel) rfl (c_rI (F.s p_l1) rfl) rfl ?_
        refine ab_fin.br (c := ¬ (σ.i (2497 + 4 * l2.toNatClampNeg) 0) = (σ.i l1 0)) (i := .if_icmp .ne 144) (off := 144) (t := 190) (pc' := 49) (r := []) (by decide +kernel) rfl (by decide +kernel) rfl (fun q => ?_) (fun q => ?_)
        · replace w := w.1 q
          refine ab_fin.q_inc (n := 2) (c := 1) (pc' := 193) (lv' := [(2, .int (l2 + 1)), (3, .ref (2497 + 4 * l2.toNatClampNeg)), (0, .ref 0), (1, .ref l1)]) (by decide +kernel) (by decide) rfl rfl rfl rfl ?_
          refine ab_fin.s3 (i := .goto (-182)) (k := 3) (t := 11) (st' := []) (by decide +kernel) (ab_gto (by decide +kernel)) ?_
          exact ab_fin.lv ⟨(List.forall_mem_cons.mpr ⟨(List.Mem.tail _ (List.Mem.tail _ (List.Mem.head _))), (List.forall_mem_cons.mpr ⟨(List.Mem.tail _ (List.Mem.tail _ (List.Mem.tail _ (List.Mem.head _)))), (List.forall_mem_cons.mpr ⟨(List.Mem.head _), (fun _ h => absurd h List.not_mem_nil)⟩)⟩)⟩), (show ([2, 3, 0, 1] : List Nat).Nodup from by decide)⟩ w
        · replace w := w.2 (Decidable.of_not_not q)
          refine ab_fin.s2 (i := .aload_n 3) (k := 1) (pc' := 50) (lv' := [(3, .ref (2497 + 4 * l2.toNatClampNeg)), (0, .ref 0), (1, .ref l1), (2, .int l2)]) (st' := [.ref (2497 + 4 * l2.toNatClampNeg)]) (by decide +kernel) rfl rfl ?_
          refine ab_fin.q_rV (v := rv (σ.r (2497 + 4 * l2.toNatClampNeg) 8)) (ix := 335) (ci := 19) (k := 8) (pc' := 53) (by decide +kernel) rfl (c_rV (F.s (kE_3 e1.2)) rfl) rfl ?_
          refine ab_fin.q_nnl (off := 137) (t := 190) (pc' := 56) (by decide +kernel) (oR_rv _) (by decide +kernel) rfl (fun q => ?_) (fun q => ?_)
          · replace w := w.1 (fun z => q (rv_null.mpr z))
            refine ab_fin.q_inc (n := 2) (c := 1) (pc' := 193) (lv' := [(2, .int (l2 + 1)), (3, .ref (2497 + 4 * l2.toNatClampNeg)), (0, .ref 0), (1, .ref l1)]) (by decide +kernel) (by decide) rfl rfl rfl rfl ?_
            refine ab_fin.s3 (i := .goto (-182)) (k := 3) (t := 11) (st' := []) (by decide +kernel) (ab_gto (by decide +kernel)) ?_
            exact ab_fin.lv ⟨(List.forall_mem_cons.mpr ⟨(List.Mem.tail _ (List.Mem.tail _ (List.Mem.head _))), (List.forall_mem_cons.mpr ⟨(List.Mem.tail _ (List.Mem.tail _ (List.Mem.tail _ (List.Mem.head _)))), (List.forall_mem_cons.mpr ⟨(List.Mem.head _), (fun _ h => absurd h List.not_mem_nil)⟩)⟩)⟩), (show ([2, 3, 0, 1] : List Nat).Nodup from by decide)⟩ w
          · replace w := w.2 (rv_null.mp q)
            refine ab_fin.s2 (i := .aload_n 3) (k := 1) (pc' := 57) (lv' := [(3, .ref (2497 + 4 * l2.toNatClampNeg)), (0, .ref 0), (1, .ref l1), (2, .int l2)]) (st' := [.ref (2497 + 4 * l2.toNatClampNeg)]) (by decide +kernel) rfl rfl ?_
            refine ab_fin.q_rI (x := (σ.i (2497 + 4 * l2.toNatClampNeg) 1)) (ix := 346) (ci := 19) (k := 1) (pc' := 60) (by decide +kernel) rfl (c_rI (F.s (kE_3 e1.2)) rfl) rfl ?_
            refine ab_fin.s2 (i := .aload_n 1) (k := 1) (pc' := 61) (lv' := [(3, .ref (2497 + 4 * l2.toNatClampNeg)), (0, .ref 0), (1, .ref l1), (2, .int l2)]) (st' := [.ref l1, .int (σ.i (2497 + 4 * l2.toNatClampNeg) 1)]) (by decide +kernel) rfl rfl ?_
            refine ab_fin.q_rI (x := (σ.i l1 1)) (ix := 346) (ci := 19) (k := 1) (pc' := 64) (by decide +kernel) rfl (c_rI (F.s p_l1) rfl) rfl ?_
            refine ab_fin.br (c := ¬ (σ.i (2497 + 4 * l2.toNatClampNeg) 1) = (σ.i l1 1)) (i := .if_icmp .ne 126) (off := 126) (t := 190) (pc' := 67) (r := []) (by decide +kernel) rfl (by decide +kernel) rfl (fun q => ?_) (fun q => ?_)
            · replace w := w.1 q
              refine ab_fin.q_inc (n := 2) (c := 1) (pc' := 193) (lv' := [(2, .int (l2 + 1)), (3, .ref (2497 + 4 * l2.toNatClampNeg)), (0, .ref 0), (1, .ref l1)]) (by decide +kernel) (by decide) rfl rfl rfl rfl ?_
              refine ab_fin.s3 (i := .goto (-182)) (k := 3) (t := 11) (st' := []) (by decide +kernel) (ab_gto (by decide +kernel)) ?_
              exact ab_fin.lv ⟨(List.forall_mem_cons.mpr ⟨(List.Mem.tail _ (List.Mem.tail _ (List.Mem.head _))), (List.forall_mem_cons.mpr ⟨(List.Mem.tail _ (List.Mem.tail _ (List.Mem.tail _ (List.Mem.head _)))), (List.forall_mem_cons.mpr ⟨(List.Mem.head _), (fun _ h => absurd h List.not_mem_nil)⟩)⟩)⟩), (show ([2, 3, 0, 1] : List Nat).Nodup from by decide)⟩ w
            · replace w := w.2 (Decidable.of_not_not q)
              refine ab_fin.s2 (i := .aload_n 3) (k := 1) (pc' := 68) (lv' := [(3, .ref (2497 + 4 * l2.toNatClampNeg)), (0, .ref 0), (1, .ref l1), (2, .int l2)]) (st' := [.ref (2497 + 4 * l2.toNatClampNeg)]) (by decide +kernel) rfl rfl ?_
              refine ab_fin.q_rI (x := (σ.i (2497 + 4 * l2.toNatClampNeg) 2)) (ix := 333) (ci := 19) (k := 2) (pc' := 71) (by decide +kernel) rfl (c_rI (F.s (kE_3 e1.2)) rfl) rfl ?_
              refine ab_fin.s2 (i := .aload_n 1) (k := 1) (pc' := 72) (lv' := [(3, .ref (2497 + 4 * l2.toNatClampNeg)), (0, .ref 0), (1, .ref l1), (2, .int l2)]) (st' := [.ref l1, .int (σ.i (2497 + 4 * l2.toNatClampNeg) 2)]) (by decide +kernel) rfl rfl ?_
              refine ab_fin.q_rI (x := (σ.i l1 2)) (ix := 333) (ci := 19) (k := 2) (pc' := 75) (by decide +kernel) rfl (c_rI (F.s p_l1) rfl) rfl ?_
              refine ab_fin.br (c := (σ.i (2497 + 4 * l2.toNatClampNeg) 2) = (σ.i l1 2)) (i := .if_icmp .eq 6) (off := 6) (t := 81) (pc' := 78) (r := []) (by decide +kernel) rfl (by decide +kernel) rfl (fun q => ?_) (fun q => ?_)
              · replace w := w.1 q
                refine ab_fin.s1i (i := .iconst 1) (k := 1) (pc' := 82) (n := 1) (by decide +kernel) rfl (by decide +kernel) rfl ?_
                refine ab_fin.s2 (i := .istore 4) (k := 2) (pc' := 84) (lv' := [(4, .int 1), (3, .ref (2497 + 4 * l2.toNatClampNeg)), (0, .ref 0), (1, .ref l1), (2, .int l2)]) (st' := []) (by decide +kernel) rfl rfl ?_
                refine ab_fin.s1i (i := .iconst 0) (k := 1) (pc' := 85) (n := 0) (by decide +kernel) rfl (by decide +kernel) rfl ?_
                refine ab_fin.s2 (i := .istore 5) (k := 2) (pc' := 87) (lv' := [(5, .int 0), (4, .int 1), (3, .ref (2497 + 4 * l2.toNatClampNeg)), (0, .ref 0), (1, .ref l1), (2, .int l2)]) (st' := []) (by decide +kernel) rfl rfl ?_
                exact ab_fin.lv ⟨(List.forall_mem_cons.mpr ⟨(List.Mem.tail _ (List.Mem.tail _ (List.Mem.tail _ (List.Mem.head _)))), (List.forall_mem_cons.mpr ⟨(List.Mem.tail _ (List.Mem.tail _ (List.Mem.tail _ (List.Mem.tail _ (List.Mem.head _))))), (List.forall_mem_cons.mpr ⟨(List.Mem.tail _ (List.Mem.tail _ (List.Mem.tail _ (List.Mem.tail _ (List.Mem.tail _ (List.Mem.head _)))))), (List.forall_mem_cons.mpr ⟨(List.Mem.tail _ (List.Mem.tail _ (List.Mem.head _))), (List.forall_mem_cons.mpr ⟨(List.Mem.tail _ (List.Mem.head _)), (List.forall_mem_cons.mpr ⟨(List.Mem.head _), (fun _ h => absurd h List.not_mem_nil)⟩)⟩)⟩)⟩)⟩)⟩), (show ([5, 4, 3, 0, 1, 2] : List Nat).Nodup from by decide)⟩ w
              · replace w := w.2 q
                refine ab_fin.s3 (i := .goto 112) (k := 3) (t := 190) (st' := []) (by decide +kernel) (ab_gto (by decide +kernel)) ?_
                refine ab_fin.q_inc (n := 2) (c := 1) (pc' := 193) (lv' := [(2, .int (l2 + 1)), (3, .ref (2497 + 4 * l2.toNatClampNeg)), (0, .ref 0), (1, .ref l1)]) (by decide +kernel) (by decide) rfl rfl rfl rfl ?_
                refine ab_fin.s3 (i := .goto (-182)) (k := 3) (t := 11) (st' := []) (by decide +kernel) (ab_gto (by decide +kernel)) ?_
                exact ab_fin.lv ⟨(List.forall_mem_cons.mpr ⟨(List.Mem.tail _ (List.Mem.tail _ (List.Mem.head _))), (List.forall_mem_cons.mpr ⟨(List.Mem.tail _ (List.Mem.tail _ (List.Mem.tail _ (List.Mem.head _)))), (List.forall_mem_cons.mpr ⟨(List.Mem.head _), (fun _ h => absurd h List.not_mem_nil)⟩)⟩)⟩), (show ([2, 3, 0, 1] : List Nat).Nodup from by decide)⟩ w
theorem S_X23_isThere_87 {Z : zT} {d : Nat} {σ : Sg} {l1 : Nat} {l2 : Int32} {l3 : Nat} {l4 : Int32} {l5 : Int32} {K : kS} (F : FX ΦR σ.sh σ.r) (p_l1 : sh0R[l1]? = some (Sh.obj 19)) (p_l3 : sh0R[l3]? = some (Sh.obj 19)) (w : ib (σ.i l1 0) 24 ∧ (((σ.i (2409 + 3 * ((σ.i l1 0).toNatClampNeg)) 1) ≤ l5 → (l4 = 0 → B_X23_isThere_11 Z (d + 1) σ l1 (l2 + 1) K) ∧ (¬ l4 = 0 → K (.inl (some (.int 1))) σ)) ∧ (¬ (σ.i (2409 + 3 * ((σ.i l1 0).toNatClampNeg)) 1) ≤ l5 → (l4 = 0 → B_X23_isThere_87 Z (d + 1) σ l1 l2 l3 0 (l5 + 1) K) ∧ (¬ l4 = 0 → ib l5 3 ∧ (ib l5 3 ∧ ((¬ (σ.i (l3 + 1) l5.toNatClampNeg) = (σ.i (l1 + 1) l5.toNatClampNeg) → B_X23_isThere_87 Z (d + 1) σ l1 l2 l3 0 (l5 + 1) K) ∧ ((σ.i (l3 + 1) l5.toNatClampNeg) = (σ.i (l1 + 1) l5.toNatClampNeg) → ib l5 3 ∧ (ib l5 3 ∧ ((¬ (σ.i (l3 + 3) l5.toNatClampNeg) = (σ.i (l1 + 3) l5.toNatClampNeg) → B_X23_isThere_87 Z (d + 1) σ l1 l2 l3 0 (l5 + 1) K) ∧ ((σ.i (l3 + 3) l5.toNatClampNeg) = (σ.i (l1 + 3) l5.toNatClampNeg) → ib l5 3 ∧ (((σ.i (l3 + 3) l5.toNatClampNeg) = 0 → B_X23_isThere_87 Z (d + 1) σ l1 l2 l3 1 (l5 + 1) K) ∧ (¬ (σ.i (l3 + 3) l5.toNatClampNeg) = 0 → ib l5 3 ∧ (ib l5 3 ∧ ((¬ (σ.i (l3 + 2) l5.toNatClampNeg) = (σ.i (l1 + 2) l5.toNatClampNeg) → B_X23_isThere_87 Z (d + 1) σ l1 l2 l3 0 (l5 + 1) K) ∧ ((σ.i (l3 + 2) l5.toNatClampNeg) = (σ.i (l1 + 2) l5.toNatClampNeg) → B_X23_isThere_87 Z (d + 1) σ l1 l2 l3 1 (l5 + 1) K))))))))))))))) : B_X23_isThere_87 Z (d + 1) σ l1 l2 l3 l4 l5 K := by
  unfold B_X23_isThere_87
  refine ab_fin.s2 (i := .iload 5) (k := 2) (pc' := 89) (lv' := [(0, .ref 0), (1, .ref l1), (2, .int l2), (3, .ref l3), (4, .int l4), (5, .int l5)]) (st' := [.int l5]) (by decide +kernel) rfl rfl ?_
  refine ab_fin.s2 (i := .aload_n 0) (k := 1) (pc' := 90) (lv' := [(0, .ref 0), (1, .ref l1), (2, .int l2), (3, .ref l3), (4, .int l4), (5, .int l5)]) (st' := [.ref 0, .int l5]) (by decide +kernel) rfl rfl ?_
  refine ab_fin.q_rA (b := 2) (ix := 34) (ci := 24) (k := 1) (pc' := 93) (by decide +kernel) rfl (c_rA (F.s s0_0) rfl (rM_1 F)) rfl ?_
  refine ab_fin.s2 (i := .aload_n 1) (k := 1) (pc' := 94) (lv' := [(0, .ref 0), (1, .ref l1), (2, .int l2), (3, .ref l3), (4, .int l4), (5, .int l5)]) (st' := [.ref l1, .ref 2, .int l5]) (by decide +kernel) rfl rfl ?_
  refine ab_fin.q_rI (x := (σ.i l1 0)) (ix := 323) (ci := 19) (k := 0) (pc' := 97) (by decide +kernel) rfl (c_rI (F.s p_l1) rfl) rfl ?_
  obtain ⟨e1, w⟩ := w
  refine ab_fin.q_eA (b := (2409 + 3 * ((σ.i l1 0).toNatClampNeg))) (pc' := 98) (by decide +kernel) (c_eA' (F.s s0_2) (by decide) rfl e1 rfl (rE_5 F s0_2)) rfl ?_
  refine ab_fin.q_rI (x := (σ.i (2409 + 3 * ((σ.i l1 0).toNatClampNeg)) 1)) (ix := 303) (ci := 14) (k := 1) (pc' := 101) (by decide +kernel) rfl (c_rI (F.s (kE_2 e1.2)) rfl) rfl ?_
  refine ab_fin.br (c := (σ.i (2409 + 3 * ((σ.i l1 0).toNatClampNeg)) 1) ≤ l5) (i := .if_icmp .ge 82) (off := 82) (t := 183) (pc' := 104) (r := []) (by decide +kernel) rfl (by decide +kernel) rfl (fun q => ?_) (fun q => ?_)
  · replace w := w.1 q
    refine ab_fin.s2 (i := .iload 4) (k := 2) (pc' := 185) (lv' := [(0, .ref 0), (1, .ref l1), (2, .int l2), (3, .ref l3), (4, .int l4), (5, .int l5)]) (st' := [.int l4]) (by decide +kernel) rfl rfl ?_
    refine ab_fin.br (c := l4 = 0) (i := .ifCond .eq 5) (off := 5) (t := 190) (pc' := 188) (r := []) (by decide +kernel) rfl (by decide +kernel) rfl (fun q => ?_) (fun q => ?_)
    · replace w := w.1 q
      refine ab_fin.q_inc (n := 2) (c := 1) (pc' := 193) (lv' := [(2, .int (l2 + 1)), (0, .ref 0), (1, .ref l1), (3, .ref l3), (4, .int l4), (5, .int l5)]) (by decide +kernel) (by decide) rfl rfl rfl rfl ?_
      refine ab_fin.s3 (i := .goto (-182)) (k := 3) (t := 11) (st' := []) (by decide +kernel) (ab_gto (by decide +kernel)) ?_
      exact ab_fin.lv ⟨(List.forall_mem_cons.mpr ⟨(List.Mem.tail _ (List.Mem.head _)), (List.forall_mem_cons.mpr ⟨(List.Mem.tail _ (List.Mem.tail _ (List.Mem.head _))), (List.forall_mem_cons.mpr ⟨(List.Mem.head _), (fun _ h => absurd h List.not_mem_nil)⟩)⟩)⟩), (show ([2, 0, 1, 3, 4, 5] : List Nat).Nodup from by decide)⟩ w
    · replace w := w.2 q
      refine ab_fin.s1i (i := .iconst 1) (k := 1) (pc' := 189) (n := 1) (by decide +kernel) rfl (by decide +kernel) rfl ?_
      exact ab_fin.q_ret (i := .ireturn) (k := 1) (v := some (.int 1)) (by decide +kernel) rfl F w
  · replace w := w.2 q
    refine ab_fin.s2 (i := .iload 4) (k := 2) (pc' := 106) (lv' := [(0, .ref 0), (1, .ref l1), (2, .int l2), (3, .ref l3), (4, .int l4), (5, .int l5)]) (st' := [.int l4]) (by decide +kernel) rfl rfl ?_
    refine ab_fin.br (c := l4 = 0) (i := .ifCond .eq 68) (off := 68) (t := 174) (pc' := 109) (r := []) (by decide +kernel) rfl (by decide +kernel) rfl (fun q => ?_) (fun q => ?_)
    · replace w := w.1 q
      refine ab_fin.s1i (i := .iconst 0) (k := 1) (pc' := 175) (n := 0) (by decide +kernel) rfl (by decide +kernel) rfl ?_
      refine ab_fin.s2 (i := .istore 4) (k := 2) (pc' := 177) (lv' := [(4, .int 0), (0, .ref 0), (1, .ref l1), (2, .int l2), (3, .ref l3), (5, .int l5)]) (st' := []) (by decide +kernel) rfl rfl ?_
      refine ab_fin.q_inc (n := 5) (c := 1) (pc' := 180) (lv' := [(5, .int (l5 + 1)), (4, .int 0), (0, .ref 0), (1, .ref l1), (2, .int l2), (3, .ref l3)]) (by decide +kernel) (by decide) rfl rfl rfl rfl ?_
      refine ab_fin.s3 (i := .goto (-93)) (k := 3) (t := 87) (st' := []) (by decide +kernel) (ab_gto (by decide +kernel)) ?_
      exact ab_fin.lv ⟨(List.forall_mem_cons.mpr ⟨(List.Mem.tail _ (List.Mem.tail _ (List.Mem.head _))), (List.forall_mem_cons.mpr ⟨(List.Mem.tail _ (List.Mem.tail _ (List.Mem.tail _ (List.Mem.head _)))), (List.forall_mem_cons.mpr ⟨(List.Mem.tail _ (List.Mem.tail _ (List.Mem.tail _ (List.Mem.tail _ (List.Mem.head _))))), (List.forall_mem_cons.mpr ⟨(List.Mem.tail _ (List.Mem.tail _ (List.Mem.tail _ (List.Mem.tail _ (List.Mem.tail _ (List.Mem.head _)))))), (List.forall_mem_cons.mpr ⟨(List.Mem.tail _ (List.Mem.head _)), (List.forall_mem_cons.mpr ⟨(List.Mem.head _), (fun _ h => absurd h List.not_mem_nil)⟩)⟩)⟩)⟩)⟩)⟩), (show ([5, 4, 0, 1, 2, 3] : List Nat).Nodup from by decide)⟩ w
    · replace w := w.2 q
      refine ab_fin.s2 (i := .aload_n 3) (k := 1) (pc' := 110) (lv' := [(0, .ref 0), (1, .ref l1), (2, .int l2), (3, .ref l3), (4, .int l4), (5, .int l5)]) (st' := [.ref l3]) (by decide +kernel) rfl rfl ?_
      refine ab_fin.q_rA (b := (l3 + 1)) (ix := 391) (ci := 19) (k := 5) (pc' := 113) (by decide +kernel) rfl (c_rA (F.s p_l3) rfl (rO_19_5 F p_l3)) rfl ?_
      refine ab_fin.s2 (i := .iload 5) (k := 2) (pc' := 115) (lv' := [(0, .ref 0), (1, .ref l1), (2, .int l2), (3, .ref l3), (4, .int l4), (5, .int l5)]) (st' := [.int l5, .ref (l3 + 1)]) (by decide +kernel) rfl rfl ?_
      obtain ⟨e2, w⟩ := w
      refine ab_fin.q_eI (x := (σ.i (l3 + 1) l5.toNatClampNeg)) (pc' := 116) (by decide +kernel) (c_eI' (F.s (kF_19_1 p_l3)) e2 rfl) rfl ?_
      refine ab_fin.s2 (i := .aload_n 1) (k := 1) (pc' := 117) (lv' := [(0, .ref 0), (1, .ref l1), (2, .int l2), (3, .ref l3), (4, .int l4), (5, .int l5)]) (st' := [.ref l1, .int (σ.i (l3 + 1) l5.toNatClampNeg)]) (by decide +kernel) rfl rfl ?_
      refine ab_fin.q_rA (b := (l1 + 1)) (ix := 391) (ci := 19) (k := 5) (pc' := 120) (by decide +kernel) rfl (c_rA (F.s p_l1) rfl (rO_19_5 F p_l1)) rfl ?_
      refine ab_fin.s2 (i := .iload 5) (k := 2) (pc' := 122) (lv' := [(0, .ref 0), (1, .ref l1), (2, .int l2), (3, .ref l3), (4, .int l4), (5, .int l5)]) (st' := [.int l5, .ref (l1 + 1), .int (σ.i (l3 + 1) l5.toNatClampNeg)]) (by decide +kernel) rfl rfl ?_
      obtain ⟨e3, w⟩ := w
      refine ab_fin.q_eI (x := (σ.i (l1 + 1) l5.toNatClampNeg)) (pc' := 123) (by decide +kernel) (c_eI' (F.s (kF_19_1 p_l1)) e3 rfl) rfl ?_
      refine ab_fin.br (c := ¬ (σ.i (l3 + 1) l5.toNatClampNeg) = (σ.i (l1 + 1) l5.toNatClampNeg)) (i := .if_icmp .ne 51) (off := 51) (t := 174) (pc' := 126) (r := []) (by decide +kernel) rfl (by decide +kernel) rfl (fun q => ?_) (fun q => ?_)
      · replace w := w.1 q
        refine ab_fin.s1i (i := .iconst 0) (k := 1) (pc' := 175) (n := 0) (by decide +kernel) rfl (by decide +kernel) rfl ?_
        refine ab_fin.s2 (i := .istore 4) (k := 2) (pc' := 177) (lv' := [(4, .int 0), (0, .ref 0), (1, .ref l1), (2, .int l2), (3, .ref l3), (5, .int l5)]) (st' := []) (by decide +kernel) rfl rfl ?_
        refine ab_fin.q_inc (n := 5) (c := 1) (pc' := 180) (lv' := [(5, .int (l5 + 1)), (4, .int 0), (0, .ref 0), (1, .ref l1), (2, .int l2), (3, .ref l3)]) (by decide +kernel) (by decide) rfl rfl rfl rfl ?_
        refine ab_fin.s3 (i := .goto (-93)) (k := 3) (t := 87) (st' := []) (by decide +kernel) (ab_gto (by decide +kernel)) ?_
        exact ab_fin.lv ⟨(List.forall_mem_cons.mpr ⟨(List.Mem.tail _ (List.Mem.tail _ (List.Mem.head _))), (List.forall_mem_cons.mpr ⟨(List.Mem.tail _ (List.Mem.tail _ (List.Mem.tail _ (List.Mem.head _)))), (List.forall_mem_cons.mpr ⟨(List.Mem.tail _ (List.Mem.tail _ (List.Mem.tail _ (List.Mem.tail _ (List.Mem.head _))))), (List.forall_mem_cons.mpr ⟨(List.Mem.tail _ (List.Mem.tail _ (List.Mem.tail _ (List.Mem.tail _ (List.Mem.tail _ (List.Mem.head _)))))), (List.forall_mem_cons.mpr ⟨(List.Mem.tail _ (List.Mem.head _)), (List.forall_mem_cons.mpr ⟨(List.Mem.head _), (fun _ h => absurd h List.not_mem_nil)⟩)⟩)⟩)⟩)⟩)⟩), (show ([5, 4, 0, 1, 2, 3] : List Nat).Nodup from by decide)⟩ w
      · replace w := w.2 (Decidable.of_not_not q)
        refine ab_fin.s2 (i := .aload_n 3) (k := 1) (pc' := 127) (lv' := [(0, .ref 0), (1, .ref l1), (2, .int l2), (3, .ref l3), (4, .int l4), (5, .int l5)]) (st' := [.ref l3]) (by decide +kernel) rfl rfl ?_
        refine ab_fin.q_rA (b := (l3 + 3)) (ix := 365) (ci := 19) (k := 7) (pc' := 130) (by decide +kernel) rfl (c_rA (F.s p_l3) rfl (rO_19_7 F p_l3)) rfl ?_
        refine ab_fin.s2 (i := .iload 5) (k := 2) (pc' := 132) (lv' := [(0, .ref 0), (1, .ref l1), (2, .int l2), (3, .ref l3), (4, .int l4), (5, .int l5)]) (st' := [.int l5, .ref (l3 + 3)]) (by decide +kernel) rfl rfl ?_
        obtain ⟨e4, w⟩ := w
        refine ab_fin.q_eB (x := (σ.i (l3 + 3) l5.toNatClampNeg)) (pc' := 133) (by decide +kernel) (c_eB3' (F.s (kF_19_3 p_l3)) e4 rfl) rfl ?_
        refine ab_fin.s2 (i := .aload_n 1) (k := 1) (pc' := 134) (lv' := [(0, .ref 0), (1, .ref l1), (2, .int l2), (3, .ref l3), (4, .int l4), (5, .int l5)]) (st' := [.ref l1, .int (σ.i (l3 + 3) l5.toNatClampNeg)]) (by decide +kernel) rfl rfl ?_
        refine ab_fin.q_rA (b := (l1 + 3)) (ix := 365) (ci := 19) (k := 7) (pc' := 137) (by decide +kernel) rfl (c_rA (F.s p_l1) rfl (rO_19_7 F p_l1)) rfl ?_
        refine ab_fin.s2 (i := .iload 5) (k := 2) (pc' := 139) (lv' := [(0, .ref 0), (1, .ref l1), (2, .int l2), (3, .ref l3), (4, .int l4), (5, .int l5)]) (st' := [.int l5, .ref (l1 + 3), .int (σ.i (l3 + 3) l5.toNatClampNeg)]) (by decide +kernel) rfl rfl ?_
        obtain ⟨e5, w⟩ := w
        refine ab_fin.q_eB (x := (σ.i (l1 + 3) l5.toNatClampNeg)) (pc' := 140) (by decide +kernel) (c_eB3' (F.s (kF_19_3 p_l1)) e5 rfl) rfl ?_
        refine ab_fin.br (c := ¬ (σ.i (l3 + 3) l5.toNatClampNeg) = (σ.i (l1 + 3) l5.toNatClampNeg)) (i := .if_icmp .ne 34) (off := 34) (t := 174) (pc' := 143) (r := []) (by decide +kernel) rfl (by decide +kernel) rfl (fun q => ?_) (fun q => ?_)
        · replace w := w.1 q
          refine ab_fin.s1i (i := .iconst 0) (k := 1) (pc' := 175) (n := 0) (by decide +kernel) rfl (by decide +kernel) rfl ?_
          refine ab_fin.s2 (i := .istore 4) (k := 2) (pc' := 177) (lv' := [(4, .int 0), (0, .ref 0), (1, .ref l1), (2, .int l2), (3, .ref l3), (5, .int l5)]) (st' := []) (by decide +kernel) rfl rfl ?_
          refine ab_fin.q_inc (n := 5) (c := 1) (pc' := 180) (lv' := [(5, .int (l5 + 1)), (4, .int 0), (0, .ref 0), (1, .ref l1), (2, .int l2), (3, .ref l3)]) (by decide +kernel) (by decide) rfl rfl rfl rfl ?_
          refine ab_fin.s3 (i := .goto (-93)) (k := 3) (t := 87) (st' := []) (by decide +kernel) (ab_gto (by decide +kernel)) ?_
          exact ab_fin.lv ⟨(List.forall_mem_cons.mpr ⟨(List.Mem.tail _ (List.Mem.tail _ (List.Mem.head _))), (List.forall_mem_cons.mpr ⟨(List.Mem.tail _ (List.Mem.tail _ (List.Mem.tail _ (List.Mem.head _)))), (List.forall_mem_cons.mpr ⟨(List.Mem.tail _ (List.Mem.tail _ (List.Mem.tail _ (List.Mem.tail _ (List.Mem.head _))))), (List.forall_mem_cons.mpr ⟨(List.Mem.tail _ (List.Mem.tail _ (List.Mem.tail _ (List.Mem.tail _ (List.Mem.tail _ (List.Mem.head _)))))), (List.forall_mem_cons.mpr ⟨(List.Mem.tail _ (List.Mem.head _)), (List.forall_mem_cons.mpr ⟨(List.Mem.head _), (fun _ h => absurd h List.not_mem_nil)⟩)⟩)⟩)⟩)⟩)⟩), (show ([5, 4, 0, 1, 2, 3] : List Nat).Nodup from by decide)⟩ w
        · replace w := w.2 (Decidable.of_not_not q)
          refine ab_fin.s2 (i := .aload_n 3) (k := 1) (pc' := 144) (lv' := [(0, .ref 0), (1, .ref l1), (2, .int l2), (3, .ref l3), (4, .int l4), (5, .int l5)]) (st' := [.ref l3]) (by decide +kernel) rfl rfl ?_
          refine ab_fin.q_rA (b := (l3 + 3)) (ix := 365) (ci := 19) (k := 7) (pc' := 147) (by decide +kernel) rfl (c_rA (F.s p_l3) rfl (rO_19_7 F p_l3)) rfl ?_
          refine ab_fin.s2 (i := .iload 5) (k := 2) (pc' := 149) (lv' := [(0, .ref 0), (1, .ref l1), (2, .int l2), (3, .ref l3), (4, .int l4), (5, .int l5)]) (st' := [.int l5, .ref (l3 + 3)]) (by decide +kernel) rfl rfl ?_
          obtain ⟨e6, w⟩ := w
          refine ab_fin.q_eB (x := (σ.i (l3 + 3) l5.toNatClampNeg)) (pc' := 150) (by decide +kernel) (c_eB3' (F.s (kF_19_3 p_l3)) e6 rfl) rfl ?_
          refine ab_fin.br (c := (σ.i (l3 + 3) l5.toNatClampNeg) = 0) (i := .ifCond .eq 20) (off := 20) (t := 170) (pc' := 153) (r := []) (by decide +kernel) rfl (by decide +kernel) rfl (fun q => ?_) (fun q => ?_)
          · replace w := w.1 q
            refine ab_fin.s1i (i := .iconst 1) (k := 1) (pc' := 171) (n := 1) (by decide +kernel) rfl (by decide +kernel) rfl ?_
            refine ab_fin.s3 (i := .goto 4) (k := 3) (t := 175) (st' := [.int 1]) (by decide +kernel) (ab_gto (by decide +kernel)) ?_
            refine ab_fin.s2 (i := .istore 4) (k := 2) (pc' := 177) (lv' := [(4, .int 1), (0, .ref 0), (1, .ref l1), (2, .int l2), (3, .ref l3), (5, .int l5)]) (st' := []) (by decide +kernel) rfl rfl ?_
            refine ab_fin.q_inc (n := 5) (c := 1) (pc' := 180) (lv' := [(5, .int (l5 + 1)), (4, .int 1), (0, .ref 0), (1, .ref l1), (2, .int l2), (3, .ref l3)]) (by decide +kernel) (by decide) rfl rfl rfl rfl ?_
            refine ab_fin.s3 (i := .goto (-93)) (k := 3) (t := 87) (st' := []) (by decide +kernel) (ab_gto (by decide +kernel)) ?_
            exact ab_fin.lv ⟨(List.forall_mem_cons.mpr ⟨(List.Mem.tail _ (List.Mem.tail _ (List.Mem.head _))), (List.forall_mem_cons.mpr ⟨(List.Mem.tail _ (List.Mem.tail _ (List.Mem.tail _ (List.Mem.head _)))), (List.forall_mem_cons.mpr ⟨(List.Mem.tail _ (List.Mem.tail _ (List.Mem.tail _ (List.Mem.tail _ (List.Mem.head _))))), (List.forall_mem_cons.mpr ⟨(List.Mem.tail _ (List.Mem.tail _ (List.Mem.tail _ (List.Mem.tail _ (List.Mem.tail _ (List.Mem.head _)))))), (List.forall_mem_cons.mpr ⟨(List.Mem.tail _ (List.Mem.head _)), (List.forall_mem_cons.mpr ⟨(List.Mem.head _), (fun _ h => absurd h List.not_mem_nil)⟩)⟩)⟩)⟩)⟩)⟩), (show ([5, 4, 0, 1, 2, 3] : List Nat).Nodup from by decide)⟩ w
          · replace w := w.2 q
            refine ab_fin.s2 (i := .aload_n 3) (k := 1) (pc' := 154) (lv' := [(0, .ref 0), (1, .ref l1), (2, .int l2), (3, .ref l3), (4, .int l4), (5, .int l5)]) (st' := [.ref l3]) (by decide +kernel) rfl rfl ?_
            refine ab_fin.q_rA (b := (l3 + 2)) (ix := 393) (ci := 19) (k := 6) (pc' := 157) (by decide +kernel) rfl (c_rA (F.s p_l3) rfl (rO_19_6 F p_l3)) rfl ?_
            refine ab_fin.s2 (i := .iload 5) (k := 2) (pc' := 159) (lv' := [(0, .ref 0), (1, .ref l1), (2, .int l2), (3, .ref l3), (4, .int l4), (5, .int l5)]) (st' := [.int l5, .ref (l3 + 2)]) (by decide +kernel) rfl rfl ?_
            obtain ⟨e7, w⟩ := w
            refine ab_fin.q_eI (x := (σ.i (l3 + 2) l5.toNatClampNeg)) (pc' := 160) (by decide +kernel) (c_eI' (F.s (kF_19_2 p_l3)) e7 rfl) rfl ?_
            refine ab_fin.s2 (i := .aload_n 1) (k := 1) (pc' := 161) (lv' := [(0, .ref 0), (1, .ref l1), (2, .int l2), (3, .ref l3), (4, .int l4), (5, .int l5)]) (st' := [.ref l1, .int (σ.i (l3 + 2) l5.toNatClampNeg)]) (by decide +kernel) rfl rfl ?_
            refine ab_fin.q_rA (b := (l1 + 2)) (ix := 393) (ci := 19) (k := 6) (pc' := 164) (by decide +kernel) rfl (c_rA (F.s p_l1) rfl (rO_19_6 F p_l1)) rfl ?_
            refine ab_fin.s2 (i := .iload 5) (k := 2) (pc' := 166) (lv' := [(0, .ref 0), (1, .ref l1), (2, .int l2), (3, .ref l3), (4, .int l4), (5, .int l5)]) (st' := [.int l5, .ref (l1 + 2), .int (σ.i (l3 + 2) l5.toNatClampNeg)]) (by decide +kernel) rfl rfl ?_
            obtain ⟨e8, w⟩ := w
            refine ab_fin.q_eI (x := (σ.i (l1 + 2) l5.toNatClampNeg)) (pc' := 167) (by decide +kernel) (c_eI' (F.s (kF_19_2 p_l1)) e8 rfl) rfl ?_
            refine ab_fin.br (c := ¬ (σ.i (l3 + 2) l5.toNatClampNeg) = (σ.i (l1 + 2) l5.toNatClampNeg)) (i := .if_icmp .ne 7) (off := 7) (t := 174) (pc' := 170) (r := []) (by decide +kernel) rfl (by decide +kernel) rfl (fun q => ?_) (fun q => ?_)
            · replace w := w.1 q
              refine ab_fin.s1i (i := .iconst 0) (k := 1) (pc' := 175) (n := 0) (by decide +kernel) rfl (by decide +kernel) rfl ?_
              refine ab_fin.s2 (i := .istore 4) (k := 2) (pc' := 177) (lv' := [(4, .int 0), (0, .ref 0), (1, .ref l1), (2, .int l2), (3, .ref l3), (5, .int l5)]) (st' := []) (by decide +kernel) rfl rfl ?_
              refine ab_fin.q_inc (n := 5) (c := 1) (pc' := 180) (lv' := [(5, .int (l5 + 1)), (4, .int 0), (0, .ref 0), (1, .ref l1), (2, .int l2), (3, .ref l3)]) (by decide +kernel) (by decide) rfl rfl rfl rfl ?_
              refine ab_fin.s3 (i := .goto (-93)) (k := 3) (t := 87) (st' := []) (by decide +kernel) (ab_gto (by decide +kernel)) ?_
              exact ab_fin.lv ⟨(List.forall_mem_cons.mpr ⟨(List.Mem.tail _ (List.Mem.tail _ (List.Mem.head _))), (List.forall_mem_cons.mpr ⟨(List.Mem.tail _ (List.Mem.tail _ (List.Mem.tail _ (List.Mem.head _)))), (List.forall_mem_cons.mpr ⟨(List.Mem.tail _ (List.Mem.tail _ (List.Mem.tail _ (List.Mem.tail _ (List.Mem.head _))))), (List.forall_mem_cons.mpr ⟨(List.Mem.tail _ (List.Mem.tail _ (List.Mem.tail _ (List.Mem.tail _ (List.Mem.tail _ (List.Mem.head _)))))), (List.forall_mem_cons.mpr ⟨(List.Mem.tail _ (List.Mem.head _)), (List.forall_mem_cons.mpr ⟨(List.Mem.head _), (fun _ h => absurd h List.not_mem_nil)⟩)⟩)⟩)⟩)⟩)⟩), (show ([5, 4, 0, 1, 2, 3] : List Nat).Nodup from by decide)⟩ w
            · replace w := w.2 (Decidable.of_not_not q)
              refine ab_fin.s1i (i := .iconst 1) (k := 1) (pc' := 171) (n := 1) (by decide +kernel) rfl (by decide +kernel) rfl ?_
              refine ab_fin.s3 (i := .goto 4) (k := 3) (t := 175) (st' := [.int 1]) (by decide +kernel) (ab_gto (by decide +kernel)) ?_
              refine ab_fin.s2 (i := .istore 4) (k := 2) (pc' := 177) (lv' := [(4, .int 1), (0, .ref 0), (1, .ref l1), (2, .int l2), (3, .ref l3), (5, .int l5)]) (st' := []) (by decide +kernel) rfl rfl ?_
              refine ab_fin.q_inc (n := 5) (c := 1) (pc' := 180) (lv' := [(5, .int (l5 + 1)), (4, .int 1), (0, .ref 0), (1, .ref l1), (2, .int l2), (3, .ref l3)]) (by decide +kernel) (by decide) rfl rfl rfl rfl ?_
              refine ab_fin.s3 (i := .goto (-93)) (k := 3) (t := 87) (st' := []) (by decide +kernel) (ab_gto (by decide +kernel)) ?_
              exact ab_fin.lv ⟨(List.forall_mem_cons.mpr ⟨(List.Mem.tail _ (List.Mem.tail _ (List.Mem.head _))), (List.forall_mem_cons.mpr ⟨(List.Mem.tail _ (List.Mem.tail _ (List.Mem.tail _ (List.Mem.head _)))), (List.forall_mem_cons.mpr ⟨(List.Mem.tail _ (List.Mem.tail _ (List.Mem.tail _ (List.Mem.tail _ (List.Mem.head _))))), (List.forall_mem_cons.mpr ⟨(List.Mem.tail _ (List.Mem.tail _ (List.Mem.tail _ (List.Mem.tail _ (List.Mem.tail _ (List.Mem.head _)))))), (List.forall_mem_cons.mpr ⟨(List.Mem.tail _ (List.Mem.head _)), (List.forall_mem_cons.mpr ⟨(List.Mem.head _), (fun _ h => absurd h List.not_mem_nil)⟩)⟩)⟩)⟩)⟩)⟩), (show ([5, 4, 0, 1, 2, 3] : List Nat).Nodup from by decide)⟩ w
theorem S_X23_test_0 {Z : zT} {d : Nat} {σ : Sg}  {K : kS} (F : FX ΦR σ.sh σ.r) (w : B_X23_conjunction_0 Z d σ  (yW K fun v3 τ1 => B_X23_test_5 Z (d + 1) τ1 v3 K)) : B_X23_test_0 Z (d + 1) σ  K := by
  unfold B_X23_test_0
  refine ab_fin.s2 (i := .aload_n 0) (k := 1) (pc' := 1) (lv' := [(0, .ref 0)]) (st' := [.ref 0]) (by decide +kernel) rfl rfl ?_
  refine ab_fin.q_yW (i := .invokevirtual 396) (k := 3) (y := 5924) (As := [.ref 0]) (rest := []) (M' := (mX23_conjunction, [])) (lv2 := [(0, .ref 0)]) (pc' := 4) (X := K) (by decide +kernel) (ab_cv rfl rfl (conc_get (σ := σ) (F.s s0_0)) ⟨(Nat.le_of_ble_eq_true rfl), (Nat.le_of_ble_eq_true rfl)⟩ rfl) rfl (Nat.le_of_ble_eq_true rfl) rfl rfl (hY_no fun E => rfl) w (fun v3 τ1 F2 w => ?_)
  refine ab_fin.q_stA (i := .astore_n 1) (n := 1) (k := 1) (pc' := 5) (lv' := [(1, rv v3), (0, .ref 0)]) (Or.inl ⟨_, rfl, rfl, rfl⟩) (by decide +kernel) (by decide) (oR_rv _) rfl rfl ?_
  exact ab_fin.lv ⟨(List.forall_mem_cons.mpr ⟨(List.Mem.tail _ (List.Mem.head _)), (List.forall_mem_cons.mpr ⟨(List.Mem.head _), (fun _ h => absurd h List.not_mem_nil)⟩)⟩), (show ([1, 0] : List Nat).Nodup from by decide)⟩ w
theorem S_X23_test_5 {Z : zT} {d : Nat} {σ : Sg} {l1 : Rf} {K : kS} (F : FX ΦR σ.sh σ.r) (w : B_X23_skip_0 Z d σ (Rf.old 168) (yI K fun v3 τ1 => (v3 = 0 → K (.inl (some (rv l1))) τ1) ∧ (¬ v3 = 0 → B_X23_conjunction_0 Z d τ1  (yW K fun v6 τ4 => B_X23_two_0 Z d τ4 20 l1 v6 (yW K fun v9 τ7 => B_X23_test_5 Z (d + 1) τ7 v9 K))))) : B_X23_test_5 Z (d + 1) σ l1 K := by
  unfold B_X23_test_5
  refine ab_fin.s2 (i := .aload_n 0) (k := 1) (pc' := 6) (lv' := [(0, .ref 0), (1, rv l1)]) (st' := [.ref 0]) (by decide +kernel) rfl rfl ?_
  refine ab_fin.s8 (i := .ldc 161) (k := 2) (pc' := 8) (st' := [.retAddr 168, .ref 0]) (by decide +kernel) rfl rfl rfl rfl ?_
  refine ab_fin.q_yI (i := .invokevirtual 266) (k := 3) (y := 5908) (As := [.ref 0, .retAddr 168]) (rest := []) (M' := (mX23_skip, [])) (lv2 := [(0, .ref 0), (1, .retAddr 168)]) (pc' := 11) (X := K) (by decide +kernel) (ab_cv rfl rfl (conc_get (σ := σ) (F.s s0_0)) ⟨(Nat.le_of_ble_eq_true rfl), (Nat.le_of_ble_eq_true rfl)⟩ rfl) rfl (Nat.le_of_ble_eq_true rfl) rfl rfl (hY_no fun E => rfl) w (fun v3 τ1 F2 w => ?_)
  refine ab_fin.br (c := v3 = 0) (i := .ifCond .eq 18) (off := 18) (t := 29) (pc' := 14) (r := []) (by decide +kernel) rfl (by decide +kernel) rfl (fun q => ?_) (fun q => ?_)
  · replace w := w.1 q
    refine ab_fin.ald (i := .aload_n 1) (n := 1) (k := 1) (pc' := 30) (Or.inl ⟨_, rfl, rfl, rfl⟩) (by decide +kernel) rfl (oR_rv _) rfl ?_
    exact ab_fin.q_ret (i := .areturn) (k := 1) (v := some (rv l1)) (by decide +kernel) (ret_A (oR_rv _)) F2 w
  · replace w := w.2 q
    refine ab_fin.s2 (i := .aload_n 0) (k := 1) (pc' := 15) (lv' := [(0, .ref 0), (1, rv l1)]) (st' := [.ref 0]) (by decide +kernel) rfl rfl ?_
    refine ab_fin.s1i (i := .bipush 20) (k := 2) (pc' := 17) (n := 20) (by decide +kernel) rfl (by decide +kernel) rfl ?_
    refine ab_fin.ald (i := .aload_n 1) (n := 1) (k := 1) (pc' := 18) (Or.inl ⟨_, rfl, rfl, rfl⟩) (by decide +kernel) rfl (oR_rv _) rfl ?_
    refine ab_fin.s2 (i := .aload_n 0) (k := 1) (pc' := 19) (lv' := [(0, .ref 0), (1, rv l1)]) (st' := [.ref 0, rv l1, .int 20, .ref 0]) (by decide +kernel) rfl rfl ?_
    refine ab_fin.q_yW (i := .invokevirtual 396) (k := 3) (y := 5924) (As := [.ref 0]) (rest := [rv l1, .int 20, .ref 0]) (M' := (mX23_conjunction, [])) (lv2 := [(0, .ref 0)]) (pc' := 22) (X := K) (by decide +kernel) (ab_cv rfl rfl (conc_get (σ := τ1) (F2.s s0_0)) ⟨(Nat.le_of_ble_eq_true rfl), (by simp only [ab_cat, List.map_cons, List.map_nil, cI, cL, cR1, cN1, cX1, cA (oR_rv _)]; exact Nat.le_of_ble_eq_true rfl)⟩ rfl) rfl (Nat.le_of_ble_eq_true rfl) rfl rfl (hY_no fun E => rfl) w (fun v6 τ4 F5 w => ?_)
    refine ab_fin.q_yW (i := .invokevirtual 399) (k := 3) (y := 5923) (As := [.ref 0, .int 20, rv l1, rv v6]) (rest := []) (M' := (mX23_two, [])) (lv2 := [(0, .ref 0), (1, .int 20), (2, rv l1), (3, rv v6)]) (pc' := 25) (X := K) (by decide +kernel) (ab_cv rfl rfl (conc_get (σ := τ4) (F5.s s0_0)) ⟨(Nat.le_of_ble_eq_true rfl), (Nat.le_of_ble_eq_true rfl)⟩ rfl) rfl (by rw [lg_cnt]; simp only [List.map_cons, List.map_nil, cI, cL, cR1, cN1, cX1, cA (oR_rv _)]; exact Nat.le_of_ble_eq_true rfl) (by rw [lvA (v := .ref 0) rfl, lvI, lvA (oR_rv _), lvA (oR_rv _), lvN]) rfl (hY_no fun E => rfl) w (fun v9 τ7 F8 w => ?_)
    refine ab_fin.q_stA (i := .astore_n 1) (n := 1) (k := 1) (pc' := 26) (lv' := [(1, rv v9), (0, .ref 0)]) (Or.inl ⟨_, rfl, rfl, rfl⟩) (by decide +kernel) (by decide) (oR_rv _) rfl rfl ?_
    refine ab_fin.s3 (i := .goto (-21)) (k := 3) (t := 5) (st' := []) (by decide +kernel) (ab_gto (by decide +kernel)) ?_
    exact ab_fin.lv ⟨(List.forall_mem_cons.mpr ⟨(List.Mem.tail _ (List.Mem.head _)), (List.forall_mem_cons.mpr ⟨(List.Mem.head _), (fun _ h => absurd h List.not_mem_nil)⟩)⟩), (show ([1, 0] : List Nat).Nodup from by decide)⟩ w
theorem S_X23_two_0 {Z : zT} {d : Nat} {σ : Sg} {l1 : Int32} {l2 : Rf} {l3 : Rf} {K : kS} (F : FX ΦR σ.sh σ.r) (w : ∃ b1, (σ.r 0 34) = Rf.ptr b1 ∧ (sh0R[b1]? = some (Sh.obj 22) ∧ (B_X21_get_0 Z d σ b1 l1 (yW K fun v6 τ4 => ∃ b7, v6 = Rf.ptr b7 ∧ (τ4.sh[b7]? = some (Sh.obj 21) ∧ (K (.inl (some (.ref b7))) ((τ4.wr b7 5 l2).wr b7 6 l3))))))) : B_X23_two_0 Z (d + 1) σ l1 l2 l3 K := by
  unfold B_X23_two_0
  refine ab_fin.s2 (i := .aload_n 0) (k := 1) (pc' := 1) (lv' := [(0, .ref 0), (1, .int l1), (2, rv l2), (3, rv l3)]) (st' := [.ref 0]) (by decide +kernel) rfl rfl ?_
  obtain ⟨b1, e2, w⟩ := w
  refine ab_fin.q_rA (b := b1) (ix := 353) (ci := 24) (k := 34) (pc' := 4) (by decide +kernel) rfl (c_rA (F.s s0_0) rfl e2) rfl ?_
  refine ab_fin.s2 (i := .iload_n 1) (k := 1) (pc' := 5) (lv' := [(0, .ref 0), (1, .int l1), (2, rv l2), (3, rv l3)]) (st' := [.int l1, .ref b1]) (by decide +kernel) rfl rfl ?_
  obtain ⟨e3, w⟩ := w
  refine ab_fin.q_yW (i := .invokevirtual 403) (k := 3) (y := 5377) (As := [.ref b1, .int l1]) (rest := []) (M' := (mX21_get, [])) (lv2 := [(0, .ref b1), (1, .int l1)]) (pc' := 8) (X := K) (by decide +kernel) (ab_cv rfl rfl (conc_get (σ := σ) (F.s e3)) ⟨(Nat.le_of_ble_eq_true rfl), (Nat.le_of_ble_eq_true rfl)⟩ rfl) rfl (Nat.le_of_ble_eq_true rfl) rfl rfl (hY_no fun E => rfl) w (fun v6 τ4 F5 w => ?_)
  refine ab_fin.q_stA (i := .astore 4) (n := 4) (k := 2) (pc' := 10) (lv' := [(4, rv v6), (0, .ref 0), (1, .int l1), (2, rv l2), (3, rv l3)]) (Or.inr ⟨rfl, rfl⟩) (by decide +kernel) (by decide) (oR_rv _) (by simp only [ab_st1, List.filter_cons, List.filter_nil, cA (oR_rv _)]; rfl) rfl ?_
  refine ab_fin.ald (i := .aload 4) (n := 4) (k := 2) (pc' := 12) (Or.inr ⟨rfl, rfl⟩) (by decide +kernel) rfl (oR_rv _) rfl ?_
  refine ab_fin.ald (i := .aload_n 2) (n := 2) (k := 1) (pc' := 13) (Or.inl ⟨_, rfl, rfl, rfl⟩) (by decide +kernel) rfl (oR_rv _) rfl ?_
  obtain ⟨b7, e8, w⟩ := w
  rw [show rv v6 = .ref b7 from by rw [e8]; rfl]
  obtain ⟨e9, w⟩ := w
  have F10 := FX.w (Φ := ΦR) (a := b7) (k := 5) (v := l2) F5 (cD F5 e9 rfl)
  refine ab_fin.q_pF (ix := 409) (ci := 21) (k := 5) (h1 := conc (τ4.wr b7 5 l2)) (pc' := 16) (by decide +kernel) rfl (c_pR (v := l2) e9 rfl) nRv_n nRv_f rfl ?_
  refine ab_fin.s2 (i := .aload 4) (k := 2) (pc' := 18) (lv' := [(4, .ref b7), (0, .ref 0), (1, .int l1), (2, rv l2), (3, rv l3)]) (st' := [.ref b7]) (by decide +kernel) rfl rfl ?_
  refine ab_fin.ald (i := .aload_n 3) (n := 3) (k := 1) (pc' := 19) (Or.inl ⟨_, rfl, rfl, rfl⟩) (by decide +kernel) rfl (oR_rv _) rfl ?_
  have F11 := FX.w (Φ := ΦR) (a := b7) (k := 6) (v := l3) F10 (cD F10 e9 rfl)
  refine ab_fin.q_pF (ix := 414) (ci := 21) (k := 6) (h1 := conc ((τ4.wr b7 5 l2).wr b7 6 l3)) (pc' := 22) (by decide +kernel) rfl (c_pR (v := l3) e9 rfl) nRv_n nRv_f rfl ?_
  refine ab_fin.s2 (i := .aload 4) (k := 2) (pc' := 24) (lv' := [(4, .ref b7), (0, .ref 0), (1, .int l1), (2, rv l2), (3, rv l3)]) (st' := [.ref b7]) (by decide +kernel) rfl rfl ?_
  exact ab_fin.q_ret (i := .areturn) (k := 1) (v := some (.ref b7)) (by decide +kernel) rfl F11 w
theorem S_X23_conjunction_0 {Z : zT} {d : Nat} {σ : Sg}  {K : kS} (F : FX ΦR σ.sh σ.r) (w : B_X23_single_0 Z d σ  (yW K fun v3 τ1 => B_X23_conjunction_5 Z (d + 1) τ1 v3 K)) : B_X23_conjunction_0 Z (d + 1) σ  K := by
  unfold B_X23_conjunction_0
  refine ab_fin.s2 (i := .aload_n 0) (k := 1) (pc' := 1) (lv' := [(0, .ref 0)]) (st' := [.ref 0]) (by decide +kernel) rfl rfl ?_
  refine ab_fin.q_yW (i := .invokevirtual 417) (k := 3) (y := 5926) (As := [.ref 0]) (rest := []) (M' := (mX23_single, [])) (lv2 := [(0, .ref 0)]) (pc' := 4) (X := K) (by decide +kernel) (ab_cv rfl rfl (conc_get (σ := σ) (F.s s0_0)) ⟨(Nat.le_of_ble_eq_true rfl), (Nat.le_of_ble_eq_true rfl)⟩ rfl) rfl (Nat.le_of_ble_eq_true rfl) rfl rfl (hY_no fun E => rfl) w (fun v3 τ1 F2 w => ?_)
  refine ab_fin.q_stA (i := .astore_n 1) (n := 1) (k := 1) (pc' := 5) (lv' := [(1, rv v3), (0, .ref 0)]) (Or.inl ⟨_, rfl, rfl, rfl⟩) (by decide +kernel) (by decide) (oR_rv _) rfl rfl ?_
  exact ab_fin.lv ⟨(List.forall_mem_cons.mpr ⟨(List.Mem.tail _ (List.Mem.head _)), (List.forall_mem_cons.mpr ⟨(List.Mem.head _), (fun _ h => absurd h List.not_mem_nil)⟩)⟩), (show ([1, 0] : List Nat).Nodup from by decide)⟩ w
theorem S_X23_conjunction_5 {Z : zT} {d : Nat} {σ : Sg} {l1 : Rf} {K : kS} (F : FX ΦR σ.sh σ.r) (w : B_X23_skip_0 Z d σ (Rf.old 120) (yI K fun v3 τ1 => (v3 = 0 → K (.inl (some (rv l1))) τ1) ∧ (¬ v3 = 0 → B_X23_single_0 Z d τ1  (yW K fun v6 τ4 => B_X23_two_0 Z d τ4 21 l1 v6 (yW K fun v9 τ7 => B_X23_conjunction_5 Z (d + 1) τ7 v9 K))))) : B_X23_conjunction_5 Z (d + 1) σ l1 K := by
  unfold B_X23_conjunction_5
  refine ab_fin.s2 (i := .aload_n 0) (k := 1) (pc' := 6) (lv' := [(0, .ref 0), (1, rv l1)]) (st' := [.ref 0]) (by decide +kernel) rfl rfl ?_
  refine ab_fin.s8 (i := .ldc 114) (k := 2) (pc' := 8) (st' := [.retAddr 120, .ref 0]) (by decide +kernel) rfl rfl rfl rfl ?_
  refine ab_fin.q_yI (i := .invokevirtual 266) (k := 3) (y := 5908) (As := [.ref 0, .retAddr 120]) (rest := []) (M' := (mX23_skip, [])) (lv2 := [(0, .ref 0), (1, .retAddr 120)]) (pc' := 11) (X := K) (by decide +kernel) (ab_cv rfl rfl (conc_get (σ := σ) (F.s s0_0)) ⟨(Nat.le_of_ble_eq_true rfl), (Nat.le_of_ble_eq_true rfl)⟩ rfl) rfl (Nat.le_of_ble_eq_true rfl) rfl rfl (hY_no fun E => rfl) w (fun v3 τ1 F2 w => ?_)
  refine ab_fin.br (c := v3 = 0) (i := .ifCond .eq 18) (off := 18) (t := 29) (pc' := 14) (r := []) (by decide +kernel) rfl (by decide +kernel) rfl (fun q => ?_) (fun q => ?_)
  · replace w := w.1 q
    refine ab_fin.ald (i := .aload_n 1) (n := 1) (k := 1) (pc' := 30) (Or.inl ⟨_, rfl, rfl, rfl⟩) (by decide +kernel) rfl (oR_rv _) rfl ?_
    exact ab_fin.q_ret (i := .areturn) (k := 1) (v := some (rv l1)) (by decide +kernel) (ret_A (oR_rv _)) F2 w
  · replace w := w.2 q
    refine ab_fin.s2 (i := .aload_n 0) (k := 1) (pc' := 15) (lv' := [(0, .ref 0), (1, rv l1)]) (st' := [.ref 0]) (by decide +kernel) rfl rfl ?_
    refine ab_fin.s1i (i := .bipush 21) (k := 2) (pc' := 17) (n := 21) (by decide +kernel) rfl (by decide +kernel) rfl ?_
    refine ab_fin.ald (i := .aload_n 1) (n := 1) (k := 1) (pc' := 18) (Or.inl ⟨_, rfl, rfl, rfl⟩) (by decide +kernel) rfl (oR_rv _) rfl ?_
    refine ab_fin.s2 (i := .aload_n 0) (k := 1) (pc' := 19) (lv' := [(0, .ref 0), (1, rv l1)]) (st' := [.ref 0, rv l1, .int 21, .ref 0]) (by decide +kernel) rfl rfl ?_
    refine ab_fin.q_yW (i := .invokevirtual 417) (k := 3) (y := 5926) (As := [.ref 0]) (rest := [rv l1, .int 21, .ref 0]) (M' := (mX23_single, [])) (lv2 := [(0, .ref 0)]) (pc' := 22) (X := K) (by decide +kernel) (ab_cv rfl rfl (conc_get (σ := τ1) (F2.s s0_0)) ⟨(Nat.le_of_ble_eq_true rfl), (by simp only [ab_cat, List.map_cons, List.map_nil, cI, cL, cR1, cN1, cX1, cA (oR_rv _)]; exact Nat.le_of_ble_eq_true rfl)⟩ rfl) rfl (Nat.le_of_ble_eq_true rfl) rfl rfl (hY_no fun E => rfl) w (fun v6 τ4 F5 w => ?_)
    refine ab_fin.q_yW (i := .invokevirtual 399) (k := 3) (y := 5923) (As := [.ref 0, .int 21, rv l1, rv v6]) (rest := []) (M' := (mX23_two, [])) (lv2 := [(0, .ref 0), (1, .int 21), (2, rv l1), (3, rv v6)]) (pc' := 25) (X := K) (by decide +kernel) (ab_cv rfl rfl (conc_get (σ := τ4) (F5.s s0_0)) ⟨(Nat.le_of_ble_eq_true rfl), (Nat.le_of_ble_eq_true rfl)⟩ rfl) rfl (by rw [lg_cnt]; simp only [List.map_cons, List.map_nil, cI, cL, cR1, cN1, cX1, cA (oR_rv _)]; exact Nat.le_of_ble_eq_true rfl) (by rw [lvA (v := .ref 0) rfl, lvI, lvA (oR_rv _), lvA (oR_rv _), lvN]) rfl (hY_no fun E => rfl) w (fun v9 τ7 F8 w => ?_)
    refine ab_fin.q_stA (i := .astore_n 1) (n := 1) (k := 1) (pc' := 26) (lv' := [(1, rv v9), (0, .ref 0)]) (Or.inl ⟨_, rfl, rfl, rfl⟩) (by decide +kernel) (by decide) (oR_rv _) rfl rfl ?_
    refine ab_fin.s3 (i := .goto (-21)) (k := 3) (t := 5) (st' := []) (by decide +kernel) (ab_gto (by decide +kernel)) ?_
    exact ab_fin.lv ⟨(List.forall_mem_cons.mpr ⟨(List.Mem.tail _ (List.Mem.head _)), (List.forall_mem_cons.mpr ⟨(List.Mem.head _), (fun _ h => absurd h List.not_mem_nil)⟩)⟩), (show ([1, 0] : List Nat).Nodup from by decide)⟩ w
theorem S_X23_spec_0 {Z : zT} {d : Nat} {σ : Sg} {l1 : Int32} {l2 : Int32} {K : kS} (F : FX ΦR σ.sh σ.r) (w : B_X23_spec_7 Z (d + 1) σ l1 l2 ((σ.i 0 32) - (1 : Int32)) K) : B_X23_spec_0 Z (d + 1) σ l1 l2 K := by
  unfold B_X23_spec_0
  refine ab_fin.s2 (i := .aload_n 0) (k := 1) (pc' := 1) (lv' := [(0, .ref 0), (1, .int l1), (2, .int l2)]) (st' := [.ref 0]) (by decide +kernel) rfl rfl ?_
  refine ab_fin.q_rI (x := (σ.i 0 32)) (ix := 339) (ci := 24) (k := 32) (pc' := 4) (by decide +kernel) rfl (c_rI (F.s s0_0) rfl) rfl ?_
  refine ab_fin.s1i (i := .iconst 1) (k := 1) (pc' := 5) (n := 1) (by decide +kernel) rfl (by decide +kernel) rfl ?_
  refine ab_fin.s1 (i := .isub) (k := 1) (pc' := 6) (st' := [.int ((σ.i 0 32) - (1 : Int32))]) (by decide +kernel) rfl rfl ?_
  refine ab_fin.s2 (i := .istore_n 3) (k := 1) (pc' := 7) (lv' := [(3, .int ((σ.i 0 32) - (1 : Int32))), (0, .ref 0), (1, .int l1), (2, .int l2)]) (st' := []) (by decide +kernel) rfl rfl ?_
  exact ab_fin.lv ⟨(List.forall_mem_cons.mpr ⟨(List.Mem.tail _ (List.Mem.head _)), (List.forall_mem_cons.mpr ⟨(List.Mem.tail _ (List.Mem.tail _ (List.Mem.head _))), (List.forall_mem_cons.mpr ⟨(List.Mem.tail _ (List.Mem.tail _ (List.Mem.tail _ (List.Mem.head _)))), (List.forall_mem_cons.mpr ⟨(List.Mem.head _), (fun _ h => absurd h List.not_mem_nil)⟩)⟩)⟩)⟩), (show ([3, 0, 1, 2] : List Nat).Nodup from by decide)⟩ w
theorem S_X23_spec_7 {Z : zT} {d : Nat} {σ : Sg} {l1 : Int32} {l2 : Int32} {l3 : Int32} {K : kS} (F : FX ΦR σ.sh σ.r) (w : (l3 < 0 → B_X23_breaks_0 Z d σ 3 l2 (yN K fun τ1 => K (.inl (some (.int 0))) τ1)) ∧ (¬ l3 < 0 → ib l3 64 ∧ (B_X23_isSame_0 Z d σ (σ.i 54 l3.toNatClampNeg) l1 (yI K fun v6 τ4 => (v6 = 0 → B_X23_spec_7 Z (d + 1) τ4 l1 l2 (l3 + (-1)) K) ∧ (¬ v6 = 0 → K (.inl (some (.int l3))) τ4))))) : B_X23_spec_7 Z (d + 1) σ l1 l2 l3 K := by
  unfold B_X23_spec_7
  refine ab_fin.s2 (i := .iload_n 3) (k := 1) (pc' := 8) (lv' := [(0, .ref 0), (1, .int l1), (2, .int l2), (3, .int l3)]) (st' := [.int l3]) (by decide +kernel) rfl rfl ?_
  refine ab_fin.br (c := l3 < 0) (i := .ifCond .lt 25) (off := 25) (t := 33) (pc' := 11) (r := []) (by decide +kernel) rfl (by decide +kernel) rfl (fun q => ?_) (fun q => ?_)
  · replace w := w.1 q
    refine ab_fin.s2 (i := .aload_n 0) (k := 1) (pc' := 34) (lv' := [(0, .ref 0), (1, .int l1), (2, .int l2), (3, .int l3)]) (st' := [.ref 0]) (by decide +kernel) rfl rfl ?_
    refine ab_fin.s1i (i := .iconst 3) (k := 1) (pc' := 35) (n := 3) (by decide +kernel) rfl (by decide +kernel) rfl ?_
    refine ab_fin.s2 (i := .iload_n 2) (k := 1) (pc' := 36) (lv' := [(0, .ref 0), (1, .int l1), (2, .int l2), (3, .int l3)]) (st' := [.int l2, .int 3, .ref 0]) (by decide +kernel) rfl rfl ?_
    refine ab_fin.q_yN (i := .invokevirtual 259) (k := 3) (y := 5910) (As := [.ref 0, .int 3, .int l2]) (rest := []) (M' := (mX23_breaks, [])) (lv2 := [(0, .ref 0), (1, .int 3), (2, .int l2)]) (pc' := 39) (X := K) (by decide +kernel) (ab_cv rfl rfl (conc_get (σ := σ) (F.s s0_0)) ⟨(Nat.le_of_ble_eq_true rfl), (Nat.le_of_ble_eq_true rfl)⟩ rfl) rfl (Nat.le_of_ble_eq_true rfl) rfl rfl (hY_no fun E => rfl) w (fun τ1 F2 w => ?_)
    refine ab_fin.s1i (i := .iconst 0) (k := 1) (pc' := 40) (n := 0) (by decide +kernel) rfl (by decide +kernel) rfl ?_
    exact ab_fin.q_ret (i := .ireturn) (k := 1) (v := some (.int 0)) (by decide +kernel) rfl F2 w
  · replace w := w.2 q
    refine ab_fin.s2 (i := .aload_n 0) (k := 1) (pc' := 12) (lv' := [(0, .ref 0), (1, .int l1), (2, .int l2), (3, .int l3)]) (st' := [.ref 0]) (by decide +kernel) rfl rfl ?_
    refine ab_fin.s2 (i := .aload_n 0) (k := 1) (pc' := 13) (lv' := [(0, .ref 0), (1, .int l1), (2, .int l2), (3, .int l3)]) (st' := [.ref 0, .ref 0]) (by decide +kernel) rfl rfl ?_
    refine ab_fin.q_rA (b := 54) (ix := 382) (ci := 24) (k := 31) (pc' := 16) (by decide +kernel) rfl (c_rA (F.s s0_0) rfl (rM_31 F)) rfl ?_
    refine ab_fin.s2 (i := .iload_n 3) (k := 1) (pc' := 17) (lv' := [(0, .ref 0), (1, .int l1), (2, .int l2), (3, .int l3)]) (st' := [.int l3, .ref 54, .ref 0]) (by decide +kernel) rfl rfl ?_
    obtain ⟨e3, w⟩ := w
    refine ab_fin.q_eI (x := (σ.i 54 l3.toNatClampNeg)) (pc' := 18) (by decide +kernel) (c_eI' (F.s s0_54) e3 rfl) rfl ?_
    refine ab_fin.s2 (i := .iload_n 1) (k := 1) (pc' := 19) (lv' := [(0, .ref 0), (1, .int l1), (2, .int l2), (3, .int l3)]) (st' := [.int l1, .int (σ.i 54 l3.toNatClampNeg), .ref 0]) (by decide +kernel) rfl rfl ?_
    refine ab_fin.q_yI (i := .invokevirtual 385) (k := 3) (y := 5889) (As := [.ref 0, .int (σ.i 54 l3.toNatClampNeg), .int l1]) (rest := []) (M' := (mX23_isSame, [])) (lv2 := [(0, .ref 0), (1, .int (σ.i 54 l3.toNatClampNeg)), (2, .int l1)]) (pc' := 22) (X := K) (by decide +kernel) (ab_cv rfl rfl (conc_get (σ := σ) (F.s s0_0)) ⟨(Nat.le_of_ble_eq_true rfl), (Nat.le_of_ble_eq_true rfl)⟩ rfl) rfl (Nat.le_of_ble_eq_true rfl) rfl rfl (hY_no fun E => rfl) w (fun v6 τ4 F5 w => ?_)
    refine ab_fin.br (c := v6 = 0) (i := .ifCond .eq 5) (off := 5) (t := 27) (pc' := 25) (r := []) (by decide +kernel) rfl (by decide +kernel) rfl (fun q => ?_) (fun q => ?_)
    · replace w := w.1 q
      refine ab_fin.q_inc (n := 3) (c := (-1)) (pc' := 30) (lv' := [(3, .int (l3 + (-1))), (0, .ref 0), (1, .int l1), (2, .int l2)]) (by decide +kernel) (by decide) rfl rfl rfl rfl ?_
      refine ab_fin.s3 (i := .goto (-23)) (k := 3) (t := 7) (st' := []) (by decide +kernel) (ab_gto (by decide +kernel)) ?_
      exact ab_fin.lv ⟨(List.forall_mem_cons.mpr ⟨(List.Mem.tail _ (List.Mem.head _)), (List.forall_mem_cons.mpr ⟨(List.Mem.tail _ (List.Mem.tail _ (List.Mem.head _))), (List.forall_mem_cons.mpr ⟨(List.Mem.tail _ (List.Mem.tail _ (List.Mem.tail _ (List.Mem.head _)))), (List.forall_mem_cons.mpr ⟨(List.Mem.head _), (fun _ h => absurd h List.not_mem_nil)⟩)⟩)⟩)⟩), (show ([3, 0, 1, 2] : List Nat).Nodup from by decide)⟩ w
    · replace w := w.2 q
      refine ab_fin.s2 (i := .iload_n 3) (k := 1) (pc' := 26) (lv' := [(0, .ref 0), (1, .int l1), (2, .int l2), (3, .int l3)]) (st' := [.int l3]) (by decide +kernel) rfl rfl ?_
      exact ab_fin.q_ret (i := .ireturn) (k := 1) (v := some (.int l3)) (by decide +kernel) rfl F5 w
theorem S_X23_single_0 {Z : zT} {d : Nat} {σ : Sg}  {K : kS} (F : FX ΦR σ.sh σ.r) (w : B_X23_into_0 Z d σ  (yN K fun τ1 => B_X23_skip_0 Z d τ1 (Rf.old 162) (yI K fun v5 τ3 => (v5 = 0 → B_X23_is_0 Z d τ3 40 (yI K fun v8 τ6 => (v8 = 0 → B_X23_comparison_0 Z d τ6  (yW K fun v11 τ9 => K (.inl (some (rv v11))) (τ9.wi 0 20 ((τ9.i 0 20) - (1 : Int32))))) ∧ (¬ v8 = 0 → B_X23_next_0 Z d τ6  (yN K fun τ12 => B_X23_test_0 Z d τ12  (yW K fun v16 τ14 => B_X23_want_0 Z d τ14 41 (yN K fun τ17 => K (.inl (some (rv v16))) (τ17.wi 0 20 ((τ17.i 0 20) - (1 : Int32))))))))) ∧ (¬ v5 = 0 → ∃ b19, (τ3.r 0 34) = Rf.ptr b19 ∧ (sh0R[b19]? = some (Sh.obj 22) ∧ (B_X21_get_0 Z d τ3 b19 22 (yW K fun v24 τ22 => B_X23_single_0 Z d τ22  (yW K fun v27 τ25 => ∃ b28, v24 = Rf.ptr b28 ∧ (τ25.sh[b28]? = some (Sh.obj 21) ∧ (K (.inl (some (.ref b28))) ((τ25.wr b28 5 v27).wi 0 20 ((τ25.i 0 20) - (1 : Int32))))))))))))) : B_X23_single_0 Z (d + 1) σ  K := by
  unfold B_X23_single_0
  refine ab_fin.s2 (i := .aload_n 0) (k := 1) (pc' := 1) (lv' := [(0, .ref 0)]) (st' := [.ref 0]) (by decide +kernel) rfl rfl ?_
  refine ab_fin.q_yN (i := .invokevirtual 420) (k := 3) (y := 5911) (As := [.ref 0]) (rest := []) (M' := (mX23_into, [])) (lv2 := [(0, .ref 0)]) (pc' := 4) (X := K) (by decide +kernel) (ab_cv rfl rfl (conc_get (σ := σ) (F.s s0_0)) ⟨(Nat.le_of_ble_eq_true rfl), (Nat.le_of_ble_eq_true rfl)⟩ rfl) rfl (Nat.le_of_ble_eq_true rfl) rfl rfl (hY_no fun E => rfl) w (fun τ1 F2 w => ?_)
  refine ab_fin.s2 (i := .aload_n 0) (k := 1) (pc' := 5) (lv' := [(0, .ref 0)]) (st' := [.ref 0]) (by decide +kernel) rfl rfl ?_
  refine ab_fin.s8 (i := .ldc 155) (k := 2) (pc' := 7) (st' := [.retAddr 162, .ref 0]) (by decide +kernel) rfl rfl rfl rfl ?_
  refine ab_fin.q_yI (i := .invokevirtual 266) (k := 3) (y := 5908) (As := [.ref 0, .retAddr 162]) (rest := []) (M' := (mX23_skip, [])) (lv2 := [(0, .ref 0), (1, .retAddr 162)]) (pc' := 10) (X := K) (by decide +kernel) (ab_cv rfl rfl (conc_get (σ := τ1) (F2.s s0_0)) ⟨(Nat.le_of_ble_eq_true rfl), (Nat.le_of_ble_eq_true rfl)⟩ rfl) rfl (Nat.le_of_ble_eq_true rfl) rfl rfl (hY_no fun E => rfl) w (fun v5 τ3 F4 w => ?_)
  refine ab_fin.br (c := v5 = 0) (i := .ifCond .eq 24) (off := 24) (t := 34) (pc' := 13) (r := []) (by decide +kernel) rfl (by decide +kernel) rfl (fun q => ?_) (fun q => ?_)
  · replace w := w.1 q
    refine ab_fin.s2 (i := .aload_n 0) (k := 1) (pc' := 35) (lv' := [(0, .ref 0)]) (st' := [.ref 0]) (by decide +kernel) rfl rfl ?_
    refine ab_fin.s1i (i := .bipush 40) (k := 2) (pc' := 37) (n := 40) (by decide +kernel) rfl (by decide +kernel) rfl ?_
    refine ab_fin.q_yI (i := .invokevirtual 233) (k := 3) (y := 5904) (As := [.ref 0, .int 40]) (rest := []) (M' := (mX23_is, [])) (lv2 := [(0, .ref 0), (1, .int 40)]) (pc' := 40) (X := K) (by decide +kernel) (ab_cv rfl rfl (conc_get (σ := τ3) (F4.s s0_0)) ⟨(Nat.le_of_ble_eq_true rfl), (Nat.le_of_ble_eq_true rfl)⟩ rfl) rfl (Nat.le_of_ble_eq_true rfl) rfl rfl (hY_no fun E => rfl) w (fun v8 τ6 F7 w => ?_)
    refine ab_fin.br (c := v8 = 0) (i := .ifCond .eq 21) (off := 21) (t := 61) (pc' := 43) (r := []) (by decide +kernel) rfl (by decide +kernel) rfl (fun q => ?_) (fun q => ?_)
    · replace w := w.1 q
      refine ab_fin.s2 (i := .aload_n 0) (k := 1) (pc' := 62) (lv' := [(0, .ref 0)]) (st' := [.ref 0]) (by decide +kernel) rfl rfl ?_
      refine ab_fin.q_yW (i := .invokevirtual 423) (k := 3) (y := 5927) (As := [.ref 0]) (rest := []) (M' := (mX23_comparison, [])) (lv2 := [(0, .ref 0)]) (pc' := 65) (X := K) (by decide +kernel) (ab_cv rfl rfl (conc_get (σ := τ6) (F7.s s0_0)) ⟨(Nat.le_of_ble_eq_true rfl), (Nat.le_of_ble_eq_true rfl)⟩ rfl) rfl (Nat.le_of_ble_eq_true rfl) rfl rfl (hY_no fun E => rfl) w (fun v11 τ9 F10 w => ?_)
      refine ab_fin.q_stA (i := .astore_n 1) (n := 1) (k := 1) (pc' := 66) (lv' := [(1, rv v11), (0, .ref 0)]) (Or.inl ⟨_, rfl, rfl, rfl⟩) (by decide +kernel) (by decide) (oR_rv _) rfl rfl ?_
      refine ab_fin.s2 (i := .aload_n 0) (k := 1) (pc' := 67) (lv' := [(1, rv v11), (0, .ref 0)]) (st' := [.ref 0]) (by decide +kernel) rfl rfl ?_
      refine ab_fin.s1 (i := .dup) (k := 1) (pc' := 68) (st' := [.ref 0, .ref 0]) (by decide +kernel) rfl rfl ?_
      refine ab_fin.q_rI (x := (τ9.i 0 20)) (ix := 253) (ci := 24) (k := 20) (pc' := 71) (by decide +kernel) rfl (c_rI (F10.s s0_0) rfl) rfl ?_
      refine ab_fin.s1i (i := .iconst 1) (k := 1) (pc' := 72) (n := 1) (by decide +kernel) rfl (by decide +kernel) rfl ?_
      refine ab_fin.s1 (i := .isub) (k := 1) (pc' := 73) (st' := [.int ((τ9.i 0 20) - (1 : Int32)), .ref 0]) (by decide +kernel) rfl rfl ?_
      refine ab_fin.q_pF (ix := 253) (ci := 24) (k := 20) (h1 := conc (τ9.wi 0 20 ((τ9.i 0 20) - (1 : Int32)))) (pc' := 76) (by decide +kernel) rfl (c_pI (v := ((τ9.i 0 20) - (1 : Int32))) (F10.s s0_0) rfl) rfl rfl rfl ?_
      refine ab_fin.ald (i := .aload_n 1) (n := 1) (k := 1) (pc' := 77) (Or.inl ⟨_, rfl, rfl, rfl⟩) (by decide +kernel) rfl (oR_rv _) rfl ?_
      exact ab_fin.q_ret (i := .areturn) (k := 1) (v := some (rv v11)) (by decide +kernel) (ret_A (oR_rv _)) F10 w
    · replace w := w.2 q
      refine ab_fin.s2 (i := .aload_n 0) (k := 1) (pc' := 44) (lv' := [(0, .ref 0)]) (st' := [.ref 0]) (by decide +kernel) rfl rfl ?_
      refine ab_fin.q_yN (i := .invokevirtual 239) (k := 3) (y := 5902) (As := [.ref 0]) (rest := []) (M' := (mX23_next, [])) (lv2 := [(0, .ref 0)]) (pc' := 47) (X := K) (by decide +kernel) (ab_cv rfl rfl (conc_get (σ := τ6) (F7.s s0_0)) ⟨(Nat.le_of_ble_eq_true rfl), (Nat.le_of_ble_eq_true rfl)⟩ rfl) rfl (Nat.le_of_ble_eq_true rfl) rfl rfl (hY_no fun E => rfl) w (fun τ12 F13 w => ?_)
      refine ab_fin.s2 (i := .aload_n 0) (k := 1) (pc' := 48) (lv' := [(0, .ref 0)]) (st' := [.ref 0]) (by decide +kernel) rfl rfl ?_
      refine ab_fin.q_yW (i := .invokevirtual 359) (k := 3) (y := 5922) (As := [.ref 0]) (rest := []) (M' := (mX23_test, [])) (lv2 := [(0, .ref 0)]) (pc' := 51) (X := K) (by decide +kernel) (ab_cv rfl rfl (conc_get (σ := τ12) (F13.s s0_0)) ⟨(Nat.le_of_ble_eq_true rfl), (Nat.le_of_ble_eq_true rfl)⟩ rfl) rfl (Nat.le_of_ble_eq_true rfl) rfl rfl (hY_no fun E => rfl) w (fun v16 τ14 F15 w => ?_)
      refine ab_fin.q_stA (i := .astore_n 1) (n := 1) (k := 1) (pc' := 52) (lv' := [(1, rv v16), (0, .ref 0)]) (Or.inl ⟨_, rfl, rfl, rfl⟩) (by decide +kernel) (by decide) (oR_rv _) rfl rfl ?_
      refine ab_fin.s2 (i := .aload_n 0) (k := 1) (pc' := 53) (lv' := [(1, rv v16), (0, .ref 0)]) (st' := [.ref 0]) (by decide +kernel) rfl rfl ?_
      refine ab_fin.s1i (i := .bipush 41) (k := 2) (pc' := 55) (n := 41) (by decide +kernel) rfl (by decide +kernel) rfl ?_
      refine ab_fin.q_yN (i := .invokevirtual 293) (k := 3) (y := 5906) (As := [.ref 0, .int 41]) (rest := []) (M' := (mX23_want, [])) (lv2 := [(0, .ref 0), (1, .int 41)]) (pc' := 58) (X := K) (by decide +kernel) (ab_cv rfl rfl (conc_get (σ := τ14) (F15.s s0_0)) ⟨(Nat.le_of_ble_eq_true rfl), (Nat.le_of_ble_eq_true rfl)⟩ rfl) rfl (Nat.le_of_ble_eq_true rfl) rfl rfl (hY_no fun E => rfl) w (fun τ17 F18 w => ?_)
      refine ab_fin.s3 (i := .goto 8) (k := 3) (t := 66) (st' := []) (by decide +kernel) (ab_gto (by decide +kernel)) ?_
      refine ab_fin.s2 (i := .aload_n 0) (k := 1) (pc' := 67) (lv' := [(1, rv v16), (0, .ref 0)]) (st' := [.ref 0]) (by decide +kernel) rfl rfl ?_
      refine ab_fin.s1 (i := .dup) (k := 1) (pc' := 68) (st' := [.ref 0, .ref 0]) (by decide +kernel) rfl rfl ?_
      refine ab_fin.q_rI (x := (τ17.i 0 20)) (ix := 253) (ci := 24) (k := 20) (pc' := 71) (by decide +kernel) rfl (c_rI (F18.s s0_0) rfl) rfl ?_
      refine ab_fin.s1i (i := .iconst 1) (k := 1) (pc' := 72) (n := 1) (by decide +kernel) rfl (by decide +kernel) rfl ?_
      refine ab_fin.s1 (i := .isub) (k := 1) (pc' := 73) (st' := [.int ((τ17.i 0 20) - (1 : Int32)), .ref 0]) (by decide +kernel) rfl rfl ?_
      refine ab_fin.q_pF (ix := 253) (ci := 24) (k := 20) (h1 := conc (τ17.wi 0 20 ((τ17.i 0 20) - (1 : Int32)))) (pc' := 76) (by decide +kernel) rfl (c_pI (v := ((τ17.i 0 20) - (1 : Int32))) (F18.s s0_0) rfl) rfl rfl rfl ?_
      refine ab_fin.ald (i := .aload_n 1) (n := 1) (k := 1) (pc' := 77) (Or.inl ⟨_, rfl, rfl, rfl⟩) (by decide +kernel) rfl (oR_rv _) rfl ?_
      exact ab_fin.q_ret (i := .areturn) (k := 1) (v := some (rv v16)) (by decide +kernel) (ret_A (oR_rv _)) F18 w
  · replace w := w.2 q
    refine ab_fin.s2 (i := .aload_n 0) (k := 1) (pc' := 14) (lv' := [(0, .ref 0)]) (st' := [.ref 0]) (by decide +kernel) rfl rfl ?_
    obtain ⟨b19, e20, w⟩ := w
    refine ab_fin.q_rA (b := b19) (ix := 353) (ci := 24) (k := 34) (pc' := 17) (by decide +kernel) rfl (c_rA (F4.s s0_0) rfl e20) rfl ?_
    refine ab_fin.s1i (i := .bipush 22) (k := 2) (pc' := 19) (n := 22) (by decide +kernel) rfl (by decide +kernel) rfl ?_
    obtain ⟨e21, w⟩ := w
    refine ab_fin.q_yW (i := .invokevirtual 403) (k := 3) (y := 5377) (As := [.ref b19, .int 22]) (rest := []) (M' := (mX21_get, [])) (lv2 := [(0, .ref b19), (1, .int 22)]) (pc' := 22) (X := K) (by decide +kernel) (ab_cv rfl rfl (conc_get (σ := τ3) (F4.s e21)) ⟨(Nat.le_of_ble_eq_true rfl), (Nat.le_of_ble_eq_true rfl)⟩ rfl) rfl (Nat.le_of_ble_eq_true rfl) rfl rfl (hY_no fun E => rfl) w (fun v24 τ22 F23 w => ?_)
    refine ab_fin.q_stA (i := .astore_n 1) (n := 1) (k := 1) (pc' := 23) (lv' := [(1, rv v24), (0, .ref 0)]) (Or.inl ⟨_, rfl, rfl, rfl⟩) (by decide +kernel) (by decide) (oR_rv _) rfl rfl ?_
    refine ab_fin.ald (i := .aload_n 1) (n := 1) (k := 1) (pc' := 24) (Or.inl ⟨_, rfl, rfl, rfl⟩) (by decide +kernel) rfl (oR_rv _) rfl ?_
    refine ab_fin.s2 (i := .aload_n 0) (k := 1) (pc' := 25) (lv' := [(1, rv v24), (0, .ref 0)]) (st' := [.ref 0, rv v24]) (by decide +kernel) rfl rfl ?_
    refine ab_fin.q_yW (i := .invokevirtual 417) (k := 3) (y := 5926) (As := [.ref 0]) (rest := [rv v24]) (M' := (mX23_single, [])) (lv2 := [(0, .ref 0)]) (pc' := 28) (X := K) (by decide +kernel) (ab_cv rfl rfl (conc_get (σ := τ22) (F23.s s0_0)) ⟨(Nat.le_of_ble_eq_true rfl), (by simp only [ab_cat, List.map_cons, List.map_nil, cI, cL, cR1, cN1, cX1, cA (oR_rv _)]; exact Nat.le_of_ble_eq_true rfl)⟩ rfl) rfl (Nat.le_of_ble_eq_true rfl) rfl rfl (hY_no fun E => rfl) w (fun v27 τ25 F26 w => ?_)
    obtain ⟨b28, e29, w⟩ := w
    rw [show rv v24 = .ref b28 from by rw [e29]; rfl]
    obtain ⟨e30, w⟩ := w
    have F31 := FX.w (Φ := ΦR) (a := b28) (k := 5) (v := v27) F26 (cD F26 e30 rfl)
    refine ab_fin.q_pF (ix := 409) (ci := 21) (k := 5) (h1 := conc (τ25.wr b28 5 v27)) (pc' := 31) (by decide +kernel) rfl (c_pR (v := v27) e30 rfl) nRv_n nRv_f rfl ?_
    refine ab_fin.s3 (i := .goto 35) (k := 3) (t := 66) (st' := []) (by decide +kernel) (ab_gto (by decide +kernel)) ?_
    refine ab_fin.s2 (i := .aload_n 0) (k := 1) (pc' := 67) (lv' := [(1, .ref b28), (0, .ref 0)]) (st' := [.ref 0]) (by decide +kernel) rfl rfl ?_
    refine ab_fin.s1 (i := .dup) (k := 1) (pc' := 68) (st' := [.ref 0, .ref 0]) (by decide +kernel) rfl rfl ?_
    refine ab_fin.q_rI (x := (τ25.i 0 20)) (ix := 253) (ci := 24) (k := 20) (pc' := 71) (by decide +kernel) rfl (c_rI (F31.s s0_0) rfl) rfl ?_
    refine ab_fin.s1i (i := .iconst 1) (k := 1) (pc' := 72) (n := 1) (by decide +kernel) rfl (by decide +kernel) rfl ?_
    refine ab_fin.s1 (i := .isub) (k := 1) (pc' := 73) (st' := [.int ((τ25.i 0 20) - (1 : Int32)), .ref 0]) (by decide +kernel) rfl rfl ?_
    refine ab_fin.q_pF (ix := 253) (ci := 24) (k := 20) (h1 := conc ((τ25.wr b28 5 v27).wi 0 20 ((τ25.i 0 20) - (1 : Int32)))) (pc' := 76) (by decide +kernel) rfl (c_pI (v := ((τ25.i 0 20) - (1 : Int32))) (F31.s s0_0) rfl) rfl rfl rfl ?_
    refine ab_fin.s2 (i := .aload_n 1) (k := 1) (pc' := 77) (lv' := [(1, .ref b28), (0, .ref 0)]) (st' := [.ref b28]) (by decide +kernel) rfl rfl ?_
    exact ab_fin.q_ret (i := .areturn) (k := 1) (v := some (.ref b28)) (by decide +kernel) rfl F31 w
theorem S_X23_comparison_0 {Z : zT} {d : Nat} {σ : Sg}  {K : kS} (F : FX ΦR σ.sh σ.r) (w : ∃ b1, (σ.r 0 34) = Rf.ptr b1 ∧ (sh0R[b1]? = some (Sh.obj 22) ∧ (B_X21_get_0 Z d σ b1 8 (yW K fun v6 τ4 => (¬ (τ4.i 0 17) = 2 → B_X23_signed_0 Z d τ4  (yI K fun v9 τ7 => ∃ b10, v6 = Rf.ptr b10 ∧ (τ7.sh[b10]? = some (Sh.obj 21) ∧ (B_X23_comparison_119 Z (d + 1) (τ7.wl b10 11 ((Int32.toInt64 v9))) (σ.i 0 18) b10 K)))) ∧ ((τ4.i 0 17) = 2 → B_X23_name_0 Z d τ4  (yI K fun v15 τ13 => B_X23_spec_0 Z d τ13 v15 (σ.i 0 18) (yI K fun v18 τ16 => B_X23_skip_0 Z d τ16 (Rf.old 148) (yI K fun v21 τ19 => (v21 = 0 → ∃ b22, v6 = Rf.ptr b22 ∧ (τ19.sh[b22]? = some (Sh.obj 21) ∧ (B_X23_behind_0 Z d (τ19.wi b22 9 v18)  (yL K fun v27 τ25 => τ25.sh[b22]? = some (Sh.obj 21) ∧ (B_X23_comparison_119 Z (d + 1) (τ25.wl b22 11 v27) (σ.i 0 18) b22 K))))) ∧ (¬ v21 = 0 → B_X23_counts_0 Z d τ19 (σ.i 0 18) (yN K fun τ29 => B_X23_name_0 Z d τ29  (yI K fun v33 τ31 => B_X23_kindNamed_0 Z d τ31 v33 (yI K fun v36 τ34 => (0 ≤ v36 → B_X23_comparison_75 Z (d + 1) τ34 v6 v18 v36 K) ∧ (¬ 0 ≤ v36 → B_X23_breaks_0 Z d τ34 3 (τ29.i 0 18) (yN K fun τ37 => B_X23_comparison_75 Z (d + 1) τ37 v6 v18 v36 K)))))))))))))) : B_X23_comparison_0 Z (d + 1) σ  K := by
  unfold B_X23_comparison_0
  refine ab_fin.s2 (i := .aload_n 0) (k := 1) (pc' := 1) (lv' := [(0, .ref 0)]) (st' := [.ref 0]) (by decide +kernel) rfl rfl ?_
  refine ab_fin.q_rI (x := (σ.i 0 18)) (ix := 106) (ci := 24) (k := 18) (pc' := 4) (by decide +kernel) rfl (c_rI (F.s s0_0) rfl) rfl ?_
  refine ab_fin.s2 (i := .istore_n 1) (k := 1) (pc' := 5) (lv' := [(1, .int (σ.i 0 18)), (0, .ref 0)]) (st' := []) (by decide +kernel) rfl rfl ?_
  refine ab_fin.s2 (i := .aload_n 0) (k := 1) (pc' := 6) (lv' := [(1, .int (σ.i 0 18)), (0, .ref 0)]) (st' := [.ref 0]) (by decide +kernel) rfl rfl ?_
  obtain ⟨b1, e2, w⟩ := w
  refine ab_fin.q_rA (b := b1) (ix := 353) (ci := 24) (k := 34) (pc' := 9) (by decide +kernel) rfl (c_rA (F.s s0_0) rfl e2) rfl ?_
  refine ab_fin.s1i (i := .bipush 8) (k := 2) (pc' := 11) (n := 8) (by decide +kernel) rfl (by decide +kernel) rfl ?_
  obtain ⟨e3, w⟩ := w
  refine ab_fin.q_yW (i := .invokevirtual 403) (k := 3) (y := 5377) (As := [.ref b1, .int 8]) (rest := []) (M' := (mX21_get, [])) (lv2 := [(0, .ref b1), (1, .int 8)]) (pc' := 14) (X := K) (by decide +kernel) (ab_cv rfl rfl (conc_get (σ := σ) (F.s e3)) ⟨(Nat.le_of_ble_eq_true rfl), (Nat.le_of_ble_eq_true rfl)⟩ rfl) rfl (Nat.le_of_ble_eq_true rfl) rfl rfl (hY_no fun E => rfl) w (fun v6 τ4 F5 w => ?_)
  refine ab_fin.q_stA (i := .astore_n 2) (n := 2) (k := 1) (pc' := 15) (lv' := [(2, rv v6), (1, .int (σ.i 0 18)), (0, .ref 0)]) (Or.inl ⟨_, rfl, rfl, rfl⟩) (by decide +kernel) (by decide) (oR_rv _) rfl rfl ?_
  refine ab_fin.s2 (i := .aload_n 0) (k := 1) (pc' := 16) (lv' := [(2, rv v6), (1, .int (σ.i 0 18)), (0, .ref 0)]) (st' := [.ref 0]) (by decide +kernel) rfl rfl ?_
  refine ab_fin.q_rI (x := (τ4.i 0 17)) (ix := 183) (ci := 24) (k := 17) (pc' := 19) (by decide +kernel) rfl (c_rI (F5.s s0_0) rfl) rfl ?_
  refine ab_fin.s1i (i := .iconst 2) (k := 1) (pc' := 20) (n := 2) (by decide +kernel) rfl (by decide +kernel) rfl ?_
  refine ab_fin.br (c := ¬ (τ4.i 0 17) = 2) (i := .if_icmp .ne 90) (off := 90) (t := 110) (pc' := 23) (r := []) (by decide +kernel) rfl (by decide +kernel) rfl (fun q => ?_) (fun q => ?_)
  · replace w := w.1 q
    refine ab_fin.ald (i := .aload_n 2) (n := 2) (k := 1) (pc' := 111) (Or.inl ⟨_, rfl, rfl, rfl⟩) (by decide +kernel) rfl (oR_rv _) rfl ?_
    refine ab_fin.s2 (i := .aload_n 0) (k := 1) (pc' := 112) (lv' := [(2, rv v6), (1, .int (σ.i 0 18)), (0, .ref 0)]) (st' := [.ref 0, rv v6]) (by decide +kernel) rfl rfl ?_
    refine ab_fin.q_yI (i := .invokevirtual 388) (k := 3) (y := 5920) (As := [.ref 0]) (rest := [rv v6]) (M' := (mX23_signed, [])) (lv2 := [(0, .ref 0)]) (pc' := 115) (X := K) (by decide +kernel) (ab_cv rfl rfl (conc_get (σ := τ4) (F5.s s0_0)) ⟨(Nat.le_of_ble_eq_true rfl), (by simp only [ab_cat, List.map_cons, List.map_nil, cI, cL, cR1, cN1, cX1, cA (oR_rv _)]; exact Nat.le_of_ble_eq_true rfl)⟩ rfl) rfl (Nat.le_of_ble_eq_true rfl) rfl rfl (hY_no fun E => rfl) w (fun v9 τ7 F8 w => ?_)
    refine ab_fin.s1 (i := .i2l) (k := 1) (pc' := 116) (st' := [.long ((Int32.toInt64 v9)), rv v6]) (by decide +kernel) rfl rfl ?_
    obtain ⟨b10, e11, w⟩ := w
    rw [show rv v6 = .ref b10 from by rw [e11]; rfl]
    obtain ⟨e12, w⟩ := w
    refine ab_fin.q_pF (ix := 445) (ci := 21) (k := 11) (h1 := conc (τ7.wl b10 11 ((Int32.toInt64 v9)))) (pc' := 119) (by decide +kernel) rfl (c_pL (v := ((Int32.toInt64 v9))) e12 rfl) rfl rfl rfl ?_
    exact ab_fin.lv ⟨(List.forall_mem_cons.mpr ⟨(List.Mem.tail _ (List.Mem.tail _ (List.Mem.head _))), (List.forall_mem_cons.mpr ⟨(List.Mem.tail _ (List.Mem.head _)), (List.forall_mem_cons.mpr ⟨(List.Mem.head _), (fun _ h => absurd h List.not_mem_nil)⟩)⟩)⟩), (show ([2, 1, 0] : List Nat).Nodup from by decide)⟩ w
  · replace w := w.2 (Decidable.of_not_not q)
    refine ab_fin.s2 (i := .aload_n 0) (k := 1) (pc' := 24) (lv' := [(2, rv v6), (1, .int (σ.i 0 18)), (0, .ref 0)]) (st' := [.ref 0]) (by decide +kernel) rfl rfl ?_
    refine ab_fin.s2 (i := .aload_n 0) (k := 1) (pc' := 25) (lv' := [(2, rv v6), (1, .int (σ.i 0 18)), (0, .ref 0)]) (st' := [.ref 0, .ref 0]) (by decide +kernel) rfl rfl ?_
    refine ab_fin.q_yI (i := .invokevirtual 277) (k := 3) (y := 5909) (As := [.ref 0]) (rest := [.ref 0]) (M' := (mX23_name, [])) (lv2 := [(0, .ref 0)]) (pc' := 28) (X := K) (by decide +kernel) (ab_cv rfl rfl (conc_get (σ := τ4) (F5.s s0_0)) ⟨(Nat.le_of_ble_eq_true rfl), (Nat.le_of_ble_eq_true rfl)⟩ rfl) rfl (Nat.le_of_ble_eq_true rfl) rfl rfl (hY_no fun E => rfl) w (fun v15 τ13 F14 w => ?_)
    refine ab_fin.s2 (i := .iload_n 1) (k := 1) (pc' := 29) (lv' := [(2, rv v6), (1, .int (σ.i 0 18)), (0, .ref 0)]) (st' := [.int (σ.i 0 18), .int v15, .ref 0]) (by decide +kernel) rfl rfl ?_
    refine ab_fin.q_yI (i := .invokevirtual 426) (k := 3) (y := 5925) (As := [.ref 0, .int v15, .int (σ.i 0 18)]) (rest := []) (M' := (mX23_spec, [])) (lv2 := [(0, .ref 0), (1, .int v15), (2, .int (σ.i 0 18))]) (pc' := 32) (X := K) (by decide +kernel) (ab_cv rfl rfl (conc_get (σ := τ13) (F14.s s0_0)) ⟨(Nat.le_of_ble_eq_true rfl), (Nat.le_of_ble_eq_true rfl)⟩ rfl) rfl (Nat.le_of_ble_eq_true rfl) rfl rfl (hY_no fun E => rfl) w (fun v18 τ16 F17 w => ?_)
    refine ab_fin.q_stI (i := .istore_n 3) (n := 3) (k := 1) (pc' := 33) (lv' := [(3, .int v18), (2, rv v6), (1, .int (σ.i 0 18)), (0, .ref 0)]) (Or.inl ⟨_, rfl, rfl, rfl⟩) (by decide +kernel) (by decide) (by simp only [ab_st1, List.filter_cons, List.filter_nil, cA (oR_rv _)]; rfl) rfl ?_
    refine ab_fin.s2 (i := .aload_n 0) (k := 1) (pc' := 34) (lv' := [(3, .int v18), (2, rv v6), (1, .int (σ.i 0 18)), (0, .ref 0)]) (st' := [.ref 0]) (by decide +kernel) rfl rfl ?_
    refine ab_fin.s8 (i := .ldc 142) (k := 2) (pc' := 36) (st' := [.retAddr 148, .ref 0]) (by decide +kernel) rfl rfl rfl rfl ?_
    refine ab_fin.q_yI (i := .invokevirtual 266) (k := 3) (y := 5908) (As := [.ref 0, .retAddr 148]) (rest := []) (M' := (mX23_skip, [])) (lv2 := [(0, .ref 0), (1, .retAddr 148)]) (pc' := 39) (X := K) (by decide +kernel) (ab_cv rfl rfl (conc_get (σ := τ16) (F17.s s0_0)) ⟨(Nat.le_of_ble_eq_true rfl), (Nat.le_of_ble_eq_true rfl)⟩ rfl) rfl (Nat.le_of_ble_eq_true rfl) rfl rfl (hY_no fun E => rfl) w (fun v21 τ19 F20 w => ?_)
    refine ab_fin.br (c := v21 = 0) (i := .ifCond .eq 55) (off := 55) (t := 94) (pc' := 42) (r := []) (by decide +kernel) rfl (by decide +kernel) rfl (fun q => ?_) (fun q => ?_)
    · replace w := w.1 q
      refine ab_fin.ald (i := .aload_n 2) (n := 2) (k := 1) (pc' := 95) (Or.inl ⟨_, rfl, rfl, rfl⟩) (by decide +kernel) rfl (oR_rv _) rfl ?_
      refine ab_fin.s2 (i := .iload_n 3) (k := 1) (pc' := 96) (lv' := [(3, .int v18), (2, rv v6), (1, .int (σ.i 0 18)), (0, .ref 0)]) (st' := [.int v18, rv v6]) (by decide +kernel) rfl rfl ?_
      obtain ⟨b22, e23, w⟩ := w
      rw [show rv v6 = .ref b22 from by rw [e23]; rfl]
      obtain ⟨e24, w⟩ := w
      refine ab_fin.q_pF (ix := 439) (ci := 21) (k := 9) (h1 := conc (τ19.wi b22 9 v18)) (pc' := 99) (by decide +kernel) rfl (c_pI (v := v18) e24 rfl) rfl rfl rfl ?_
      refine ab_fin.s2 (i := .aload_n 2) (k := 1) (pc' := 100) (lv' := [(3, .int v18), (2, .ref b22), (1, .int (σ.i 0 18)), (0, .ref 0)]) (st' := [.ref b22]) (by decide +kernel) rfl rfl ?_
      refine ab_fin.s2 (i := .aload_n 0) (k := 1) (pc' := 101) (lv' := [(3, .int v18), (2, .ref b22), (1, .int (σ.i 0 18)), (0, .ref 0)]) (st' := [.ref 0, .ref b22]) (by decide +kernel) rfl rfl ?_
      refine ab_fin.q_yL (i := .invokevirtual 442) (k := 3) (y := 5929) (As := [.ref 0]) (rest := [.ref b22]) (M' := (mX23_behind, [])) (lv2 := [(0, .ref 0)]) (pc' := 104) (X := K) (by decide +kernel) (ab_cv rfl rfl (conc_get (σ := (τ19.wi b22 9 v18)) (F20.s s0_0)) ⟨(Nat.le_of_ble_eq_true rfl), (Nat.le_of_ble_eq_true rfl)⟩ rfl) rfl (Nat.le_of_ble_eq_true rfl) rfl rfl (hY_no fun E => rfl) w (fun v27 τ25 F26 w => ?_)
      obtain ⟨e28, w⟩ := w
      refine ab_fin.q_pF (ix := 445) (ci := 21) (k := 11) (h1 := conc (τ25.wl b22 11 v27)) (pc' := 107) (by decide +kernel) rfl (c_pL (v := v27) e28 rfl) rfl rfl rfl ?_
      refine ab_fin.s3 (i := .goto 12) (k := 3) (t := 119) (st' := []) (by decide +kernel) (ab_gto (by decide +kernel)) ?_
      exact ab_fin.lv ⟨(List.forall_mem_cons.mpr ⟨(List.Mem.tail _ (List.Mem.tail _ (List.Mem.tail _ (List.Mem.head _)))), (List.forall_mem_cons.mpr ⟨(List.Mem.tail _ (List.Mem.tail _ (List.Mem.head _))), (List.forall_mem_cons.mpr ⟨(List.Mem.tail _ (List.Mem.head _)), (fun _ h => absurd h List.not_mem_nil)⟩)⟩)⟩), (show ([3, 2, 1, 0] : List Nat).Nodup from by decide)⟩ w
    · replace w := w.2 q
      refine ab_fin.s2 (i := .aload_n 0) (k := 1) (pc' := 43) (lv' := [(3, .int v18), (2, rv v6), (1, .int (σ.i 0 18)), (0, .ref 0)]) (st' := [.ref 0]) (by decide +kernel) rfl rfl ?_
      refine ab_fin.s2 (i := .iload_n 1) (k := 1) (pc' := 44) (lv' := [(3, .int v18), (2, rv v6), (1, .int (σ.i 0 18)), (0, .ref 0)]) (st' := [.int (σ.i 0 18), .ref 0]) (by decide +kernel) rfl rfl ?_
      refine ab_fin.q_yN (i := .invokevirtual 429) (k := 3) (y := 5928) (As := [.ref 0, .int (σ.i 0 18)]) (rest := []) (M' := (mX23_counts, [])) (lv2 := [(0, .ref 0), (1, .int (σ.i 0 18))]) (pc' := 47) (X := K) (by decide +kernel) (ab_cv rfl rfl (conc_get (σ := τ19) (F20.s s0_0)) ⟨(Nat.le_of_ble_eq_true rfl), (Nat.le_of_ble_eq_true rfl)⟩ rfl) rfl (Nat.le_of_ble_eq_true rfl) rfl rfl (hY_no fun E => rfl) w (fun τ29 F30 w => ?_)
      refine ab_fin.s2 (i := .aload_n 0) (k := 1) (pc' := 48) (lv' := [(3, .int v18), (2, rv v6), (1, .int (σ.i 0 18)), (0, .ref 0)]) (st' := [.ref 0]) (by decide +kernel) rfl rfl ?_
      refine ab_fin.q_rI (x := (τ29.i 0 18)) (ix := 106) (ci := 24) (k := 18) (pc' := 51) (by decide +kernel) rfl (c_rI (F30.s s0_0) rfl) rfl ?_
      refine ab_fin.s2 (i := .istore 4) (k := 2) (pc' := 53) (lv' := [(4, .int (τ29.i 0 18)), (3, .int v18), (2, rv v6), (1, .int (σ.i 0 18)), (0, .ref 0)]) (st' := []) (by decide +kernel) rfl rfl ?_
      refine ab_fin.s2 (i := .aload_n 0) (k := 1) (pc' := 54) (lv' := [(4, .int (τ29.i 0 18)), (3, .int v18), (2, rv v6), (1, .int (σ.i 0 18)), (0, .ref 0)]) (st' := [.ref 0]) (by decide +kernel) rfl rfl ?_
      refine ab_fin.s2 (i := .aload_n 0) (k := 1) (pc' := 55) (lv' := [(4, .int (τ29.i 0 18)), (3, .int v18), (2, rv v6), (1, .int (σ.i 0 18)), (0, .ref 0)]) (st' := [.ref 0, .ref 0]) (by decide +kernel) rfl rfl ?_
      refine ab_fin.q_yI (i := .invokevirtual 277) (k := 3) (y := 5909) (As := [.ref 0]) (rest := [.ref 0]) (M' := (mX23_name, [])) (lv2 := [(0, .ref 0)]) (pc' := 58) (X := K) (by decide +kernel) (ab_cv rfl rfl (conc_get (σ := τ29) (F30.s s0_0)) ⟨(Nat.le_of_ble_eq_true rfl), (Nat.le_of_ble_eq_true rfl)⟩ rfl) rfl (Nat.le_of_ble_eq_true rfl) rfl rfl (hY_no fun E => rfl) w (fun v33 τ31 F32 w => ?_)
      refine ab_fin.q_yI (i := .invokevirtual 48) (k := 3) (y := 5890) (As := [.ref 0, .int v33]) (rest := []) (M' := (mX23_kindNamed, [])) (lv2 := [(0, .ref 0), (1, .int v33)]) (pc' := 61) (X := K) (by decide +kernel) (ab_cv rfl rfl (conc_get (σ := τ31) (F32.s s0_0)) ⟨(Nat.le_of_ble_eq_true rfl), (Nat.le_of_ble_eq_true rfl)⟩ rfl) rfl (Nat.le_of_ble_eq_true rfl) rfl rfl (hY_no fun E => rfl) w (fun v36 τ34 F35 w => ?_)
      refine ab_fin.s2 (i := .istore 5) (k := 2) (pc' := 63) (lv' := [(5, .int v36), (4, .int (τ29.i 0 18)), (3, .int v18), (2, rv v6), (1, .int (σ.i 0 18)), (0, .ref 0)]) (st' := []) (by decide +kernel) rfl rfl ?_
      refine ab_fin.s2 (i := .iload 5) (k := 2) (pc' := 65) (lv' := [(5, .int v36), (4, .int (τ29.i 0 18)), (3, .int v18), (2, rv v6), (1, .int (σ.i 0 18)), (0, .ref 0)]) (st' := [.int v36]) (by decide +kernel) rfl rfl ?_
      refine ab_fin.br (c := 0 ≤ v36) (i := .ifCond .ge 10) (off := 10) (t := 75) (pc' := 68) (r := []) (by decide +kernel) rfl (by decide +kernel) rfl (fun q => ?_) (fun q => ?_)
      · replace w := w.1 q
        exact ab_fin.lv ⟨(List.forall_mem_cons.mpr ⟨(List.Mem.tail _ (List.Mem.tail _ (List.Mem.tail _ (List.Mem.head _)))), (List.forall_mem_cons.mpr ⟨(List.Mem.tail _ (List.Mem.tail _ (List.Mem.head _))), (List.forall_mem_cons.mpr ⟨(List.Mem.head _), (fun _ h => absurd h List.not_mem_nil)⟩)⟩)⟩), (show ([5, 4, 3, 2, 1, 0] : List Nat).Nodup from by decide)⟩ w
      · replace w := w.2 q
        refine ab_fin.s2 (i := .aload_n 0) (k := 1) (pc' := 69) (lv' := [(5, .int v36), (4, .int (τ29.i 0 18)), (3, .int v18), (2, rv v6), (1, .int (σ.i 0 18)), (0, .ref 0)]) (st' := [.ref 0]) (by decide +kernel) rfl rfl ?_
        refine ab_fin.s1i (i := .iconst 3) (k := 1) (pc' := 70) (n := 3) (by decide +kernel) rfl (by decide +kernel) rfl ?_
        refine ab_fin.s2 (i := .iload 4) (k := 2) (pc' := 72) (lv' := [(5, .int v36), (4, .int (τ29.i 0 18)), (3, .int v18), (2, rv v6), (1, .int (σ.i 0 18)), (0, .ref 0)]) (st' := [.int (τ29.i 0 18), .int 3, .ref 0]) (by decide +kernel) rfl rfl ?_
        refine ab_fin.q_yN (i := .invokevirtual 259) (k := 3) (y := 5910) (As := [.ref 0, .int 3, .int (τ29.i 0 18)]) (rest := []) (M' := (mX23_breaks, [])) (lv2 := [(0, .ref 0), (1, .int 3), (2, .int (τ29.i 0 18))]) (pc' := 75) (X := K) (by decide +kernel) (ab_cv rfl rfl (conc_get (σ := τ34) (F35.s s0_0)) ⟨(Nat.le_of_ble_eq_true rfl), (Nat.le_of_ble_eq_true rfl)⟩ rfl) rfl (Nat.le_of_ble_eq_true rfl) rfl rfl (hY_no fun E => rfl) w (fun τ37 F38 w => ?_)
        exact ab_fin.lv ⟨(List.forall_mem_cons.mpr ⟨(List.Mem.tail _ (List.Mem.tail _ (List.Mem.tail _ (List.Mem.head _)))), (List.forall_mem_cons.mpr ⟨(List.Mem.tail _ (List.Mem.tail _ (List.Mem.head _))), (List.forall_mem_cons.mpr ⟨(List.Mem.head _), (fun _ h => absurd h List.not_mem_nil)⟩)⟩)⟩), (show ([5, 4, 3, 2, 1, 0] : List Nat).Nodup from by decide)⟩ w
theorem S_X23_comparison_75 {Z : zT} {d : Nat} {σ : Sg} {l2 : Rf} {l3 : Int32} {l5 : Int32} {K : kS} (F : FX ΦR σ.sh σ.r) (w : ∃ b1, l2 = Rf.ptr b1 ∧ (σ.sh[b1]? = some (Sh.obj 21) ∧ (K (.inl (some (.ref b1))) (((σ.wi b1 0 (9 : Int32)).wi b1 2 l3).wi b1 1 l5)))) : B_X23_comparison_75 Z (d + 1) σ l2 l3 l5 K := by
  unfold B_X23_comparison_75
  refine ab_fin.ald (i := .aload_n 2) (n := 2) (k := 1) (pc' := 76) (Or.inl ⟨_, rfl, rfl, rfl⟩) (by decide +kernel) rfl (oR_rv _) rfl ?_
  refine ab_fin.s1i (i := .bipush 9) (k := 2) (pc' := 78) (n := 9) (by decide +kernel) rfl (by decide +kernel) rfl ?_
  obtain ⟨b1, e2, w⟩ := w
  rw [show rv l2 = .ref b1 from by rw [e2]; rfl]
  obtain ⟨e3, w⟩ := w
  refine ab_fin.q_pF (ix := 432) (ci := 21) (k := 0) (h1 := conc (σ.wi b1 0 (9 : Int32))) (pc' := 81) (by decide +kernel) rfl (c_pI (v := 9) e3 rfl) rfl rfl rfl ?_
  refine ab_fin.s2 (i := .aload_n 2) (k := 1) (pc' := 82) (lv' := [(2, .ref b1), (3, .int l3), (5, .int l5)]) (st' := [.ref b1]) (by decide +kernel) rfl rfl ?_
  refine ab_fin.s2 (i := .iload_n 3) (k := 1) (pc' := 83) (lv' := [(2, .ref b1), (3, .int l3), (5, .int l5)]) (st' := [.int l3, .ref b1]) (by decide +kernel) rfl rfl ?_
  refine ab_fin.q_pF (ix := 435) (ci := 21) (k := 2) (h1 := conc ((σ.wi b1 0 (9 : Int32)).wi b1 2 l3)) (pc' := 86) (by decide +kernel) rfl (c_pI (v := l3) e3 rfl) rfl rfl rfl ?_
  refine ab_fin.s2 (i := .aload_n 2) (k := 1) (pc' := 87) (lv' := [(2, .ref b1), (3, .int l3), (5, .int l5)]) (st' := [.ref b1]) (by decide +kernel) rfl rfl ?_
  refine ab_fin.s2 (i := .iload 5) (k := 2) (pc' := 89) (lv' := [(2, .ref b1), (3, .int l3), (5, .int l5)]) (st' := [.int l5, .ref b1]) (by decide +kernel) rfl rfl ?_
  refine ab_fin.q_pF (ix := 438) (ci := 21) (k := 1) (h1 := conc (((σ.wi b1 0 (9 : Int32)).wi b1 2 l3).wi b1 1 l5)) (pc' := 92) (by decide +kernel) rfl (c_pI (v := l5) e3 rfl) rfl rfl rfl ?_
  refine ab_fin.s2 (i := .aload_n 2) (k := 1) (pc' := 93) (lv' := [(2, .ref b1), (3, .int l3), (5, .int l5)]) (st' := [.ref b1]) (by decide +kernel) rfl rfl ?_
  exact ab_fin.q_ret (i := .areturn) (k := 1) (v := some (.ref b1)) (by decide +kernel) rfl F w
theorem S_X23_comparison_119 {Z : zT} {d : Nat} {σ : Sg} {l1 : Int32} {l2 : Nat} {K : kS} (F : FX ΦR σ.sh σ.r) (w : B_X23_counts_0 Z d σ l1 (yN K fun τ1 => B_X23_is_0 Z d τ1 60 (yI K fun v5 τ3 => (¬ v5 = 0 → B_X23_comparison_158 Z (d + 1) τ3 l2 K) ∧ (v5 = 0 → B_X23_is_0 Z d τ3 316 (yI K fun v8 τ6 => (¬ v8 = 0 → B_X23_comparison_158 Z (d + 1) τ6 l2 K) ∧ (v8 = 0 → B_X23_is_0 Z d τ6 317 (yI K fun v11 τ9 => (¬ v11 = 0 → B_X23_comparison_158 Z (d + 1) τ9 l2 K) ∧ (v11 = 0 → B_X23_no_0 Z d τ9  (yR K fun v14 τ12 => ∃ x16, aT τ12 v14 x16 ∧ K (.inr (x16, v14)) τ12))))))))) : B_X23_comparison_119 Z (d + 1) σ l1 l2 K := by
  unfold B_X23_comparison_119
  refine ab_fin.s2 (i := .aload_n 0) (k := 1) (pc' := 120) (lv' := [(0, .ref 0), (1, .int l1), (2, .ref l2)]) (st' := [.ref 0]) (by decide +kernel) rfl rfl ?_
  refine ab_fin.s2 (i := .iload_n 1) (k := 1) (pc' := 121) (lv' := [(0, .ref 0), (1, .int l1), (2, .ref l2)]) (st' := [.int l1, .ref 0]) (by decide +kernel) rfl rfl ?_
  refine ab_fin.q_yN (i := .invokevirtual 429) (k := 3) (y := 5928) (As := [.ref 0, .int l1]) (rest := []) (M' := (mX23_counts, [])) (lv2 := [(0, .ref 0), (1, .int l1)]) (pc' := 124) (X := K) (by decide +kernel) (ab_cv rfl rfl (conc_get (σ := σ) (F.s s0_0)) ⟨(Nat.le_of_ble_eq_true rfl), (Nat.le_of_ble_eq_true rfl)⟩ rfl) rfl (Nat.le_of_ble_eq_true rfl) rfl rfl (hY_no fun E => rfl) w (fun τ1 F2 w => ?_)
  refine ab_fin.s2 (i := .aload_n 0) (k := 1) (pc' := 125) (lv' := [(0, .ref 0), (1, .int l1), (2, .ref l2)]) (st' := [.ref 0]) (by decide +kernel) rfl rfl ?_
  refine ab_fin.s1i (i := .bipush 60) (k := 2) (pc' := 127) (n := 60) (by decide +kernel) rfl (by decide +kernel) rfl ?_
  refine ab_fin.q_yI (i := .invokevirtual 233) (k := 3) (y := 5904) (As := [.ref 0, .int 60]) (rest := []) (M' := (mX23_is, [])) (lv2 := [(0, .ref 0), (1, .int 60)]) (pc' := 130) (X := K) (by decide +kernel) (ab_cv rfl rfl (conc_get (σ := τ1) (F2.s s0_0)) ⟨(Nat.le_of_ble_eq_true rfl), (Nat.le_of_ble_eq_true rfl)⟩ rfl) rfl (Nat.le_of_ble_eq_true rfl) rfl rfl (hY_no fun E => rfl) w (fun v5 τ3 F4 w => ?_)
  refine ab_fin.br (c := ¬ v5 = 0) (i := .ifCond .ne 28) (off := 28) (t := 158) (pc' := 133) (r := []) (by decide +kernel) rfl (by decide +kernel) rfl (fun q => ?_) (fun q => ?_)
  · replace w := w.1 q
    exact ab_fin.lv ⟨(List.forall_mem_cons.mpr ⟨(List.Mem.head _), (List.forall_mem_cons.mpr ⟨(List.Mem.tail _ (List.Mem.tail _ (List.Mem.head _))), (fun _ h => absurd h List.not_mem_nil)⟩)⟩), (show ([0, 1, 2] : List Nat).Nodup from by decide)⟩ w
  · replace w := w.2 (Decidable.of_not_not q)
    refine ab_fin.s2 (i := .aload_n 0) (k := 1) (pc' := 134) (lv' := [(0, .ref 0), (1, .int l1), (2, .ref l2)]) (st' := [.ref 0]) (by decide +kernel) rfl rfl ?_
    refine ab_fin.s1i (i := .sipush 316) (k := 3) (pc' := 137) (n := 316) (by decide +kernel) rfl (by decide +kernel) rfl ?_
    refine ab_fin.q_yI (i := .invokevirtual 233) (k := 3) (y := 5904) (As := [.ref 0, .int 316]) (rest := []) (M' := (mX23_is, [])) (lv2 := [(0, .ref 0), (1, .int 316)]) (pc' := 140) (X := K) (by decide +kernel) (ab_cv rfl rfl (conc_get (σ := τ3) (F4.s s0_0)) ⟨(Nat.le_of_ble_eq_true rfl), (Nat.le_of_ble_eq_true rfl)⟩ rfl) rfl (Nat.le_of_ble_eq_true rfl) rfl rfl (hY_no fun E => rfl) w (fun v8 τ6 F7 w => ?_)
    refine ab_fin.br (c := ¬ v8 = 0) (i := .ifCond .ne 18) (off := 18) (t := 158) (pc' := 143) (r := []) (by decide +kernel) rfl (by decide +kernel) rfl (fun q => ?_) (fun q => ?_)
    · replace w := w.1 q
      exact ab_fin.lv ⟨(List.forall_mem_cons.mpr ⟨(List.Mem.head _), (List.forall_mem_cons.mpr ⟨(List.Mem.tail _ (List.Mem.tail _ (List.Mem.head _))), (fun _ h => absurd h List.not_mem_nil)⟩)⟩), (show ([0, 1, 2] : List Nat).Nodup from by decide)⟩ w
    · replace w := w.2 (Decidable.of_not_not q)
      refine ab_fin.s2 (i := .aload_n 0) (k := 1) (pc' := 144) (lv' := [(0, .ref 0), (1, .int l1), (2, .ref l2)]) (st' := [.ref 0]) (by decide +kernel) rfl rfl ?_
      refine ab_fin.s1i (i := .sipush 317) (k := 3) (pc' := 147) (n := 317) (by decide +kernel) rfl (by decide +kernel) rfl ?_
      refine ab_fin.q_yI (i := .invokevirtual 233) (k := 3) (y := 5904) (As := [.ref 0, .int 317]) (rest := []) (M' := (mX23_is, [])) (lv2 := [(0, .ref 0), (1, .int 317)]) (pc' := 150) (X := K) (by decide +kernel) (ab_cv rfl rfl (conc_get (σ := τ6) (F7.s s0_0)) ⟨(Nat.le_of_ble_eq_true rfl), (Nat.le_of_ble_eq_true rfl)⟩ rfl) rfl (Nat.le_of_ble_eq_true rfl) rfl rfl (hY_no fun E => rfl) w (fun v11 τ9 F10 w => ?_)
      refine ab_fin.br (c := ¬ v11 = 0) (i := .ifCond .ne 8) (off := 8) (t := 158) (pc' := 153) (r := []) (by decide +kernel) rfl (by decide +kernel) rfl (fun q => ?_) (fun q => ?_)
      · replace w := w.1 q
        exact ab_fin.lv ⟨(List.forall_mem_cons.mpr ⟨(List.Mem.head _), (List.forall_mem_cons.mpr ⟨(List.Mem.tail _ (List.Mem.tail _ (List.Mem.head _))), (fun _ h => absurd h List.not_mem_nil)⟩)⟩), (show ([0, 1, 2] : List Nat).Nodup from by decide)⟩ w
      · replace w := w.2 (Decidable.of_not_not q)
        refine ab_fin.s2 (i := .aload_n 0) (k := 1) (pc' := 154) (lv' := [(0, .ref 0), (1, .int l1), (2, .ref l2)]) (st' := [.ref 0]) (by decide +kernel) rfl rfl ?_
        refine ab_fin.q_yR (i := .invokevirtual 235) (k := 3) (y := 5903) (As := [.ref 0]) (rest := []) (M' := (mX23_no, [])) (lv2 := [(0, .ref 0)]) (pc' := 157) (X := K) (by decide +kernel) (ab_cv rfl rfl (conc_get (σ := τ9) (F10.s s0_0)) ⟨(Nat.le_of_ble_eq_true rfl), (Nat.le_of_ble_eq_true rfl)⟩ rfl) rfl (Nat.le_of_ble_eq_true rfl) rfl rfl (hY_no fun E => rfl) w (fun v14 τ12 F13 w => ?_)
        obtain ⟨x16, e15, w⟩ := w
        exact ab_fin.q_ath (X := fun r h => ∃ τ, h = conc τ ∧ FX ΦR τ.sh τ.r ∧ K r τ) (by decide +kernel) (aT_ok e15) (fun p h ⟨τ, q, f, z⟩ => by subst q; exact ((hY_no fun E => rfl) : hY ΦR _ _ _ _ _ _ _ _ _ _) p τ f z) ⟨_, rfl, F13, w⟩
theorem S_X23_comparison_158 {Z : zT} {d : Nat} {σ : Sg} {l2 : Nat} {K : kS} (F : FX ΦR σ.sh σ.r) (w : σ.sh[l2]? = some (Sh.obj 21) ∧ (B_X23_next_0 Z d (σ.wi l2 3 (σ.i 0 19))  (yN K fun τ2 => (¬ (τ2.i 0 17) = 2 → B_X23_signed_0 Z d τ2  (yI K fun v6 τ4 => τ4.sh[l2]? = some (Sh.obj 21) ∧ (K (.inl (some (.ref l2))) (τ4.wl l2 11 ((τ4.l l2 11) - ((Int32.toInt64 v6))))))) ∧ ((τ2.i 0 17) = 2 → B_X23_name_0 Z d τ2  (yI K fun v10 τ8 => B_X23_spec_0 Z d τ8 v10 (τ2.i 0 18) (yI K fun v13 τ11 => τ11.sh[l2]? = some (Sh.obj 21) ∧ (B_X23_behind_0 Z d (τ11.wi l2 10 v13)  (yL K fun v17 τ15 => τ15.sh[l2]? = some (Sh.obj 21) ∧ (K (.inl (some (.ref l2))) (τ15.wl l2 11 ((τ15.l l2 11) - v17))))))))))) : B_X23_comparison_158 Z (d + 1) σ l2 K := by
  unfold B_X23_comparison_158
  refine ab_fin.s2 (i := .aload_n 2) (k := 1) (pc' := 159) (lv' := [(0, .ref 0), (2, .ref l2)]) (st' := [.ref l2]) (by decide +kernel) rfl rfl ?_
  refine ab_fin.s2 (i := .aload_n 0) (k := 1) (pc' := 160) (lv' := [(0, .ref 0), (2, .ref l2)]) (st' := [.ref 0, .ref l2]) (by decide +kernel) rfl rfl ?_
  refine ab_fin.q_rI (x := (σ.i 0 19)) (ix := 213) (ci := 24) (k := 19) (pc' := 163) (by decide +kernel) rfl (c_rI (F.s s0_0) rfl) rfl ?_
  obtain ⟨e1, w⟩ := w
  refine ab_fin.q_pF (ix := 449) (ci := 21) (k := 3) (h1 := conc (σ.wi l2 3 (σ.i 0 19))) (pc' := 166) (by decide +kernel) rfl (c_pI (v := (σ.i 0 19)) e1 rfl) rfl rfl rfl ?_
  refine ab_fin.s2 (i := .aload_n 0) (k := 1) (pc' := 167) (lv' := [(0, .ref 0), (2, .ref l2)]) (st' := [.ref 0]) (by decide +kernel) rfl rfl ?_
  refine ab_fin.q_yN (i := .invokevirtual 239) (k := 3) (y := 5902) (As := [.ref 0]) (rest := []) (M' := (mX23_next, [])) (lv2 := [(0, .ref 0)]) (pc' := 170) (X := K) (by decide +kernel) (ab_cv rfl rfl (conc_get (σ := (σ.wi l2 3 (σ.i 0 19))) (F.s s0_0)) ⟨(Nat.le_of_ble_eq_true rfl), (Nat.le_of_ble_eq_true rfl)⟩ rfl) rfl (Nat.le_of_ble_eq_true rfl) rfl rfl (hY_no fun E => rfl) w (fun τ2 F3 w => ?_)
  refine ab_fin.s2 (i := .aload_n 0) (k := 1) (pc' := 171) (lv' := [(0, .ref 0), (2, .ref l2)]) (st' := [.ref 0]) (by decide +kernel) rfl rfl ?_
  refine ab_fin.q_rI (x := (τ2.i 0 18)) (ix := 106) (ci := 24) (k := 18) (pc' := 174) (by decide +kernel) rfl (c_rI (F3.s s0_0) rfl) rfl ?_
  refine ab_fin.s2 (i := .istore_n 3) (k := 1) (pc' := 175) (lv' := [(3, .int (τ2.i 0 18)), (0, .ref 0), (2, .ref l2)]) (st' := []) (by decide +kernel) rfl rfl ?_
  refine ab_fin.s2 (i := .aload_n 0) (k := 1) (pc' := 176) (lv' := [(3, .int (τ2.i 0 18)), (0, .ref 0), (2, .ref l2)]) (st' := [.ref 0]) (by decide +kernel) rfl rfl ?_
  refine ab_fin.q_rI (x := (τ2.i 0 17)) (ix := 183) (ci := 24) (k := 17) (pc' := 179) (by decide +kernel) rfl (c_rI (F3.s s0_0) rfl) rfl ?_
  refine ab_fin.s1i (i := .iconst 2) (k := 1) (pc' := 180) (n := 2) (by decide +kernel) rfl (by decide +kernel) rfl ?_
  refine ab_fin.br (c := ¬ (τ2.i 0 17) = 2) (i := .if_icmp .ne 25) (off := 25) (t := 205) (pc' := 183) (r := []) (by decide +kernel) rfl (by decide +kernel) rfl (fun q => ?_) (fun q => ?_)
  · replace w := w.1 q
    refine ab_fin.s2 (i := .aload_n 0) (k := 1) (pc' := 206) (lv' := [(3, .int (τ2.i 0 18)), (0, .ref 0), (2, .ref l2)]) (st' := [.ref 0]) (by decide +kernel) rfl rfl ?_
    refine ab_fin.q_yI (i := .invokevirtual 388) (k := 3) (y := 5920) (As := [.ref 0]) (rest := []) (M' := (mX23_signed, [])) (lv2 := [(0, .ref 0)]) (pc' := 209) (X := K) (by decide +kernel) (ab_cv rfl rfl (conc_get (σ := τ2) (F3.s s0_0)) ⟨(Nat.le_of_ble_eq_true rfl), (Nat.le_of_ble_eq_true rfl)⟩ rfl) rfl (Nat.le_of_ble_eq_true rfl) rfl rfl (hY_no fun E => rfl) w (fun v6 τ4 F5 w => ?_)
    refine ab_fin.s1 (i := .i2l) (k := 1) (pc' := 210) (st' := [.long ((Int32.toInt64 v6))]) (by decide +kernel) rfl rfl ?_
    refine ab_fin.s2 (i := .lstore 4) (k := 2) (pc' := 212) (lv' := [(4, .long ((Int32.toInt64 v6))), (3, .int (τ2.i 0 18)), (0, .ref 0), (2, .ref l2)]) (st' := []) (by decide +kernel) rfl rfl ?_
    refine ab_fin.s2 (i := .aload_n 2) (k := 1) (pc' := 213) (lv' := [(4, .long ((Int32.toInt64 v6))), (3, .int (τ2.i 0 18)), (0, .ref 0), (2, .ref l2)]) (st' := [.ref l2]) (by decide +kernel) rfl rfl ?_
    refine ab_fin.s1 (i := .dup) (k := 1) (pc' := 214) (st' := [.ref l2, .ref l2]) (by decide +kernel) rfl rfl ?_
    obtain ⟨e7, w⟩ := w
    refine ab_fin.q_rL (x := (τ4.l l2 11)) (ix := 445) (ci := 21) (k := 11) (pc' := 217) (by decide +kernel) rfl (c_rL e7 rfl) rfl ?_
    refine ab_fin.s2 (i := .lload 4) (k := 2) (pc' := 219) (lv' := [(4, .long ((Int32.toInt64 v6))), (3, .int (τ2.i 0 18)), (0, .ref 0), (2, .ref l2)]) (st' := [.long ((Int32.toInt64 v6)), .long (τ4.l l2 11), .ref l2]) (by decide +kernel) rfl rfl ?_
    refine ab_fin.s1 (i := .lsub) (k := 1) (pc' := 220) (st' := [.long ((τ4.l l2 11) - ((Int32.toInt64 v6))), .ref l2]) (by decide +kernel) rfl rfl ?_
    refine ab_fin.q_pF (ix := 445) (ci := 21) (k := 11) (h1 := conc (τ4.wl l2 11 ((τ4.l l2 11) - ((Int32.toInt64 v6))))) (pc' := 223) (by decide +kernel) rfl (c_pL (v := ((τ4.l l2 11) - ((Int32.toInt64 v6)))) e7 rfl) rfl rfl rfl ?_
    refine ab_fin.s2 (i := .aload_n 2) (k := 1) (pc' := 224) (lv' := [(4, .long ((Int32.toInt64 v6))), (3, .int (τ2.i 0 18)), (0, .ref 0), (2, .ref l2)]) (st' := [.ref l2]) (by decide +kernel) rfl rfl ?_
    exact ab_fin.q_ret (i := .areturn) (k := 1) (v := some (.ref l2)) (by decide +kernel) rfl F5 w
  · replace w := w.2 (Decidable.of_not_not q)
    refine ab_fin.s2 (i := .aload_n 2) (k := 1) (pc' := 184) (lv' := [(3, .int (τ2.i 0 18)), (0, .ref 0), (2, .ref l2)]) (st' := [.ref l2]) (by decide +kernel) rfl rfl ?_
    refine ab_fin.s2 (i := .aload_n 0) (k := 1) (pc' := 185) (lv' := [(3, .int (τ2.i 0 18)), (0, .ref 0), (2, .ref l2)]) (st' := [.ref 0, .ref l2]) (by decide +kernel) rfl rfl ?_
    refine ab_fin.s2 (i := .aload_n 0) (k := 1) (pc' := 186) (lv' := [(3, .int (τ2.i 0 18)), (0, .ref 0), (2, .ref l2)]) (st' := [.ref 0, .ref 0, .ref l2]) (by decide +kernel) rfl rfl ?_
    refine ab_fin.q_yI (i := .invokevirtual 277) (k := 3) (y := 5909) (As := [.ref 0]) (rest := [.ref 0, .ref l2]) (M' := (mX23_name, [])) (lv2 := [(0, .ref 0)]) (pc' := 189) (X := K) (by decide +kernel) (ab_cv rfl rfl (conc_get (σ := τ2) (F3.s s0_0)) ⟨(Nat.le_of_ble_eq_true rfl), (Nat.le_of_ble_eq_true rfl)⟩ rfl) rfl (Nat.le_of_ble_eq_true rfl) rfl rfl (hY_no fun E => rfl) w (fun v10 τ8 F9 w => ?_)
    refine ab_fin.s2 (i := .iload_n 3) (k := 1) (pc' := 190) (lv' := [(3, .int (τ2.i 0 18)), (0, .ref 0), (2, .ref l2)]) (st' := [.int (τ2.i 0 18), .int v10, .ref 0, .ref l2]) (by decide +kernel) rfl rfl ?_
    refine ab_fin.q_yI (i := .invokevirtual 426) (k := 3) (y := 5925) (As := [.ref 0, .int v10, .int (τ2.i 0 18)]) (rest := [.ref l2]) (M' := (mX23_spec, [])) (lv2 := [(0, .ref 0), (1, .int v10), (2, .int (τ2.i 0 18))]) (pc' := 193) (X := K) (by decide +kernel) (ab_cv rfl rfl (conc_get (σ := τ8) (F9.s s0_0)) ⟨(Nat.le_of_ble_eq_true rfl), (Nat.le_of_ble_eq_true rfl)⟩ rfl) rfl (Nat.le_of_ble_eq_true rfl) rfl rfl (hY_no fun E => rfl) w (fun v13 τ11 F12 w => ?_)
    obtain ⟨e14, w⟩ := w
    refine ab_fin.q_pF (ix := 450) (ci := 21) (k := 10) (h1 := conc (τ11.wi l2 10 v13)) (pc' := 196) (by decide +kernel) rfl (c_pI (v := v13) e14 rfl) rfl rfl rfl ?_
    refine ab_fin.s2 (i := .aload_n 0) (k := 1) (pc' := 197) (lv' := [(3, .int (τ2.i 0 18)), (0, .ref 0), (2, .ref l2)]) (st' := [.ref 0]) (by decide +kernel) rfl rfl ?_
    refine ab_fin.q_yL (i := .invokevirtual 442) (k := 3) (y := 5929) (As := [.ref 0]) (rest := []) (M' := (mX23_behind, [])) (lv2 := [(0, .ref 0)]) (pc' := 200) (X := K) (by decide +kernel) (ab_cv rfl rfl (conc_get (σ := (τ11.wi l2 10 v13)) (F12.s s0_0)) ⟨(Nat.le_of_ble_eq_true rfl), (Nat.le_of_ble_eq_true rfl)⟩ rfl) rfl (Nat.le_of_ble_eq_true rfl) rfl rfl (hY_no fun E => rfl) w (fun v17 τ15 F16 w => ?_)
    refine ab_fin.s2 (i := .lstore 4) (k := 2) (pc' := 202) (lv' := [(4, .long v17), (3, .int (τ2.i 0 18)), (0, .ref 0), (2, .ref l2)]) (st' := []) (by decide +kernel) rfl rfl ?_
    refine ab_fin.s3 (i := .goto 10) (k := 3) (t := 212) (st' := []) (by decide +kernel) (ab_gto (by decide +kernel)) ?_
    refine ab_fin.s2 (i := .aload_n 2) (k := 1) (pc' := 213) (lv' := [(4, .long v17), (3, .int (τ2.i 0 18)), (0, .ref 0), (2, .ref l2)]) (st' := [.ref l2]) (by decide +kernel) rfl rfl ?_
    refine ab_fin.s1 (i := .dup) (k := 1) (pc' := 214) (st' := [.ref l2, .ref l2]) (by decide +kernel) rfl rfl ?_
    obtain ⟨e18, w⟩ := w
    refine ab_fin.q_rL (x := (τ15.l l2 11)) (ix := 445) (ci := 21) (k := 11) (pc' := 217) (by decide +kernel) rfl (c_rL e18 rfl) rfl ?_
    refine ab_fin.s2 (i := .lload 4) (k := 2) (pc' := 219) (lv' := [(4, .long v17), (3, .int (τ2.i 0 18)), (0, .ref 0), (2, .ref l2)]) (st' := [.long v17, .long (τ15.l l2 11), .ref l2]) (by decide +kernel) rfl rfl ?_
    refine ab_fin.s1 (i := .lsub) (k := 1) (pc' := 220) (st' := [.long ((τ15.l l2 11) - v17), .ref l2]) (by decide +kernel) rfl rfl ?_
    refine ab_fin.q_pF (ix := 445) (ci := 21) (k := 11) (h1 := conc (τ15.wl l2 11 ((τ15.l l2 11) - v17))) (pc' := 223) (by decide +kernel) rfl (c_pL (v := ((τ15.l l2 11) - v17)) e18 rfl) rfl rfl rfl ?_
    refine ab_fin.s2 (i := .aload_n 2) (k := 1) (pc' := 224) (lv' := [(4, .long v17), (3, .int (τ2.i 0 18)), (0, .ref 0), (2, .ref l2)]) (st' := [.ref l2]) (by decide +kernel) rfl rfl ?_
    exact ab_fin.q_ret (i := .areturn) (k := 1) (v := some (.ref l2)) (by decide +kernel) rfl F16 w

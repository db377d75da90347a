/-! LISTS OF NODES: pieces of the library (printed by sgenL.py) -/
def B_J8_hugeLength_7cf53_0 (Z : zT) (d : Nat) (σ : Sg) (l0 : Int32) (l1 : Int32) (K : kS) : Prop := ab_fin (hb_Gz Z.1 (some Z.2)) hb_GT d (mJ8_hugeLength_7cf53, []) 0 [(0, .int l0), (1, .int l1)] [] (conc σ) (lf ΦR K)
def B_J3_checkIndex_8e157_0 (Z : zT) (d : Nat) (σ : Sg) (l0 : Int32) (l1 : Int32) (l2 : Rf) (K : kS) : Prop := ab_fin (hb_Gz Z.1 (some Z.2)) hb_GT d (mJ3_checkIndex_8e157, []) 0 [(0, .int l0), (1, .int l1), (2, rv l2)] [] (conc σ) (lf ΦR K)
def B_J15_checkIndex_7cf53_0 (Z : zT) (d : Nat) (σ : Sg) (l0 : Int32) (l1 : Int32) (K : kS) : Prop := ab_fin (hb_Gz Z.1 (some Z.2)) hb_GT d (mJ15_checkIndex_7cf53, []) 0 [(0, .int l0), (1, .int l1)] [] (conc σ) (lf ΦR K)
def B_J8_newLength_cabcc_0 (Z : zT) (d : Nat) (σ : Sg) (l0 : Int32) (l1 : Int32) (l2 : Int32) (K : kS) : Prop := ab_fin (hb_Gz Z.1 (some Z.2)) hb_GT d (mJ8_newLength_cabcc, []) 0 [(0, .int l0), (1, .int l1), (2, .int l2)] [] (conc σ) (lf ΦR K)
def B_J7_copyOf_6403c_0 (Z : zT) (d : Nat) (σ : Sg) (l0 : Rf) (l1 : Int32) (l2 : Rf) (K : kS) : Prop := ab_fin (hb_Gz Z.1 (some Z.2)) hb_GT d (mJ7_copyOf_6403c, []) 0 [(0, rv l0), (1, .int l1), (2, rv l2)] [] (conc σ) (lf ΦR K)
def B_J7_copyOf_6403c_24 (Z : zT) (d : Nat) (σ : Sg) (l0 : Rf) (l1 : Int32) (s0 : Nat) (K : kS) : Prop := ab_fin (hb_Gz Z.1 (some Z.2)) hb_GT d (mJ7_copyOf_6403c, []) 24 [(0, rv l0), (1, .int l1)] [.ref s0] (conc σ) (lf ΦR K)
def B_J7_copyOf_1904c_0 (Z : zT) (d : Nat) (σ : Sg) (l0 : Rf) (l1 : Int32) (K : kS) : Prop := ab_fin (hb_Gz Z.1 (some Z.2)) hb_GT d (mJ7_copyOf_1904c, []) 0 [(0, rv l0), (1, .int l1)] [] (conc σ) (lf ΦR K)
def B_Jx4a65c_elementData_915e3_0 (Z : zT) (d : Nat) (σ : Sg) (l0 : Nat) (l1 : Int32) (K : kS) : Prop := ab_fin (hb_Gz Z.1 (some Z.2)) hb_GT d (mJx4a65c_elementData_915e3, []) 0 [(0, .ref l0), (1, .int l1)] [] (conc σ) (lf ΦR K)
def B_Jx4a65c_grow_92f84_0 (Z : zT) (d : Nat) (σ : Sg) (l0 : Nat) (l1 : Int32) (K : kS) : Prop := ab_fin (hb_Gz Z.1 (some Z.2)) hb_GT d (mJx4a65c_grow_92f84, []) 0 [(0, .ref l0), (1, .int l1)] [] (conc σ) (lf ΦR K)
def B_Jx4a65c_grow_92f84_20 (Z : zT) (d : Nat) (σ : Sg) (l0 : Nat) (l1 : Int32) (l2 : Int32) (K : kS) : Prop := ab_fin (hb_Gz Z.1 (some Z.2)) hb_GT d (mJx4a65c_grow_92f84, []) 20 [(0, .ref l0), (1, .int l1), (2, .int l2)] [] (conc σ) (lf ΦR K)
def B_Jx4a65c_grow_d5877_0 (Z : zT) (d : Nat) (σ : Sg) (l0 : Nat) (K : kS) : Prop := ab_fin (hb_Gz Z.1 (some Z.2)) hb_GT d (mJx4a65c_grow_d5877, []) 0 [(0, .ref l0)] [] (conc σ) (lf ΦR K)
def B_Jx4a65c_add_72be8_0 (Z : zT) (d : Nat) (σ : Sg) (l0 : Nat) (l1 : Rf) (l2 : Rf) (l3 : Int32) (K : kS) : Prop := ab_fin (hb_Gz Z.1 (some Z.2)) hb_GT d (mJx4a65c_add_72be8, []) 0 [(0, .ref l0), (1, rv l1), (2, rv l2), (3, .int l3)] [] (conc σ) (lf ΦR K)
def B_X21_get_29 (Z : zT) (d : Nat) (σ : Sg) (l0 : Nat) (l1 : Int32) (K : kS) : Prop := ab_fin (hb_Gz Z.1 (some Z.2)) hb_GT d (mX21_get, []) 29 [(0, .ref l0), (1, .int l1)] [] (conc σ) (lf ΦR K)
theorem S_J3_checkIndex_8e157_0 {Z : zT} {d : Nat} {σ : Sg} {l0 : Int32} {l1 : Int32} {l2 : Rf} {K : kS} (F : FX ΦR σ.sh σ.r) (w : (l0 < 0 → False) ∧ (¬ l0 < 0 → (l0 < l1 → K (.inl (some (.int l0))) σ) ∧ (¬ l0 < l1 → False))) : B_J3_checkIndex_8e157_0 Z (d + 1) σ l0 l1 l2 K := by
  unfold B_J3_checkIndex_8e157_0
  refine ab_fin.s2 (i := .iload_n 0) (k := 1) (pc' := 1) (lv' := [(0, .int l0), (1, .int l1), (2, rv l2)]) (st' := [.int l0]) (by decide +kernel) rfl rfl ?_
  refine ab_fin.br (c := l0 < 0) (i := .ifCond .lt 8) (off := 8) (t := 9) (pc' := 4) (r := []) (by decide +kernel) rfl (by decide +kernel) rfl (fun q => ?_) (fun q => ?_)
  · replace w := w.1 q
    refine ab_fin.ald (i := .aload_n 2) (n := 2) (k := 1) (pc' := 10) (Or.inl ⟨_, rfl, rfl, rfl⟩) (by decide +kernel) rfl (oR_rv _) rfl ?_
    refine ab_fin.s2 (i := .iload_n 0) (k := 1) (pc' := 11) (lv' := [(0, .int l0), (1, .int l1), (2, rv l2)]) (st' := [.int l0, rv l2]) (by decide +kernel) rfl rfl ?_
    refine ab_fin.s2 (i := .iload_n 1) (k := 1) (pc' := 12) (lv' := [(0, .int l0), (1, .int l1), (2, rv l2)]) (st' := [.int l1, .int l0, rv l2]) (by decide +kernel) rfl rfl ?_
    cases w
  · replace w := w.2 q
    refine ab_fin.s2 (i := .iload_n 0) (k := 1) (pc' := 5) (lv' := [(0, .int l0), (1, .int l1), (2, rv l2)]) (st' := [.int l0]) (by decide +kernel) rfl rfl ?_
    refine ab_fin.s2 (i := .iload_n 1) (k := 1) (pc' := 6) (lv' := [(0, .int l0), (1, .int l1), (2, rv l2)]) (st' := [.int l1, .int l0]) (by decide +kernel) rfl rfl ?_
    refine ab_fin.br (c := l0 < l1) (i := .if_icmp .lt 10) (off := 10) (t := 16) (pc' := 9) (r := []) (by decide +kernel) rfl (by decide +kernel) rfl (fun q => ?_) (fun q => ?_)
    · replace w := w.1 q
      refine ab_fin.s2 (i := .iload_n 0) (k := 1) (pc' := 17) (lv' := [(0, .int l0), (1, .int l1), (2, rv l2)]) (st' := [.int l0]) (by decide +kernel) rfl rfl ?_
      exact ab_fin.q_ret (i := .ireturn) (k := 1) (v := some (.int l0)) (by decide +kernel) rfl F w
    · replace w := w.2 q
      refine ab_fin.ald (i := .aload_n 2) (n := 2) (k := 1) (pc' := 10) (Or.inl ⟨_, rfl, rfl, rfl⟩) (by decide +kernel) rfl (oR_rv _) rfl ?_
      refine ab_fin.s2 (i := .iload_n 0) (k := 1) (pc' := 11) (lv' := [(0, .int l0), (1, .int l1), (2, rv l2)]) (st' := [.int l0, rv l2]) (by decide +kernel) rfl rfl ?_
      refine ab_fin.s2 (i := .iload_n 1) (k := 1) (pc' := 12) (lv' := [(0, .int l0), (1, .int l1), (2, rv l2)]) (st' := [.int l1, .int l0, rv l2]) (by decide +kernel) rfl rfl ?_
      cases w
theorem S_J15_checkIndex_7cf53_0 {Z : zT} {d : Nat} {σ : Sg} {l0 : Int32} {l1 : Int32} {K : kS} (F : FX ΦR σ.sh σ.r) (w : B_J3_checkIndex_8e157_0 Z d σ l0 l1 Rf.nul (yI K fun v3 τ1 => K (.inl (some (.int v3))) τ1)) : B_J15_checkIndex_7cf53_0 Z (d + 1) σ l0 l1 K := by
  unfold B_J15_checkIndex_7cf53_0
  refine ab_fin.s2 (i := .iload_n 0) (k := 1) (pc' := 1) (lv' := [(0, .int l0), (1, .int l1)]) (st' := [.int l0]) (by decide +kernel) rfl rfl ?_
  refine ab_fin.s2 (i := .iload_n 1) (k := 1) (pc' := 2) (lv' := [(0, .int l0), (1, .int l1)]) (st' := [.int l1, .int l0]) (by decide +kernel) rfl rfl ?_
  refine ab_fin.s1 (i := .aconst_null) (k := 1) (pc' := 3) (st' := [.null, .int l1, .int l0]) (by decide +kernel) rfl rfl ?_
  refine ab_fin.q_yI (i := .invokestatic 105) (k := 3) (y := 13056) (As := [.int l0, .int l1, .null]) (rest := []) (M' := (mJ3_checkIndex_8e157, [])) (lv2 := [(0, .int l0), (1, .int l1), (2, .null)]) (pc' := 6) (X := K) (by decide +kernel) (ab_cs rfl rfl ⟨(Nat.le_of_ble_eq_true rfl), (Nat.le_of_ble_eq_true rfl)⟩ rfl) rfl (Nat.le_of_ble_eq_true rfl) rfl rfl (hY_no fun E => rfl) w (fun v3 τ1 F2 w => ?_)
  exact ab_fin.q_ret (i := .ireturn) (k := 1) (v := some (.int v3)) (by decide +kernel) rfl F2 w
theorem S_J8_newLength_cabcc_0 {Z : zT} {d : Nat} {σ : Sg} {l0 : Int32} {l1 : Int32} {l2 : Int32} {K : kS} (F : FX ΦR σ.sh σ.r) (w : ((l0 + (if l1 < l2 then l2 else l1)) ≤ (0 : Int32) → B_J8_hugeLength_7cf53_0 Z d σ l0 l1 (yI K fun v3 τ1 => K (.inl (some (.int v3))) τ1)) ∧ (¬ (l0 + (if l1 < l2 then l2 else l1)) ≤ (0 : Int32) → (2147483639 < (l0 + (if l1 < l2 then l2 else l1)) → B_J8_hugeLength_7cf53_0 Z d σ l0 l1 (yI K fun v6 τ4 => K (.inl (some (.int v6))) τ4)) ∧ (¬ 2147483639 < (l0 + (if l1 < l2 then l2 else l1)) → K (.inl (some (.int (l0 + (if l1 < l2 then l2 else l1))))) σ))) : B_J8_newLength_cabcc_0 Z (d + 1) σ l0 l1 l2 K := by
  unfold B_J8_newLength_cabcc_0
  refine ab_fin.s2 (i := .iload_n 0) (k := 1) (pc' := 1) (lv' := [(0, .int l0), (1, .int l1), (2, .int l2)]) (st' := [.int l0]) (by decide +kernel) rfl rfl ?_
  refine ab_fin.s2 (i := .iload_n 1) (k := 1) (pc' := 2) (lv' := [(0, .int l0), (1, .int l1), (2, .int l2)]) (st' := [.int l1, .int l0]) (by decide +kernel) rfl rfl ?_
  refine ab_fin.s2 (i := .iload_n 2) (k := 1) (pc' := 3) (lv' := [(0, .int l0), (1, .int l1), (2, .int l2)]) (st' := [.int l2, .int l1, .int l0]) (by decide +kernel) rfl rfl ?_
  refine ab_fin.cpy (i := .invokestatic 194) (k := 3) (pc' := 6) (h1 := conc σ) (st' := [.int (if l1 < l2 then l2 else l1), .int l0]) (by decide +kernel) rfl rfl ?_
  refine ab_fin.s1 (i := .iadd) (k := 1) (pc' := 7) (st' := [.int (l0 + (if l1 < l2 then l2 else l1))]) (by decide +kernel) rfl rfl ?_
  refine ab_fin.s2 (i := .istore_n 3) (k := 1) (pc' := 8) (lv' := [(3, .int (l0 + (if l1 < l2 then l2 else l1))), (0, .int l0), (1, .int l1), (2, .int l2)]) (st' := []) (by decide +kernel) rfl rfl ?_
  refine ab_fin.s1i (i := .iconst 0) (k := 1) (pc' := 9) (n := 0) (by decide +kernel) rfl (by decide +kernel) rfl ?_
  refine ab_fin.s2 (i := .iload_n 3) (k := 1) (pc' := 10) (lv' := [(3, .int (l0 + (if l1 < l2 then l2 else l1))), (0, .int l0), (1, .int l1), (2, .int l2)]) (st' := [.int (l0 + (if l1 < l2 then l2 else l1)), .int 0]) (by decide +kernel) rfl rfl ?_
  refine ab_fin.br (c := (l0 + (if l1 < l2 then l2 else l1)) ≤ (0 : Int32)) (i := .if_icmp .ge 11) (off := 11) (t := 21) (pc' := 13) (r := []) (by decide +kernel) rfl (by decide +kernel) rfl (fun q => ?_) (fun q => ?_)
  · replace w := w.1 q
    refine ab_fin.s2 (i := .iload_n 0) (k := 1) (pc' := 22) (lv' := [(3, .int (l0 + (if l1 < l2 then l2 else l1))), (0, .int l0), (1, .int l1), (2, .int l2)]) (st' := [.int l0]) (by decide +kernel) rfl rfl ?_
    refine ab_fin.s2 (i := .iload_n 1) (k := 1) (pc' := 23) (lv' := [(3, .int (l0 + (if l1 < l2 then l2 else l1))), (0, .int l0), (1, .int l1), (2, .int l2)]) (st' := [.int l1, .int l0]) (by decide +kernel) rfl rfl ?_
    refine ab_fin.q_yI (i := .invokestatic 201) (k := 3) (y := 12801) (As := [.int l0, .int l1]) (rest := []) (M' := (mJ8_hugeLength_7cf53, [])) (lv2 := [(0, .int l0), (1, .int l1)]) (pc' := 26) (X := K) (by decide +kernel) (ab_cs rfl rfl ⟨(Nat.le_of_ble_eq_true rfl), (Nat.le_of_ble_eq_true rfl)⟩ rfl) rfl (Nat.le_of_ble_eq_true rfl) rfl rfl (hY_no fun E => rfl) w (fun v3 τ1 F2 w => ?_)
    exact ab_fin.q_ret (i := .ireturn) (k := 1) (v := some (.int v3)) (by decide +kernel) rfl F2 w
  · replace w := w.2 q
    refine ab_fin.s2 (i := .iload_n 3) (k := 1) (pc' := 14) (lv' := [(3, .int (l0 + (if l1 < l2 then l2 else l1))), (0, .int l0), (1, .int l1), (2, .int l2)]) (st' := [.int (l0 + (if l1 < l2 then l2 else l1))]) (by decide +kernel) rfl rfl ?_
    refine ab_fin.s7 (i := .ldc 200) (k := 2) (pc' := 16) (st' := [.int 2147483639, .int (l0 + (if l1 < l2 then l2 else l1))]) (by decide +kernel) rfl rfl ?_
    refine ab_fin.br (c := 2147483639 < (l0 + (if l1 < l2 then l2 else l1))) (i := .if_icmp .gt 5) (off := 5) (t := 21) (pc' := 19) (r := []) (by decide +kernel) rfl (by decide +kernel) rfl (fun q => ?_) (fun q => ?_)
    · replace w := w.1 q
      refine ab_fin.s2 (i := .iload_n 0) (k := 1) (pc' := 22) (lv' := [(3, .int (l0 + (if l1 < l2 then l2 else l1))), (0, .int l0), (1, .int l1), (2, .int l2)]) (st' := [.int l0]) (by decide +kernel) rfl rfl ?_
      refine ab_fin.s2 (i := .iload_n 1) (k := 1) (pc' := 23) (lv' := [(3, .int (l0 + (if l1 < l2 then l2 else l1))), (0, .int l0), (1, .int l1), (2, .int l2)]) (st' := [.int l1, .int l0]) (by decide +kernel) rfl rfl ?_
      refine ab_fin.q_yI (i := .invokestatic 201) (k := 3) (y := 12801) (As := [.int l0, .int l1]) (rest := []) (M' := (mJ8_hugeLength_7cf53, [])) (lv2 := [(0, .int l0), (1, .int l1)]) (pc' := 26) (X := K) (by decide +kernel) (ab_cs rfl rfl ⟨(Nat.le_of_ble_eq_true rfl), (Nat.le_of_ble_eq_true rfl)⟩ rfl) rfl (Nat.le_of_ble_eq_true rfl) rfl rfl (hY_no fun E => rfl) w (fun v6 τ4 F5 w => ?_)
      exact ab_fin.q_ret (i := .ireturn) (k := 1) (v := some (.int v6)) (by decide +kernel) rfl F5 w
    · replace w := w.2 q
      refine ab_fin.s2 (i := .iload_n 3) (k := 1) (pc' := 20) (lv' := [(3, .int (l0 + (if l1 < l2 then l2 else l1))), (0, .int l0), (1, .int l1), (2, .int l2)]) (st' := [.int (l0 + (if l1 < l2 then l2 else l1))]) (by decide +kernel) rfl rfl ?_
      exact ab_fin.q_ret (i := .ireturn) (k := 1) (v := some (.int (l0 + (if l1 < l2 then l2 else l1)))) (by decide +kernel) rfl F w
theorem S_J7_copyOf_6403c_0 {Z : zT} {d : Nat} {σ : Sg} {l0 : Rf} {l1 : Int32} {l2 : Rf} {K : kS} (F : FX ΦR σ.sh σ.r) (w : l2 = Rf.old 8 ∧ (¬ (l1 < 0 ∨ 60000000 < l1.toNatClampNeg) ∧ (B_J7_copyOf_6403c_24 Z (d + 1) (σ.al (Sh.arr 14 l1.toNatClampNeg)) l0 l1 σ.sh.length K))) : B_J7_copyOf_6403c_0 Z (d + 1) σ l0 l1 l2 K := by
  unfold B_J7_copyOf_6403c_0
  refine ab_fin.ald (i := .aload_n 2) (n := 2) (k := 1) (pc' := 1) (Or.inl ⟨_, rfl, rfl, rfl⟩) (by decide +kernel) rfl (oR_rv _) rfl ?_
  refine ab_fin.s8 (i := .ldc 110) (k := 2) (pc' := 3) (st' := [.retAddr 8, rv l2]) (by decide +kernel) rfl rfl rfl rfl ?_
  obtain ⟨e1, w⟩ := w
  rw [show rv l2 = .retAddr 8 from by rw [e1]; rfl]
  refine ab_fin.s9h (i := .if_acmp .ne 10) (k := 3) (pc' := 6) (st' := []) rfl (by decide +kernel) rfl ?_
  refine ab_fin.s2 (i := .iload_n 1) (k := 1) (pc' := 7) (lv' := [(0, rv l0), (1, .int l1), (2, .retAddr 8)]) (st' := [.int l1]) (by decide +kernel) rfl rfl ?_
  obtain ⟨e2, w⟩ := w
  have F3 := FX.al (s := Sh.arr 14 l1.toNatClampNeg) hΦR (σ := σ) F
  refine ab_fin.newR (ix := 2) (t := 14) (n := σ.sh.length) (h1 := conc (σ.al (Sh.arr 14 l1.toNatClampNeg))) (pc' := 10) (by decide +kernel) rfl e2 rfl (conc_len _) (conc_alR _ _).symm rfl ?_
  refine ab_fin.s3 (i := .goto 14) (k := 3) (t := 24) (st' := [.ref σ.sh.length]) (by decide +kernel) (ab_gto (by decide +kernel)) ?_
  exact ab_fin.lv ⟨(List.forall_mem_cons.mpr ⟨(List.Mem.head _), (List.forall_mem_cons.mpr ⟨(List.Mem.tail _ (List.Mem.head _)), (fun _ h => absurd h List.not_mem_nil)⟩)⟩), (show ([0, 1, 2] : List Nat).Nodup from by decide)⟩ w
theorem S_J7_copyOf_6403c_24 {Z : zT} {d : Nat} {σ : Sg} {l0 : Rf} {l1 : Int32} {s0 : Nat} {K : kS} (F : FX ΦR σ.sh σ.r) (w : ((∃ b1, l0 = Rf.ptr b1 ∧ (∃ n4, σ.sh[b1]? = some (Sh.arr 14 n4) ∧ (∃ n6, σ.sh[s0]? = some (Sh.arr 14 n6) ∧ (cpb (0 : Int32) (0 : Int32) (if l1 < (Int32.ofNat n4) then l1 else (Int32.ofNat n4)) n4 n6 ∧ ndA σ b1 n4 ∧ (K (.inl (some (.ref s0))) (σ.cpR b1 ((0 : Int32).toNatClampNeg) s0 ((0 : Int32).toNatClampNeg) ((if l1 < (Int32.ofNat n4) then l1 else (Int32.ofNat n4)).toNatClampNeg))))))) ∨ (l0 = Rf.old 7 ∧ (∃ n11, σ.sh[s0]? = some (Sh.arr 14 n11) ∧ (False))))) : B_J7_copyOf_6403c_24 Z (d + 1) σ l0 l1 s0 K := by
  unfold B_J7_copyOf_6403c_24
  refine ab_fin.s2 (i := .astore_n 3) (k := 1) (pc' := 25) (lv' := [(3, .ref s0), (0, rv l0), (1, .int l1)]) (st' := []) (by decide +kernel) rfl rfl ?_
  refine ab_fin.ald (i := .aload_n 0) (n := 0) (k := 1) (pc' := 26) (Or.inl ⟨_, rfl, rfl, rfl⟩) (by decide +kernel) rfl (oR_rv _) rfl ?_
  refine ab_fin.s1i (i := .iconst 0) (k := 1) (pc' := 27) (n := 0) (by decide +kernel) rfl (by decide +kernel) rfl ?_
  refine ab_fin.s2 (i := .aload_n 3) (k := 1) (pc' := 28) (lv' := [(3, .ref s0), (0, rv l0), (1, .int l1)]) (st' := [.ref s0, .int 0, rv l0]) (by decide +kernel) rfl rfl ?_
  refine ab_fin.s1i (i := .iconst 0) (k := 1) (pc' := 29) (n := 0) (by decide +kernel) rfl (by decide +kernel) rfl ?_
  refine ab_fin.ald (i := .aload_n 0) (n := 0) (k := 1) (pc' := 30) (Or.inl ⟨_, rfl, rfl, rfl⟩) (by decide +kernel) rfl (oR_rv _) rfl ?_
  rcases w with ⟨b1, e2, w⟩ | ⟨e2, w⟩
  · rw [show rv l0 = .ref b1 from by rw [e2]; rfl]
    obtain ⟨n4, e3, w⟩ := w
    refine ab_fin.q_eN (n := (Int32.ofNat n4)) (pc' := 31) (by decide +kernel) (c_eN' e3 (Or.inr rfl) rfl) rfl ?_
    refine ab_fin.s2 (i := .iload_n 1) (k := 1) (pc' := 32) (lv' := [(3, .ref s0), (0, .ref b1), (1, .int l1)]) (st' := [.int l1, .int (Int32.ofNat n4), .int 0, .ref s0, .int 0, .ref b1]) (by decide +kernel) rfl rfl ?_
    refine ab_fin.cpy (i := .invokestatic 304) (k := 3) (pc' := 35) (h1 := conc σ) (st' := [.int (if l1 < (Int32.ofNat n4) then l1 else (Int32.ofNat n4)), .int 0, .ref s0, .int 0, .ref b1]) (by decide +kernel) rfl rfl ?_
    obtain ⟨n6, e5, w⟩ := w
    obtain ⟨e7, e8, w⟩ := w
    have F9 := FX.cpR (σ := σ) (a0 := b1) (sp := ((0 : Int32).toNatClampNeg)) (a := s0) (dp := ((0 : Int32).toNatClampNeg)) (n := ((if l1 < (Int32.ofNat n4) then l1 else (Int32.ofNat n4)).toNatClampNeg)) F (fun k => cD14 (k := k) F e5)
    refine ab_fin.cpy (i := .invokestatic 150) (k := 3) (pc' := 38) (h1 := conc (σ.cpR b1 ((0 : Int32).toNatClampNeg) s0 ((0 : Int32).toNatClampNeg) ((if l1 < (Int32.ofNat n4) then l1 else (Int32.ofNat n4)).toNatClampNeg))) (st' := []) (by decide +kernel) (c_cpR rfl e3 e5 e7 e8 (by decide)) rfl ?_
    refine ab_fin.s2 (i := .aload_n 3) (k := 1) (pc' := 39) (lv' := [(3, .ref s0), (0, .ref b1), (1, .int l1)]) (st' := [.ref s0]) (by decide +kernel) rfl rfl ?_
    exact ab_fin.q_ret (i := .areturn) (k := 1) (v := some (.ref s0)) (by decide +kernel) rfl F9 w
  · rw [show rv l0 = .retAddr 7 from by rw [e2]; rfl]
    refine ab_fin.s8 (i := .arraylength) (k := 1) (pc' := 31) (st' := [.int 0, .int 0, .ref s0, .int 0, .retAddr 7]) (by decide +kernel) rfl rfl rfl rfl ?_
    refine ab_fin.s2 (i := .iload_n 1) (k := 1) (pc' := 32) (lv' := [(3, .ref s0), (0, .retAddr 7), (1, .int l1)]) (st' := [.int l1, .int 0, .int 0, .ref s0, .int 0, .retAddr 7]) (by decide +kernel) rfl rfl ?_
    refine ab_fin.cpy (i := .invokestatic 304) (k := 3) (pc' := 35) (h1 := conc σ) (st' := [.int (if l1 < (0 : Int32) then l1 else (0 : Int32)), .int 0, .ref s0, .int 0, .retAddr 7]) (by decide +kernel) rfl rfl ?_
    obtain ⟨n11, e10, w⟩ := w
    cases w
theorem S_J7_copyOf_1904c_0 {Z : zT} {d : Nat} {σ : Sg} {l0 : Rf} {l1 : Int32} {K : kS} (F : FX ΦR σ.sh σ.r) (w : ∃ b1, l0 = Rf.ptr b1 ∧ (∃ n4, σ.sh[b1]? = some (Sh.arr 14 n4) ∧ (B_J7_copyOf_6403c_0 Z d σ (Rf.ptr b1) l1 (Rf.old 8) (yW K fun v7 τ5 => K (.inl (some (rv v7))) τ5)))) : B_J7_copyOf_1904c_0 Z (d + 1) σ l0 l1 K := by
  unfold B_J7_copyOf_1904c_0
  refine ab_fin.ald (i := .aload_n 0) (n := 0) (k := 1) (pc' := 1) (Or.inl ⟨_, rfl, rfl, rfl⟩) (by decide +kernel) rfl (oR_rv _) rfl ?_
  refine ab_fin.s2 (i := .iload_n 1) (k := 1) (pc' := 2) (lv' := [(0, rv l0), (1, .int l1)]) (st' := [.int l1, rv l0]) (by decide +kernel) rfl rfl ?_
  refine ab_fin.ald (i := .aload_n 0) (n := 0) (k := 1) (pc' := 3) (Or.inl ⟨_, rfl, rfl, rfl⟩) (by decide +kernel) rfl (oR_rv _) rfl ?_
  obtain ⟨b1, e2, w⟩ := w
  rw [show rv l0 = .ref b1 from by rw [e2]; rfl]
  obtain ⟨n4, e3, w⟩ := w
  refine ab_fin.cpy (i := .invokevirtual 86) (k := 3) (pc' := 6) (h1 := conc σ) (st' := [.retAddr 8, .int l1, .ref b1]) (by decide +kernel) (c_gc rfl e3 (Nat.le_of_ble_eq_true rfl)) rfl ?_
  refine ab_fin.q_yW (i := .invokestatic 300) (k := 3) (y := 11267) (As := [.ref b1, .int l1, .retAddr 8]) (rest := []) (M' := (mJ7_copyOf_6403c, [])) (lv2 := [(0, .ref b1), (1, .int l1), (2, .retAddr 8)]) (pc' := 9) (X := K) (by decide +kernel) (ab_cs rfl rfl ⟨(Nat.le_of_ble_eq_true rfl), (Nat.le_of_ble_eq_true rfl)⟩ rfl) rfl (Nat.le_of_ble_eq_true rfl) rfl rfl (hY_no fun E => rfl) w (fun v7 τ5 F6 w => ?_)
  exact ab_fin.q_ret (i := .areturn) (k := 1) (v := some (rv v7)) (by decide +kernel) (ret_B (oR_rv _)) F6 w
theorem S_Jx4a65c_size_8abf5_0 {Z : zT} {d : Nat} {σ : Sg} {l0 : Nat} {K : kS} (F : FX ΦR σ.sh σ.r) (w : σ.sh[l0]? = some (Sh.obj 0) ∧ (K (.inl (some (.int (σ.i l0 2)))) σ)) : B_Jx4a65c_size_8abf5_0 Z (d + 1) σ l0 K := by
  unfold B_Jx4a65c_size_8abf5_0
  refine ab_fin.s2 (i := .aload_n 0) (k := 1) (pc' := 1) (lv' := [(0, .ref l0)]) (st' := [.ref l0]) (by decide +kernel) rfl rfl ?_
  obtain ⟨e1, w⟩ := w
  refine ab_fin.q_rI (x := (σ.i l0 2)) (ix := 48) (ci := 0) (k := 2) (pc' := 4) (by decide +kernel) rfl (c_rI e1 rfl) rfl ?_
  exact ab_fin.q_ret (i := .ireturn) (k := 1) (v := some (.int (σ.i l0 2))) (by decide +kernel) rfl F w
theorem S_Jx4a65c_elementData_915e3_0 {Z : zT} {d : Nat} {σ : Sg} {l0 : Nat} {l1 : Int32} {K : kS} (F : FX ΦR σ.sh σ.r) (w : σ.sh[l0]? = some (Sh.obj 0) ∧ (∃ b2, (σ.r l0 1) = Rf.ptr b2 ∧ (∃ n5, σ.sh[b2]? = some (Sh.arr 14 n5) ∧ (ib l1 n5 ∧ ∃ b7, (σ.r b2 l1.toNatClampNeg) = Rf.ptr b7 ∧ (K (.inl (some (.ref b7))) σ))))) : B_Jx4a65c_elementData_915e3_0 Z (d + 1) σ l0 l1 K := by
  unfold B_Jx4a65c_elementData_915e3_0
  refine ab_fin.s2 (i := .aload_n 0) (k := 1) (pc' := 1) (lv' := [(0, .ref l0), (1, .int l1)]) (st' := [.ref l0]) (by decide +kernel) rfl rfl ?_
  obtain ⟨e1, w⟩ := w
  refine ab_fin.q_rV (v := rv (σ.r l0 1)) (ix := 9) (ci := 0) (k := 1) (pc' := 4) (by decide +kernel) rfl (c_rV e1 rfl) rfl ?_
  refine ab_fin.s2 (i := .iload_n 1) (k := 1) (pc' := 5) (lv' := [(0, .ref l0), (1, .int l1)]) (st' := [.int l1, rv (σ.r l0 1)]) (by decide +kernel) rfl rfl ?_
  obtain ⟨b2, e3, w⟩ := w
  rw [show rv (σ.r l0 1) = .ref b2 from by rw [e3]; rfl]
  obtain ⟨n5, e4, w⟩ := w
  obtain ⟨e6, w⟩ := w
  obtain ⟨b7, e8, w⟩ := w
  refine ab_fin.q_eA (b := b7) (pc' := 6) (by decide +kernel) (c_eA' e4 (by decide) rfl e6 rfl e8) rfl ?_
  exact ab_fin.q_ret (i := .areturn) (k := 1) (v := some (.ref b7)) (by decide +kernel) rfl F w
theorem S_Jx4a65c_get_915e3_0 {Z : zT} {d : Nat} {σ : Sg} {l0 : Nat} {l1 : Int32} {K : kS} (F : FX ΦR σ.sh σ.r) (w : σ.sh[l0]? = some (Sh.obj 0) ∧ (B_J15_checkIndex_7cf53_0 Z d σ l1 (σ.i l0 2) (yI K fun v4 τ2 => τ2.sh[l0]? = some (Sh.obj 0) ∧ (B_Jx4a65c_elementData_915e3_0 Z d τ2 l0 l1 (yW K fun v8 τ6 => K (.inl (some (rv v8))) τ6))))) : B_Jx4a65c_get_915e3_0 Z (d + 1) σ l0 l1 K := by
  unfold B_Jx4a65c_get_915e3_0
  refine ab_fin.s2 (i := .iload_n 1) (k := 1) (pc' := 1) (lv' := [(0, .ref l0), (1, .int l1)]) (st' := [.int l1]) (by decide +kernel) rfl rfl ?_
  refine ab_fin.s2 (i := .aload_n 0) (k := 1) (pc' := 2) (lv' := [(0, .ref l0), (1, .int l1)]) (st' := [.ref l0, .int l1]) (by decide +kernel) rfl rfl ?_
  obtain ⟨e1, w⟩ := w
  refine ab_fin.q_rI (x := (σ.i l0 2)) (ix := 48) (ci := 0) (k := 2) (pc' := 5) (by decide +kernel) rfl (c_rI e1 rfl) rfl ?_
  refine ab_fin.q_yI (i := .invokestatic 118) (k := 3) (y := 12032) (As := [.int l1, .int (σ.i l0 2)]) (rest := []) (M' := (mJ15_checkIndex_7cf53, [])) (lv2 := [(0, .int l1), (1, .int (σ.i l0 2))]) (pc' := 8) (X := K) (by decide +kernel) (ab_cs rfl rfl ⟨(Nat.le_of_ble_eq_true rfl), (Nat.le_of_ble_eq_true rfl)⟩ rfl) rfl (Nat.le_of_ble_eq_true rfl) rfl rfl (hY_no fun E => rfl) w (fun v4 τ2 F3 w => ?_)
  refine ab_fin.s1 (i := .pop) (k := 1) (pc' := 9) (st' := []) (by decide +kernel) rfl rfl ?_
  refine ab_fin.s2 (i := .aload_n 0) (k := 1) (pc' := 10) (lv' := [(0, .ref l0), (1, .int l1)]) (st' := [.ref l0]) (by decide +kernel) rfl rfl ?_
  refine ab_fin.s2 (i := .iload_n 1) (k := 1) (pc' := 11) (lv' := [(0, .ref l0), (1, .int l1)]) (st' := [.int l1, .ref l0]) (by decide +kernel) rfl rfl ?_
  obtain ⟨e5, w⟩ := w
  refine ab_fin.q_yW (i := .invokevirtual 123) (k := 3) (y := 11012) (As := [.ref l0, .int l1]) (rest := []) (M' := (mJx4a65c_elementData_915e3, [])) (lv2 := [(0, .ref l0), (1, .int l1)]) (pc' := 14) (X := K) (by decide +kernel) (ab_cv rfl rfl (conc_get (σ := τ2) e5) ⟨(Nat.le_of_ble_eq_true rfl), (Nat.le_of_ble_eq_true rfl)⟩ rfl) rfl (Nat.le_of_ble_eq_true rfl) rfl rfl (hY_no fun E => rfl) w (fun v8 τ6 F7 w => ?_)
  exact ab_fin.q_ret (i := .areturn) (k := 1) (v := some (rv v8)) (by decide +kernel) (ret_A (oR_rv _)) F7 w
theorem S_Jx4a65c_grow_92f84_0 {Z : zT} {d : Nat} {σ : Sg} {l0 : Nat} {l1 : Int32} {K : kS} (F : FX ΦR σ.sh σ.r) (w : σ.sh[l0]? = some (Sh.obj 0) ∧ (((∃ b2, (σ.r l0 1) = Rf.ptr b2 ∧ (∃ n5, σ.sh[b2]? = some (Sh.arr 14 n5) ∧ ((0 < (Int32.ofNat n5) → B_Jx4a65c_grow_92f84_20 Z (d + 1) σ l0 l1 (Int32.ofNat n5) K) ∧ (¬ 0 < (Int32.ofNat n5) → ((∃ b6, (σ.r l0 1) = Rf.ptr b6 ∧ (B_Jx4a65c_grow_92f84_20 Z (d + 1) σ l0 l1 (Int32.ofNat n5) K)) ∨ ((σ.r l0 1) = Rf.old 7 ∧ (¬ ((if (10 : Int32) < l1 then l1 else (10 : Int32)) < 0 ∨ 60000000 < (if (10 : Int32) < l1 then l1 else (10 : Int32)).toNatClampNeg) ∧ (K (.inl (some (.ref σ.sh.length))) ((σ.al (Sh.arr 14 (if (10 : Int32) < l1 then l1 else (10 : Int32)).toNatClampNeg)).wr l0 1 (Rf.ptr σ.sh.length)))))))))) ∨ ((σ.r l0 1) = Rf.old 7 ∧ ((0 < (0 : Int32) → B_Jx4a65c_grow_92f84_20 Z (d + 1) σ l0 l1 0 K) ∧ (¬ 0 < (0 : Int32) → ((∃ b11, (σ.r l0 1) = Rf.ptr b11 ∧ (B_Jx4a65c_grow_92f84_20 Z (d + 1) σ l0 l1 0 K)) ∨ ((σ.r l0 1) = Rf.old 7 ∧ (¬ ((if (10 : Int32) < l1 then l1 else (10 : Int32)) < 0 ∨ 60000000 < (if (10 : Int32) < l1 then l1 else (10 : Int32)).toNatClampNeg) ∧ (K (.inl (some (.ref σ.sh.length))) ((σ.al (Sh.arr 14 (if (10 : Int32) < l1 then l1 else (10 : Int32)).toNatClampNeg)).wr l0 1 (Rf.ptr σ.sh.length)))))))))))) : B_Jx4a65c_grow_92f84_0 Z (d + 1) σ l0 l1 K := by
  unfold B_Jx4a65c_grow_92f84_0
  refine ab_fin.s2 (i := .aload_n 0) (k := 1) (pc' := 1) (lv' := [(0, .ref l0), (1, .int l1)]) (st' := [.ref l0]) (by decide +kernel) rfl rfl ?_
  obtain ⟨e1, w⟩ := w
  refine ab_fin.q_rV (v := rv (σ.r l0 1)) (ix := 9) (ci := 0) (k := 1) (pc' := 4) (by decide +kernel) rfl (c_rV e1 rfl) rfl ?_
  rcases w with ⟨b2, e3, w⟩ | ⟨e3, w⟩
  · rw [show rv (σ.r l0 1) = .ref b2 from by rw [e3]; rfl]
    obtain ⟨n5, e4, w⟩ := w
    refine ab_fin.q_eN (n := (Int32.ofNat n5)) (pc' := 5) (by decide +kernel) (c_eN' e4 (Or.inr rfl) rfl) rfl ?_
    refine ab_fin.s2 (i := .istore_n 2) (k := 1) (pc' := 6) (lv' := [(2, .int (Int32.ofNat n5)), (0, .ref l0), (1, .int l1)]) (st' := []) (by decide +kernel) rfl rfl ?_
    refine ab_fin.s2 (i := .iload_n 2) (k := 1) (pc' := 7) (lv' := [(2, .int (Int32.ofNat n5)), (0, .ref l0), (1, .int l1)]) (st' := [.int (Int32.ofNat n5)]) (by decide +kernel) rfl rfl ?_
    refine ab_fin.br (c := 0 < (Int32.ofNat n5)) (i := .ifCond .gt 13) (off := 13) (t := 20) (pc' := 10) (r := []) (by decide +kernel) rfl (by decide +kernel) rfl (fun q => ?_) (fun q => ?_)
    · replace w := w.1 q
      exact ab_fin.lv ⟨(List.forall_mem_cons.mpr ⟨(List.Mem.tail _ (List.Mem.head _)), (List.forall_mem_cons.mpr ⟨(List.Mem.tail _ (List.Mem.tail _ (List.Mem.head _))), (List.forall_mem_cons.mpr ⟨(List.Mem.head _), (fun _ h => absurd h List.not_mem_nil)⟩)⟩)⟩), (show ([2, 0, 1] : List Nat).Nodup from by decide)⟩ w
    · replace w := w.2 q
      refine ab_fin.s2 (i := .aload_n 0) (k := 1) (pc' := 11) (lv' := [(2, .int (Int32.ofNat n5)), (0, .ref l0), (1, .int l1)]) (st' := [.ref l0]) (by decide +kernel) rfl rfl ?_
      refine ab_fin.q_rV (v := rv (σ.r l0 1)) (ix := 9) (ci := 0) (k := 1) (pc' := 14) (by decide +kernel) rfl (c_rV e1 rfl) rfl ?_
      refine ab_fin.s8 (i := .getstatic 39) (k := 3) (pc' := 17) (st' := [.retAddr 7, rv (σ.r l0 1)]) (by decide +kernel) rfl rfl rfl rfl ?_
      rcases w with ⟨b6, e7, w⟩ | ⟨e7, w⟩
      · rw [show rv (σ.r l0 1) = .ref b6 from by rw [e7]; rfl]
        refine ab_fin.s9h (i := .if_acmp .eq 28) (k := 3) (pc' := 20) (st' := []) rfl (by decide +kernel) rfl ?_
        exact ab_fin.lv ⟨(List.forall_mem_cons.mpr ⟨(List.Mem.tail _ (List.Mem.head _)), (List.forall_mem_cons.mpr ⟨(List.Mem.tail _ (List.Mem.tail _ (List.Mem.head _))), (List.forall_mem_cons.mpr ⟨(List.Mem.head _), (fun _ h => absurd h List.not_mem_nil)⟩)⟩)⟩), (show ([2, 0, 1] : List Nat).Nodup from by decide)⟩ w
      · rw [show rv (σ.r l0 1) = .retAddr 7 from by rw [e7]; rfl]
        refine ab_fin.s9h (i := .if_acmp .eq 28) (k := 3) (pc' := 45) (st' := []) rfl (by decide +kernel) rfl ?_
        refine ab_fin.s2 (i := .aload_n 0) (k := 1) (pc' := 46) (lv' := [(2, .int (Int32.ofNat n5)), (0, .ref l0), (1, .int l1)]) (st' := [.ref l0]) (by decide +kernel) rfl rfl ?_
        refine ab_fin.s1i (i := .bipush 10) (k := 2) (pc' := 48) (n := 10) (by decide +kernel) rfl (by decide +kernel) rfl ?_
        refine ab_fin.s2 (i := .iload_n 1) (k := 1) (pc' := 49) (lv' := [(2, .int (Int32.ofNat n5)), (0, .ref l0), (1, .int l1)]) (st' := [.int l1, .int 10, .ref l0]) (by decide +kernel) rfl rfl ?_
        refine ab_fin.cpy (i := .invokestatic 79) (k := 3) (pc' := 52) (h1 := conc σ) (st' := [.int (if (10 : Int32) < l1 then l1 else (10 : Int32)), .ref l0]) (by decide +kernel) rfl rfl ?_
        obtain ⟨e8, w⟩ := w
        have F9 := FX.al (s := Sh.arr 14 (if (10 : Int32) < l1 then l1 else (10 : Int32)).toNatClampNeg) hΦR (σ := σ) F
        refine ab_fin.newR (ix := 7) (t := 14) (n := σ.sh.length) (h1 := conc (σ.al (Sh.arr 14 (if (10 : Int32) < l1 then l1 else (10 : Int32)).toNatClampNeg))) (pc' := 55) (by decide +kernel) rfl e8 rfl (conc_len _) (conc_alR _ _).symm rfl ?_
        refine ab_fin.s1 (i := .dup_x1) (k := 1) (pc' := 56) (st' := [.ref σ.sh.length, .ref l0, .ref σ.sh.length]) (by decide +kernel) rfl rfl ?_
        have F10 := FX.w (Φ := ΦR) (a := l0) (k := 1) (v := (Rf.ptr σ.sh.length)) F9 (cD0 F9 (al_s e1))
        refine ab_fin.q_pF (ix := 9) (ci := 0) (k := 1) (h1 := conc ((σ.al (Sh.arr 14 (if (10 : Int32) < l1 then l1 else (10 : Int32)).toNatClampNeg)).wr l0 1 (Rf.ptr σ.sh.length))) (pc' := 59) (by decide +kernel) rfl (c_pR (v := (Rf.ptr σ.sh.length)) (al_s e1) rfl) rfl rfl rfl ?_
        exact ab_fin.q_ret (i := .areturn) (k := 1) (v := some (.ref σ.sh.length)) (by decide +kernel) rfl F10 w
  · rw [show rv (σ.r l0 1) = .retAddr 7 from by rw [e3]; rfl]
    refine ab_fin.s8 (i := .arraylength) (k := 1) (pc' := 5) (st' := [.int 0]) (by decide +kernel) rfl rfl rfl rfl ?_
    refine ab_fin.s2 (i := .istore_n 2) (k := 1) (pc' := 6) (lv' := [(2, .int 0), (0, .ref l0), (1, .int l1)]) (st' := []) (by decide +kernel) rfl rfl ?_
    refine ab_fin.s2 (i := .iload_n 2) (k := 1) (pc' := 7) (lv' := [(2, .int 0), (0, .ref l0), (1, .int l1)]) (st' := [.int 0]) (by decide +kernel) rfl rfl ?_
    refine ab_fin.br (c := 0 < (0 : Int32)) (i := .ifCond .gt 13) (off := 13) (t := 20) (pc' := 10) (r := []) (by decide +kernel) rfl (by decide +kernel) rfl (fun q => ?_) (fun q => ?_)
    · replace w := w.1 q
      exact ab_fin.lv ⟨(List.forall_mem_cons.mpr ⟨(List.Mem.tail _ (List.Mem.head _)), (List.forall_mem_cons.mpr ⟨(List.Mem.tail _ (List.Mem.tail _ (List.Mem.head _))), (List.forall_mem_cons.mpr ⟨(List.Mem.head _), (fun _ h => absurd h List.not_mem_nil)⟩)⟩)⟩), (show ([2, 0, 1] : List Nat).Nodup from by decide)⟩ w
    · replace w := w.2 q
      refine ab_fin.s2 (i := .aload_n 0) (k := 1) (pc' := 11) (lv' := [(2, .int 0), (0, .ref l0), (1, .int l1)]) (st' := [.ref l0]) (by decide +kernel) rfl rfl ?_
      refine ab_fin.q_rV (v := rv (σ.r l0 1)) (ix := 9) (ci := 0) (k := 1) (pc' := 14) (by decide +kernel) rfl (c_rV e1 rfl) rfl ?_
      refine ab_fin.s8 (i := .getstatic 39) (k := 3) (pc' := 17) (st' := [.retAddr 7, rv (σ.r l0 1)]) (by decide +kernel) rfl rfl rfl rfl ?_
      rcases w with ⟨b11, e12, w⟩ | ⟨e12, w⟩
      · rw [show rv (σ.r l0 1) = .ref b11 from by rw [e12]; rfl]
        refine ab_fin.s9h (i := .if_acmp .eq 28) (k := 3) (pc' := 20) (st' := []) rfl (by decide +kernel) rfl ?_
        exact ab_fin.lv ⟨(List.forall_mem_cons.mpr ⟨(List.Mem.tail _ (List.Mem.head _)), (List.forall_mem_cons.mpr ⟨(List.Mem.tail _ (List.Mem.tail _ (List.Mem.head _))), (List.forall_mem_cons.mpr ⟨(List.Mem.head _), (fun _ h => absurd h List.not_mem_nil)⟩)⟩)⟩), (show ([2, 0, 1] : List Nat).Nodup from by decide)⟩ w
      · rw [show rv (σ.r l0 1) = .retAddr 7 from by rw [e12]; rfl]
        refine ab_fin.s9h (i := .if_acmp .eq 28) (k := 3) (pc' := 45) (st' := []) rfl (by decide +kernel) rfl ?_
        refine ab_fin.s2 (i := .aload_n 0) (k := 1) (pc' := 46) (lv' := [(2, .int 0), (0, .ref l0), (1, .int l1)]) (st' := [.ref l0]) (by decide +kernel) rfl rfl ?_
        refine ab_fin.s1i (i := .bipush 10) (k := 2) (pc' := 48) (n := 10) (by decide +kernel) rfl (by decide +kernel) rfl ?_
        refine ab_fin.s2 (i := .iload_n 1) (k := 1) (pc' := 49) (lv' := [(2, .int 0), (0, .ref l0), (1, .int l1)]) (st' := [.int l1, .int 10, .ref l0]) (by decide +kernel) rfl rfl ?_
        refine ab_fin.cpy (i := .invokestatic 79) (k := 3) (pc' := 52) (h1 := conc σ) (st' := [.int (if (10 : Int32) < l1 then l1 else (10 : Int32)), .ref l0]) (by decide +kernel) rfl rfl ?_
        obtain ⟨e13, w⟩ := w
        have F14 := FX.al (s := Sh.arr 14 (if (10 : Int32) < l1 then l1 else (10 : Int32)).toNatClampNeg) hΦR (σ := σ) F
        refine ab_fin.newR (ix := 7) (t := 14) (n := σ.sh.length) (h1 := conc (σ.al (Sh.arr 14 (if (10 : Int32) < l1 then l1 else (10 : Int32)).toNatClampNeg))) (pc' := 55) (by decide +kernel) rfl e13 rfl (conc_len _) (conc_alR _ _).symm rfl ?_
        refine ab_fin.s1 (i := .dup_x1) (k := 1) (pc' := 56) (st' := [.ref σ.sh.length, .ref l0, .ref σ.sh.length]) (by decide +kernel) rfl rfl ?_
        have F15 := FX.w (Φ := ΦR) (a := l0) (k := 1) (v := (Rf.ptr σ.sh.length)) F14 (cD0 F14 (al_s e1))
        refine ab_fin.q_pF (ix := 9) (ci := 0) (k := 1) (h1 := conc ((σ.al (Sh.arr 14 (if (10 : Int32) < l1 then l1 else (10 : Int32)).toNatClampNeg)).wr l0 1 (Rf.ptr σ.sh.length))) (pc' := 59) (by decide +kernel) rfl (c_pR (v := (Rf.ptr σ.sh.length)) (al_s e1) rfl) rfl rfl rfl ?_
        exact ab_fin.q_ret (i := .areturn) (k := 1) (v := some (.ref σ.sh.length)) (by decide +kernel) rfl F15 w
theorem S_Jx4a65c_grow_92f84_20 {Z : zT} {d : Nat} {σ : Sg} {l0 : Nat} {l1 : Int32} {l2 : Int32} {K : kS} (F : FX ΦR σ.sh σ.r) (w : B_J8_newLength_cabcc_0 Z d σ l2 (l1 - l2) (l2 >>> ((1 : Int32) &&& 31)) (yI K fun v3 τ1 => τ1.sh[l0]? = some (Sh.obj 0) ∧ (B_J7_copyOf_1904c_0 Z d τ1 (τ1.r l0 1) v3 (yW K fun v7 τ5 => τ5.sh[l0]? = some (Sh.obj 0) ∧ (K (.inl (some (rv v7))) (τ5.wr l0 1 v7)))))) : B_Jx4a65c_grow_92f84_20 Z (d + 1) σ l0 l1 l2 K := by
  unfold B_Jx4a65c_grow_92f84_20
  refine ab_fin.s2 (i := .iload_n 2) (k := 1) (pc' := 21) (lv' := [(0, .ref l0), (1, .int l1), (2, .int l2)]) (st' := [.int l2]) (by decide +kernel) rfl rfl ?_
  refine ab_fin.s2 (i := .iload_n 1) (k := 1) (pc' := 22) (lv' := [(0, .ref l0), (1, .int l1), (2, .int l2)]) (st' := [.int l1, .int l2]) (by decide +kernel) rfl rfl ?_
  refine ab_fin.s2 (i := .iload_n 2) (k := 1) (pc' := 23) (lv' := [(0, .ref l0), (1, .int l1), (2, .int l2)]) (st' := [.int l2, .int l1, .int l2]) (by decide +kernel) rfl rfl ?_
  refine ab_fin.s1 (i := .isub) (k := 1) (pc' := 24) (st' := [.int (l1 - l2), .int l2]) (by decide +kernel) rfl rfl ?_
  refine ab_fin.s2 (i := .iload_n 2) (k := 1) (pc' := 25) (lv' := [(0, .ref l0), (1, .int l1), (2, .int l2)]) (st' := [.int l2, .int (l1 - l2), .int l2]) (by decide +kernel) rfl rfl ?_
  refine ab_fin.s1i (i := .iconst 1) (k := 1) (pc' := 26) (n := 1) (by decide +kernel) rfl (by decide +kernel) rfl ?_
  refine ab_fin.s1 (i := .ishr) (k := 1) (pc' := 27) (st' := [.int (l2 >>> ((1 : Int32) &&& 31)), .int (l1 - l2), .int l2]) (by decide +kernel) rfl rfl ?_
  refine ab_fin.q_yI (i := .invokestatic 73) (k := 3) (y := 12800) (As := [.int l2, .int (l1 - l2), .int (l2 >>> ((1 : Int32) &&& 31))]) (rest := []) (M' := (mJ8_newLength_cabcc, [])) (lv2 := [(0, .int l2), (1, .int (l1 - l2)), (2, .int (l2 >>> ((1 : Int32) &&& 31)))]) (pc' := 30) (X := K) (by decide +kernel) (ab_cs rfl rfl ⟨(Nat.le_of_ble_eq_true rfl), (Nat.le_of_ble_eq_true rfl)⟩ rfl) rfl (Nat.le_of_ble_eq_true rfl) rfl rfl (hY_no fun E => rfl) w (fun v3 τ1 F2 w => ?_)
  refine ab_fin.s2 (i := .istore_n 3) (k := 1) (pc' := 31) (lv' := [(3, .int v3), (0, .ref l0), (1, .int l1), (2, .int l2)]) (st' := []) (by decide +kernel) rfl rfl ?_
  refine ab_fin.s2 (i := .aload_n 0) (k := 1) (pc' := 32) (lv' := [(3, .int v3), (0, .ref l0), (1, .int l1), (2, .int l2)]) (st' := [.ref l0]) (by decide +kernel) rfl rfl ?_
  refine ab_fin.s2 (i := .aload_n 0) (k := 1) (pc' := 33) (lv' := [(3, .int v3), (0, .ref l0), (1, .int l1), (2, .int l2)]) (st' := [.ref l0, .ref l0]) (by decide +kernel) rfl rfl ?_
  obtain ⟨e4, w⟩ := w
  refine ab_fin.q_rV (v := rv (τ1.r l0 1)) (ix := 9) (ci := 0) (k := 1) (pc' := 36) (by decide +kernel) rfl (c_rV e4 rfl) rfl ?_
  refine ab_fin.s2 (i := .iload_n 3) (k := 1) (pc' := 37) (lv' := [(3, .int v3), (0, .ref l0), (1, .int l1), (2, .int l2)]) (st' := [.int v3, rv (τ1.r l0 1), .ref l0]) (by decide +kernel) rfl rfl ?_
  refine ab_fin.q_yW (i := .invokestatic 66) (k := 3) (y := 11266) (As := [rv (τ1.r l0 1), .int v3]) (rest := [.ref l0]) (M' := (mJ7_copyOf_1904c, [])) (lv2 := [(0, rv (τ1.r l0 1)), (1, .int v3)]) (pc' := 40) (X := K) (by decide +kernel) (ab_cs rfl rfl ⟨(Nat.le_of_ble_eq_true rfl), (Nat.le_of_ble_eq_true rfl)⟩ rfl) rfl (by rw [lg_cnt]; simp only [List.map_cons, List.map_nil, cI, cL, cR1, cN1, cX1, cA (oR_rv _)]; exact Nat.le_of_ble_eq_true rfl) (by rw [lvA (oR_rv _), lvI, lvN]) rfl (hY_no fun E => rfl) w (fun v7 τ5 F6 w => ?_)
  refine ab_fin.s1 (i := .dup_x1) (k := 1) (pc' := 41) (st' := [rv v7, .ref l0, rv v7]) (by decide +kernel) (by simp only [ab_s1, cA (oR_rv _), cI, cR1, and_self, if_pos]) rfl ?_
  obtain ⟨e8, w⟩ := w
  have F9 := FX.w (Φ := ΦR) (a := l0) (k := 1) (v := v7) F6 (cD0 F6 e8)
  refine ab_fin.q_pF (ix := 9) (ci := 0) (k := 1) (h1 := conc (τ5.wr l0 1 v7)) (pc' := 44) (by decide +kernel) rfl (c_pR (v := v7) e8 rfl) nRa_n nRa_f rfl ?_
  exact ab_fin.q_ret (i := .areturn) (k := 1) (v := some (rv v7)) (by decide +kernel) (ret_B (oR_rv _)) F9 w
theorem S_Jx4a65c_grow_d5877_0 {Z : zT} {d : Nat} {σ : Sg} {l0 : Nat} {K : kS} (F : FX ΦR σ.sh σ.r) (w : σ.sh[l0]? = some (Sh.obj 0) ∧ (B_Jx4a65c_grow_92f84_0 Z d σ l0 ((σ.i l0 2) + (1 : Int32)) (yW K fun v4 τ2 => K (.inl (some (rv v4))) τ2))) : B_Jx4a65c_grow_d5877_0 Z (d + 1) σ l0 K := by
  unfold B_Jx4a65c_grow_d5877_0
  refine ab_fin.s2 (i := .aload_n 0) (k := 1) (pc' := 1) (lv' := [(0, .ref l0)]) (st' := [.ref l0]) (by decide +kernel) rfl rfl ?_
  refine ab_fin.s2 (i := .aload_n 0) (k := 1) (pc' := 2) (lv' := [(0, .ref l0)]) (st' := [.ref l0, .ref l0]) (by decide +kernel) rfl rfl ?_
  obtain ⟨e1, w⟩ := w
  refine ab_fin.q_rI (x := (σ.i l0 2)) (ix := 48) (ci := 0) (k := 2) (pc' := 5) (by decide +kernel) rfl (c_rI e1 rfl) rfl ?_
  refine ab_fin.s1i (i := .iconst 1) (k := 1) (pc' := 6) (n := 1) (by decide +kernel) rfl (by decide +kernel) rfl ?_
  refine ab_fin.s1 (i := .iadd) (k := 1) (pc' := 7) (st' := [.int ((σ.i l0 2) + (1 : Int32)), .ref l0]) (by decide +kernel) rfl rfl ?_
  refine ab_fin.q_yW (i := .invokevirtual 69) (k := 3) (y := 11009) (As := [.ref l0, .int ((σ.i l0 2) + (1 : Int32))]) (rest := []) (M' := (mJx4a65c_grow_92f84, [])) (lv2 := [(0, .ref l0), (1, .int ((σ.i l0 2) + (1 : Int32)))]) (pc' := 10) (X := K) (by decide +kernel) (ab_cv rfl rfl (conc_get (σ := σ) e1) ⟨(Nat.le_of_ble_eq_true rfl), (Nat.le_of_ble_eq_true rfl)⟩ rfl) rfl (Nat.le_of_ble_eq_true rfl) rfl rfl (hY_no fun E => rfl) w (fun v4 τ2 F3 w => ?_)
  exact ab_fin.q_ret (i := .areturn) (k := 1) (v := some (rv v4)) (by decide +kernel) (ret_B (oR_rv _)) F3 w
theorem S_Jx4a65c_add_72be8_0 {Z : zT} {d : Nat} {σ : Sg} {l0 : Nat} {l1 : Rf} {l2 : Rf} {l3 : Int32} {K : kS} (F : FX ΦR σ.sh σ.r) (w : ((∃ b1, l2 = Rf.ptr b1 ∧ (∃ n4, σ.sh[b1]? = some (Sh.arr 14 n4) ∧ ((¬ l3 = (Int32.ofNat n4) → ∃ b5, l1 = Rf.ptr b5 ∧ (σ.sh[b5]? = some (Sh.obj 21) ∧ (ib l3 n4 ∧ (σ.sh[l0]? = some (Sh.obj 0) ∧ (K (.inl none) ((σ.wr b1 l3.toNatClampNeg (Rf.ptr b5)).wi l0 2 (l3 + (1 : Int32)))))))) ∧ (l3 = (Int32.ofNat n4) → σ.sh[l0]? = some (Sh.obj 0) ∧ (B_Jx4a65c_grow_d5877_0 Z d σ l0 (yW K fun v14 τ12 => ∃ b15, v14 = Rf.ptr b15 ∧ (∃ n18, τ12.sh[b15]? = some (Sh.arr 14 n18) ∧ (∃ b19, l1 = Rf.ptr b19 ∧ (τ12.sh[b19]? = some (Sh.obj 21) ∧ (ib l3 n18 ∧ (τ12.sh[l0]? = some (Sh.obj 0) ∧ (K (.inl none) ((τ12.wr b15 l3.toNatClampNeg (Rf.ptr b19)).wi l0 2 (l3 + (1 : Int32))))))))))))))) ∨ (l2 = Rf.old 7 ∧ ((¬ l3 = 0 → False) ∧ (l3 = 0 → σ.sh[l0]? = some (Sh.obj 0) ∧ (B_Jx4a65c_grow_d5877_0 Z d σ l0 (yW K fun v28 τ26 => ∃ b29, v28 = Rf.ptr b29 ∧ (∃ n32, τ26.sh[b29]? = some (Sh.arr 14 n32) ∧ (∃ b33, l1 = Rf.ptr b33 ∧ (τ26.sh[b33]? = some (Sh.obj 21) ∧ (ib l3 n32 ∧ (τ26.sh[l0]? = some (Sh.obj 0) ∧ (K (.inl none) ((τ26.wr b29 l3.toNatClampNeg (Rf.ptr b33)).wi l0 2 (l3 + (1 : Int32)))))))))))))))) : B_Jx4a65c_add_72be8_0 Z (d + 1) σ l0 l1 l2 l3 K := by
  unfold B_Jx4a65c_add_72be8_0
  refine ab_fin.s2 (i := .iload_n 3) (k := 1) (pc' := 1) (lv' := [(0, .ref l0), (1, rv l1), (2, rv l2), (3, .int l3)]) (st' := [.int l3]) (by decide +kernel) rfl rfl ?_
  refine ab_fin.ald (i := .aload_n 2) (n := 2) (k := 1) (pc' := 2) (Or.inl ⟨_, rfl, rfl, rfl⟩) (by decide +kernel) rfl (oR_rv _) rfl ?_
  rcases w with ⟨b1, e2, w⟩ | ⟨e2, w⟩
  · rw [show rv l2 = .ref b1 from by rw [e2]; rfl]
    obtain ⟨n4, e3, w⟩ := w
    refine ab_fin.q_eN (n := (Int32.ofNat n4)) (pc' := 3) (by decide +kernel) (c_eN' e3 (Or.inr rfl) rfl) rfl ?_
    refine ab_fin.br (c := ¬ l3 = (Int32.ofNat n4)) (i := .if_icmp .ne 8) (off := 8) (t := 11) (pc' := 6) (r := []) (by decide +kernel) rfl (by decide +kernel) rfl (fun q => ?_) (fun q => ?_)
    · replace w := w.1 q
      refine ab_fin.s2 (i := .aload_n 2) (k := 1) (pc' := 12) (lv' := [(0, .ref l0), (1, rv l1), (2, .ref b1), (3, .int l3)]) (st' := [.ref b1]) (by decide +kernel) rfl rfl ?_
      refine ab_fin.s2 (i := .iload_n 3) (k := 1) (pc' := 13) (lv' := [(0, .ref l0), (1, rv l1), (2, .ref b1), (3, .int l3)]) (st' := [.int l3, .ref b1]) (by decide +kernel) rfl rfl ?_
      refine ab_fin.ald (i := .aload_n 1) (n := 1) (k := 1) (pc' := 14) (Or.inl ⟨_, rfl, rfl, rfl⟩) (by decide +kernel) rfl (oR_rv _) rfl ?_
      obtain ⟨b5, e6, w⟩ := w
      rw [show rv l1 = .ref b5 from by rw [e6]; rfl]
      obtain ⟨e7, w⟩ := w
      obtain ⟨e8, w⟩ := w
      have F9 := FX.w (Φ := ΦR) (a := b1) (k := l3.toNatClampNeg) (v := Rf.ptr b5) F (cD14 F e3)
      refine ab_fin.q_sO (h1 := conc (σ.wr b1 l3.toNatClampNeg (Rf.ptr b5))) (pc' := 15) (by decide +kernel) (c_sO e3 e7 e8) rfl ?_
      refine ab_fin.s2 (i := .aload_n 0) (k := 1) (pc' := 16) (lv' := [(0, .ref l0), (1, .ref b5), (2, .ref b1), (3, .int l3)]) (st' := [.ref l0]) (by decide +kernel) rfl rfl ?_
      refine ab_fin.s2 (i := .iload_n 3) (k := 1) (pc' := 17) (lv' := [(0, .ref l0), (1, .ref b5), (2, .ref b1), (3, .int l3)]) (st' := [.int l3, .ref l0]) (by decide +kernel) rfl rfl ?_
      refine ab_fin.s1i (i := .iconst 1) (k := 1) (pc' := 18) (n := 1) (by decide +kernel) rfl (by decide +kernel) rfl ?_
      refine ab_fin.s1 (i := .iadd) (k := 1) (pc' := 19) (st' := [.int (l3 + (1 : Int32)), .ref l0]) (by decide +kernel) rfl rfl ?_
      obtain ⟨e10, w⟩ := w
      refine ab_fin.q_pF (ix := 48) (ci := 0) (k := 2) (h1 := conc ((σ.wr b1 l3.toNatClampNeg (Rf.ptr b5)).wi l0 2 (l3 + (1 : Int32)))) (pc' := 22) (by decide +kernel) rfl (c_pI (v := (l3 + (1 : Int32))) e10 rfl) rfl rfl rfl ?_
      exact ab_fin.q_ret (i := .return_) (k := 1) (v := none) (by decide +kernel) rfl F9 w
    · replace w := w.2 (Decidable.of_not_not q)
      refine ab_fin.s2 (i := .aload_n 0) (k := 1) (pc' := 7) (lv' := [(0, .ref l0), (1, rv l1), (2, .ref b1), (3, .int l3)]) (st' := [.ref l0]) (by decide +kernel) rfl rfl ?_
      obtain ⟨e11, w⟩ := w
      refine ab_fin.q_yW (i := .invokevirtual 129) (k := 3) (y := 11010) (As := [.ref l0]) (rest := []) (M' := (mJx4a65c_grow_d5877, [])) (lv2 := [(0, .ref l0)]) (pc' := 10) (X := K) (by decide +kernel) (ab_cv rfl rfl (conc_get (σ := σ) e11) ⟨(Nat.le_of_ble_eq_true rfl), (Nat.le_of_ble_eq_true rfl)⟩ rfl) rfl (Nat.le_of_ble_eq_true rfl) rfl rfl (hY_no fun E => rfl) w (fun v14 τ12 F13 w => ?_)
      refine ab_fin.q_stA (i := .astore_n 2) (n := 2) (k := 1) (pc' := 11) (lv' := [(2, rv v14), (0, .ref l0), (1, rv l1), (3, .int l3)]) (Or.inl ⟨_, rfl, rfl, rfl⟩) (by decide +kernel) (by decide) (oR_rv _) (by simp only [ab_st1, List.filter_cons, List.filter_nil, cA (oR_rv _)]; rfl) rfl ?_
      refine ab_fin.ald (i := .aload_n 2) (n := 2) (k := 1) (pc' := 12) (Or.inl ⟨_, rfl, rfl, rfl⟩) (by decide +kernel) rfl (oR_rv _) rfl ?_
      refine ab_fin.s2 (i := .iload_n 3) (k := 1) (pc' := 13) (lv' := [(2, rv v14), (0, .ref l0), (1, rv l1), (3, .int l3)]) (st' := [.int l3, rv v14]) (by decide +kernel) rfl rfl ?_
      refine ab_fin.ald (i := .aload_n 1) (n := 1) (k := 1) (pc' := 14) (Or.inl ⟨_, rfl, rfl, rfl⟩) (by decide +kernel) rfl (oR_rv _) rfl ?_
      obtain ⟨b15, e16, w⟩ := w
      rw [show rv v14 = .ref b15 from by rw [e16]; rfl]
      obtain ⟨n18, e17, w⟩ := w
      obtain ⟨b19, e20, w⟩ := w
      rw [show rv l1 = .ref b19 from by rw [e20]; rfl]
      obtain ⟨e21, w⟩ := w
      obtain ⟨e22, w⟩ := w
      have F23 := FX.w (Φ := ΦR) (a := b15) (k := l3.toNatClampNeg) (v := Rf.ptr b19) F13 (cD14 F13 e17)
      refine ab_fin.q_sO (h1 := conc (τ12.wr b15 l3.toNatClampNeg (Rf.ptr b19))) (pc' := 15) (by decide +kernel) (c_sO e17 e21 e22) rfl ?_
      refine ab_fin.s2 (i := .aload_n 0) (k := 1) (pc' := 16) (lv' := [(2, .ref b15), (0, .ref l0), (1, .ref b19), (3, .int l3)]) (st' := [.ref l0]) (by decide +kernel) rfl rfl ?_
      refine ab_fin.s2 (i := .iload_n 3) (k := 1) (pc' := 17) (lv' := [(2, .ref b15), (0, .ref l0), (1, .ref b19), (3, .int l3)]) (st' := [.int l3, .ref l0]) (by decide +kernel) rfl rfl ?_
      refine ab_fin.s1i (i := .iconst 1) (k := 1) (pc' := 18) (n := 1) (by decide +kernel) rfl (by decide +kernel) rfl ?_
      refine ab_fin.s1 (i := .iadd) (k := 1) (pc' := 19) (st' := [.int (l3 + (1 : Int32)), .ref l0]) (by decide +kernel) rfl rfl ?_
      obtain ⟨e24, w⟩ := w
      refine ab_fin.q_pF (ix := 48) (ci := 0) (k := 2) (h1 := conc ((τ12.wr b15 l3.toNatClampNeg (Rf.ptr b19)).wi l0 2 (l3 + (1 : Int32)))) (pc' := 22) (by decide +kernel) rfl (c_pI (v := (l3 + (1 : Int32))) e24 rfl) rfl rfl rfl ?_
      exact ab_fin.q_ret (i := .return_) (k := 1) (v := none) (by decide +kernel) rfl F23 w
  · rw [show rv l2 = .retAddr 7 from by rw [e2]; rfl]
    refine ab_fin.s8 (i := .arraylength) (k := 1) (pc' := 3) (st' := [.int 0, .int l3]) (by decide +kernel) rfl rfl rfl rfl ?_
    refine ab_fin.br (c := ¬ l3 = 0) (i := .if_icmp .ne 8) (off := 8) (t := 11) (pc' := 6) (r := []) (by decide +kernel) rfl (by decide +kernel) rfl (fun q => ?_) (fun q => ?_)
    · replace w := w.1 q
      refine ab_fin.s2 (i := .aload_n 2) (k := 1) (pc' := 12) (lv' := [(0, .ref l0), (1, rv l1), (2, .retAddr 7), (3, .int l3)]) (st' := [.retAddr 7]) (by decide +kernel) rfl rfl ?_
      refine ab_fin.s2 (i := .iload_n 3) (k := 1) (pc' := 13) (lv' := [(0, .ref l0), (1, rv l1), (2, .retAddr 7), (3, .int l3)]) (st' := [.int l3, .retAddr 7]) (by decide +kernel) rfl rfl ?_
      refine ab_fin.ald (i := .aload_n 1) (n := 1) (k := 1) (pc' := 14) (Or.inl ⟨_, rfl, rfl, rfl⟩) (by decide +kernel) rfl (oR_rv _) rfl ?_
      cases w
    · replace w := w.2 (Decidable.of_not_not q)
      refine ab_fin.s2 (i := .aload_n 0) (k := 1) (pc' := 7) (lv' := [(0, .ref l0), (1, rv l1), (2, .retAddr 7), (3, .int l3)]) (st' := [.ref l0]) (by decide +kernel) rfl rfl ?_
      obtain ⟨e25, w⟩ := w
      refine ab_fin.q_yW (i := .invokevirtual 129) (k := 3) (y := 11010) (As := [.ref l0]) (rest := []) (M' := (mJx4a65c_grow_d5877, [])) (lv2 := [(0, .ref l0)]) (pc' := 10) (X := K) (by decide +kernel) (ab_cv rfl rfl (conc_get (σ := σ) e25) ⟨(Nat.le_of_ble_eq_true rfl), (Nat.le_of_ble_eq_true rfl)⟩ rfl) rfl (Nat.le_of_ble_eq_true rfl) rfl rfl (hY_no fun E => rfl) w (fun v28 τ26 F27 w => ?_)
      refine ab_fin.q_stA (i := .astore_n 2) (n := 2) (k := 1) (pc' := 11) (lv' := [(2, rv v28), (0, .ref l0), (1, rv l1), (3, .int l3)]) (Or.inl ⟨_, rfl, rfl, rfl⟩) (by decide +kernel) (by decide) (oR_rv _) (by simp only [ab_st1, List.filter_cons, List.filter_nil, cA (oR_rv _)]; rfl) rfl ?_
      refine ab_fin.ald (i := .aload_n 2) (n := 2) (k := 1) (pc' := 12) (Or.inl ⟨_, rfl, rfl, rfl⟩) (by decide +kernel) rfl (oR_rv _) rfl ?_
      refine ab_fin.s2 (i := .iload_n 3) (k := 1) (pc' := 13) (lv' := [(2, rv v28), (0, .ref l0), (1, rv l1), (3, .int l3)]) (st' := [.int l3, rv v28]) (by decide +kernel) rfl rfl ?_
      refine ab_fin.ald (i := .aload_n 1) (n := 1) (k := 1) (pc' := 14) (Or.inl ⟨_, rfl, rfl, rfl⟩) (by decide +kernel) rfl (oR_rv _) rfl ?_
      obtain ⟨b29, e30, w⟩ := w
      rw [show rv v28 = .ref b29 from by rw [e30]; rfl]
      obtain ⟨n32, e31, w⟩ := w
      obtain ⟨b33, e34, w⟩ := w
      rw [show rv l1 = .ref b33 from by rw [e34]; rfl]
      obtain ⟨e35, w⟩ := w
      obtain ⟨e36, w⟩ := w
      have F37 := FX.w (Φ := ΦR) (a := b29) (k := l3.toNatClampNeg) (v := Rf.ptr b33) F27 (cD14 F27 e31)
      refine ab_fin.q_sO (h1 := conc (τ26.wr b29 l3.toNatClampNeg (Rf.ptr b33))) (pc' := 15) (by decide +kernel) (c_sO e31 e35 e36) rfl ?_
      refine ab_fin.s2 (i := .aload_n 0) (k := 1) (pc' := 16) (lv' := [(2, .ref b29), (0, .ref l0), (1, .ref b33), (3, .int l3)]) (st' := [.ref l0]) (by decide +kernel) rfl rfl ?_
      refine ab_fin.s2 (i := .iload_n 3) (k := 1) (pc' := 17) (lv' := [(2, .ref b29), (0, .ref l0), (1, .ref b33), (3, .int l3)]) (st' := [.int l3, .ref l0]) (by decide +kernel) rfl rfl ?_
      refine ab_fin.s1i (i := .iconst 1) (k := 1) (pc' := 18) (n := 1) (by decide +kernel) rfl (by decide +kernel) rfl ?_
      refine ab_fin.s1 (i := .iadd) (k := 1) (pc' := 19) (st' := [.int (l3 + (1 : Int32)), .ref l0]) (by decide +kernel) rfl rfl ?_
      obtain ⟨e38, w⟩ := w
      refine ab_fin.q_pF (ix := 48) (ci := 0) (k := 2) (h1 := conc ((τ26.wr b29 l3.toNatClampNeg (Rf.ptr b33)).wi l0 2 (l3 + (1 : Int32)))) (pc' := 22) (by decide +kernel) rfl (c_pI (v := (l3 + (1 : Int32))) e38 rfl) rfl rfl rfl ?_
      exact ab_fin.q_ret (i := .return_) (k := 1) (v := none) (by decide +kernel) rfl F37 w
theorem S_Jx4a65c_add_9ea2d_0 {Z : zT} {d : Nat} {σ : Sg} {l0 : Nat} {l1 : Rf} {K : kS} (F : FX ΦR σ.sh σ.r) (w : σ.sh[l0]? = some (Sh.obj 0) ∧ (B_Jx4a65c_add_72be8_0 Z d (σ.wi l0 0 ((σ.i l0 0) + (1 : Int32))) l0 l1 (σ.r l0 1) ((σ.wi l0 0 ((σ.i l0 0) + (1 : Int32))).i l0 2) (yN K fun τ2 => K (.inl (some (.int 1))) τ2))) : B_Jx4a65c_add_9ea2d_0 Z (d + 1) σ l0 l1 K := by
  unfold B_Jx4a65c_add_9ea2d_0
  refine ab_fin.s2 (i := .aload_n 0) (k := 1) (pc' := 1) (lv' := [(0, .ref l0), (1, rv l1)]) (st' := [.ref l0]) (by decide +kernel) rfl rfl ?_
  refine ab_fin.s1 (i := .dup) (k := 1) (pc' := 2) (st' := [.ref l0, .ref l0]) (by decide +kernel) rfl rfl ?_
  obtain ⟨e1, w⟩ := w
  refine ab_fin.q_rI (x := (σ.i l0 0)) (ix := 63) (ci := 0) (k := 0) (pc' := 5) (by decide +kernel) rfl (c_rI e1 rfl) rfl ?_
  refine ab_fin.s1i (i := .iconst 1) (k := 1) (pc' := 6) (n := 1) (by decide +kernel) rfl (by decide +kernel) rfl ?_
  refine ab_fin.s1 (i := .iadd) (k := 1) (pc' := 7) (st' := [.int ((σ.i l0 0) + (1 : Int32)), .ref l0]) (by decide +kernel) rfl rfl ?_
  refine ab_fin.q_pF (ix := 63) (ci := 0) (k := 0) (h1 := conc (σ.wi l0 0 ((σ.i l0 0) + (1 : Int32)))) (pc' := 10) (by decide +kernel) rfl (c_pI (v := ((σ.i l0 0) + (1 : Int32))) e1 rfl) rfl rfl rfl ?_
  refine ab_fin.s2 (i := .aload_n 0) (k := 1) (pc' := 11) (lv' := [(0, .ref l0), (1, rv l1)]) (st' := [.ref l0]) (by decide +kernel) rfl rfl ?_
  refine ab_fin.ald (i := .aload_n 1) (n := 1) (k := 1) (pc' := 12) (Or.inl ⟨_, rfl, rfl, rfl⟩) (by decide +kernel) rfl (oR_rv _) rfl ?_
  refine ab_fin.s2 (i := .aload_n 0) (k := 1) (pc' := 13) (lv' := [(0, .ref l0), (1, rv l1)]) (st' := [.ref l0, rv l1, .ref l0]) (by decide +kernel) rfl rfl ?_
  refine ab_fin.q_rV (v := rv (σ.r l0 1)) (ix := 9) (ci := 0) (k := 1) (pc' := 16) (by decide +kernel) rfl (c_rV e1 rfl) rfl ?_
  refine ab_fin.s2 (i := .aload_n 0) (k := 1) (pc' := 17) (lv' := [(0, .ref l0), (1, rv l1)]) (st' := [.ref l0, rv (σ.r l0 1), rv l1, .ref l0]) (by decide +kernel) rfl rfl ?_
  refine ab_fin.q_rI (x := ((σ.wi l0 0 ((σ.i l0 0) + (1 : Int32))).i l0 2)) (ix := 48) (ci := 0) (k := 2) (pc' := 20) (by decide +kernel) rfl (c_rI e1 rfl) rfl ?_
  refine ab_fin.q_yN (i := .invokevirtual 131) (k := 3) (y := 11014) (As := [.ref l0, rv l1, rv (σ.r l0 1), .int ((σ.wi l0 0 ((σ.i l0 0) + (1 : Int32))).i l0 2)]) (rest := []) (M' := (mJx4a65c_add_72be8, [])) (lv2 := [(0, .ref l0), (1, rv l1), (2, rv (σ.r l0 1)), (3, .int ((σ.wi l0 0 ((σ.i l0 0) + (1 : Int32))).i l0 2))]) (pc' := 23) (X := K) (by decide +kernel) (ab_cv rfl rfl (conc_get (σ := (σ.wi l0 0 ((σ.i l0 0) + (1 : Int32)))) e1) ⟨(Nat.le_of_ble_eq_true rfl), (Nat.le_of_ble_eq_true rfl)⟩ rfl) rfl (by rw [lg_cnt]; simp only [List.map_cons, List.map_nil, cI, cL, cR1, cN1, cX1, cA (oR_rv _)]; exact Nat.le_of_ble_eq_true rfl) (by rw [lvA (v := .ref l0) rfl, lvA (oR_rv _), lvA (oR_rv _), lvI, lvN]) rfl (hY_no fun E => rfl) w (fun τ2 F3 w => ?_)
  refine ab_fin.s1i (i := .iconst 1) (k := 1) (pc' := 24) (n := 1) (by decide +kernel) rfl (by decide +kernel) rfl ?_
  exact ab_fin.q_ret (i := .ireturn) (k := 1) (v := some (.int 1)) (by decide +kernel) rfl F3 w
theorem S_X21_get_0 {Z : zT} {d : Nat} {σ : Sg} {l0 : Nat} {l1 : Int32} {K : kS} (F : FX ΦR σ.sh σ.r) (p_l0 : sh0R[l0]? = some (Sh.obj 22)) (w : B_Jx4a65c_size_8abf5_0 Z d σ (l0 + 1) (yI K fun v3 τ1 => (¬ (σ.i l0 1) = v3 → B_X21_get_29 Z (d + 1) τ1 l0 l1 K) ∧ ((σ.i l0 1) = v3 → B_X20_init_0 Z d (τ1.al (Sh.obj 21)) τ1.sh.length (yN y0 fun τ5 => B_Jx4a65c_add_9ea2d_0 Z d τ5 (l0 + 1) (Rf.ptr τ1.sh.length) (yI K fun v9 τ7 => B_X21_get_29 Z (d + 1) τ7 l0 l1 K))))) : B_X21_get_0 Z (d + 1) σ l0 l1 K := by
  unfold B_X21_get_0
  refine ab_fin.s2 (i := .aload_n 0) (k := 1) (pc' := 1) (lv' := [(0, .ref l0), (1, .int l1)]) (st' := [.ref l0]) (by decide +kernel) rfl rfl ?_
  refine ab_fin.q_rI (x := (σ.i l0 1)) (ix := 16) (ci := 22) (k := 1) (pc' := 4) (by decide +kernel) rfl (c_rI (F.s p_l0) rfl) rfl ?_
  refine ab_fin.s2 (i := .aload_n 0) (k := 1) (pc' := 5) (lv' := [(0, .ref l0), (1, .int l1)]) (st' := [.ref l0, .int (σ.i l0 1)]) (by decide +kernel) rfl rfl ?_
  refine ab_fin.q_rA (b := (l0 + 1)) (ix := 10) (ci := 22) (k := 0) (pc' := 8) (by decide +kernel) rfl (c_rA (F.s p_l0) rfl (rO_22_0 F p_l0)) rfl ?_
  refine ab_fin.q_yI (i := .invokevirtual 20) (k := 3) (y := 11011) (As := [.ref (l0 + 1)]) (rest := [.int (σ.i l0 1)]) (M' := (mJx4a65c_size_8abf5, [])) (lv2 := [(0, .ref (l0 + 1))]) (pc' := 11) (X := K) (by decide +kernel) (ab_cv rfl rfl (conc_get (σ := σ) (F.s (kF_22_1 p_l0))) ⟨(Nat.le_of_ble_eq_true rfl), (Nat.le_of_ble_eq_true rfl)⟩ rfl) rfl (Nat.le_of_ble_eq_true rfl) rfl rfl (hY_no fun E => rfl) w (fun v3 τ1 F2 w => ?_)
  refine ab_fin.br (c := ¬ (σ.i l0 1) = v3) (i := .if_icmp .ne 18) (off := 18) (t := 29) (pc' := 14) (r := []) (by decide +kernel) rfl (by decide +kernel) rfl (fun q => ?_) (fun q => ?_)
  · replace w := w.1 q
    exact ab_fin.lv ⟨(List.forall_mem_cons.mpr ⟨(List.Mem.head _), (List.forall_mem_cons.mpr ⟨(List.Mem.tail _ (List.Mem.head _)), (fun _ h => absurd h List.not_mem_nil)⟩)⟩), (show ([0, 1] : List Nat).Nodup from by decide)⟩ w
  · replace w := w.2 (Decidable.of_not_not q)
    refine ab_fin.s2 (i := .aload_n 0) (k := 1) (pc' := 15) (lv' := [(0, .ref l0), (1, .int l1)]) (st' := [.ref l0]) (by decide +kernel) rfl rfl ?_
    refine ab_fin.q_rA (b := (l0 + 1)) (ix := 10) (ci := 22) (k := 0) (pc' := 18) (by decide +kernel) rfl (c_rA (F2.s p_l0) rfl (rO_22_0 F2 p_l0)) rfl ?_
    have F4 := FX.al (s := Sh.obj 21) hΦR (σ := τ1) F2
    refine ab_fin.newO (ix := 24) (n := τ1.sh.length) (h1 := conc (τ1.al (Sh.obj 21))) (pc' := 21) (by decide +kernel) rfl (conc_len _) (by rw [conc_al]; rfl) rfl ?_
    refine ab_fin.s1 (i := .dup) (k := 1) (pc' := 22) (st' := [.ref τ1.sh.length, .ref τ1.sh.length, .ref (l0 + 1)]) (by decide +kernel) rfl rfl ?_
    refine ab_fin.q_yN (i := .invokespecial 26) (k := 3) (y := 5120) (As := [.ref τ1.sh.length]) (rest := [.ref τ1.sh.length, .ref (l0 + 1)]) (M' := (mX20_init, [])) (lv2 := [(0, .ref τ1.sh.length)]) (pc' := 25) (X := y0) (by decide +kernel) (ab_ci (Or.inr rfl) rfl rfl ⟨(Nat.le_of_ble_eq_true rfl), (Nat.le_of_ble_eq_true rfl)⟩ rfl) rfl (Nat.le_of_ble_eq_true rfl) rfl rfl hY_0 w (fun τ5 F6 w => ?_)
    refine ab_fin.q_yI (i := .invokevirtual 27) (k := 3) (y := 11015) (As := [.ref (l0 + 1), .ref τ1.sh.length]) (rest := []) (M' := (mJx4a65c_add_9ea2d, [])) (lv2 := [(0, .ref (l0 + 1)), (1, .ref τ1.sh.length)]) (pc' := 28) (X := K) (by decide +kernel) (ab_cv rfl rfl (conc_get (σ := τ5) (F6.s (kF_22_1 p_l0))) ⟨(Nat.le_of_ble_eq_true rfl), (Nat.le_of_ble_eq_true rfl)⟩ rfl) rfl (Nat.le_of_ble_eq_true rfl) rfl rfl (hY_no fun E => rfl) w (fun v9 τ7 F8 w => ?_)
    refine ab_fin.s1 (i := .pop) (k := 1) (pc' := 29) (st' := []) (by decide +kernel) rfl rfl ?_
    exact ab_fin.lv ⟨(List.forall_mem_cons.mpr ⟨(List.Mem.head _), (List.forall_mem_cons.mpr ⟨(List.Mem.tail _ (List.Mem.head _)), (fun _ h => absurd h List.not_mem_nil)⟩)⟩), (show ([0, 1] : List Nat).Nodup from by decide)⟩ w
theorem S_X21_get_29 {Z : zT} {d : Nat} {σ : Sg} {l0 : Nat} {l1 : Int32} {K : kS} (F : FX ΦR σ.sh σ.r) (p_l0 : sh0R[l0]? = some (Sh.obj 22)) (w : B_Jx4a65c_get_915e3_0 Z d (σ.wi l0 1 ((σ.i l0 1) + (1 : Int32))) (l0 + 1) (((σ.wi l0 1 ((σ.i l0 1) + (1 : Int32))).i l0 1) - (1 : Int32)) (yW K fun v3 τ1 => ∃ b4, v3 = Rf.ptr b4 ∧ (τ1.sh[b4]? = some (Sh.obj 21) ∧ (B_X20_be_0 Z d τ1 b4 l1 (yW K fun v9 τ7 => K (.inl (some (rv v9))) τ7))))) : B_X21_get_29 Z (d + 1) σ l0 l1 K := by
  unfold B_X21_get_29
  refine ab_fin.s2 (i := .aload_n 0) (k := 1) (pc' := 30) (lv' := [(0, .ref l0), (1, .int l1)]) (st' := [.ref l0]) (by decide +kernel) rfl rfl ?_
  refine ab_fin.s1 (i := .dup) (k := 1) (pc' := 31) (st' := [.ref l0, .ref l0]) (by decide +kernel) rfl rfl ?_
  refine ab_fin.q_rI (x := (σ.i l0 1)) (ix := 16) (ci := 22) (k := 1) (pc' := 34) (by decide +kernel) rfl (c_rI (F.s p_l0) rfl) rfl ?_
  refine ab_fin.s1i (i := .iconst 1) (k := 1) (pc' := 35) (n := 1) (by decide +kernel) rfl (by decide +kernel) rfl ?_
  refine ab_fin.s1 (i := .iadd) (k := 1) (pc' := 36) (st' := [.int ((σ.i l0 1) + (1 : Int32)), .ref l0]) (by decide +kernel) rfl rfl ?_
  refine ab_fin.q_pF (ix := 16) (ci := 22) (k := 1) (h1 := conc (σ.wi l0 1 ((σ.i l0 1) + (1 : Int32)))) (pc' := 39) (by decide +kernel) rfl (c_pI (v := ((σ.i l0 1) + (1 : Int32))) (F.s p_l0) rfl) rfl rfl rfl ?_
  refine ab_fin.s2 (i := .aload_n 0) (k := 1) (pc' := 40) (lv' := [(0, .ref l0), (1, .int l1)]) (st' := [.ref l0]) (by decide +kernel) rfl rfl ?_
  refine ab_fin.q_rA (b := (l0 + 1)) (ix := 10) (ci := 22) (k := 0) (pc' := 43) (by decide +kernel) rfl (c_rA (F.s p_l0) rfl (rO_22_0 F p_l0)) rfl ?_
  refine ab_fin.s2 (i := .aload_n 0) (k := 1) (pc' := 44) (lv' := [(0, .ref l0), (1, .int l1)]) (st' := [.ref l0, .ref (l0 + 1)]) (by decide +kernel) rfl rfl ?_
  refine ab_fin.q_rI (x := ((σ.wi l0 1 ((σ.i l0 1) + (1 : Int32))).i l0 1)) (ix := 16) (ci := 22) (k := 1) (pc' := 47) (by decide +kernel) rfl (c_rI (F.s p_l0) rfl) rfl ?_
  refine ab_fin.s1i (i := .iconst 1) (k := 1) (pc' := 48) (n := 1) (by decide +kernel) rfl (by decide +kernel) rfl ?_
  refine ab_fin.s1 (i := .isub) (k := 1) (pc' := 49) (st' := [.int (((σ.wi l0 1 ((σ.i l0 1) + (1 : Int32))).i l0 1) - (1 : Int32)), .ref (l0 + 1)]) (by decide +kernel) rfl rfl ?_
  refine ab_fin.q_yW (i := .invokevirtual 31) (k := 3) (y := 11013) (As := [.ref (l0 + 1), .int (((σ.wi l0 1 ((σ.i l0 1) + (1 : Int32))).i l0 1) - (1 : Int32))]) (rest := []) (M' := (mJx4a65c_get_915e3, [])) (lv2 := [(0, .ref (l0 + 1)), (1, .int (((σ.wi l0 1 ((σ.i l0 1) + (1 : Int32))).i l0 1) - (1 : Int32)))]) (pc' := 52) (X := K) (by decide +kernel) (ab_cv rfl rfl (conc_get (σ := (σ.wi l0 1 ((σ.i l0 1) + (1 : Int32)))) (F.s (kF_22_1 p_l0))) ⟨(Nat.le_of_ble_eq_true rfl), (Nat.le_of_ble_eq_true rfl)⟩ rfl) rfl (Nat.le_of_ble_eq_true rfl) rfl rfl (hY_no fun E => rfl) w (fun v3 τ1 F2 w => ?_)
  obtain ⟨b4, e5, w⟩ := w
  rw [show rv v3 = .ref b4 from by rw [e5]; rfl]
  obtain ⟨e6, w⟩ := w
  refine ab_fin.q_cst (ix := 24) (pc' := 55) (by decide +kernel) (conc_get (σ := τ1) e6) rfl rfl ?_
  refine ab_fin.s2 (i := .iload_n 1) (k := 1) (pc' := 56) (lv' := [(0, .ref l0), (1, .int l1)]) (st' := [.int l1, .ref b4]) (by decide +kernel) rfl rfl ?_
  refine ab_fin.q_yW (i := .invokevirtual 35) (k := 3) (y := 5121) (As := [.ref b4, .int l1]) (rest := []) (M' := (mX20_be, [])) (lv2 := [(0, .ref b4), (1, .int l1)]) (pc' := 59) (X := K) (by decide +kernel) (ab_cv rfl rfl (conc_get (σ := τ1) e6) ⟨(Nat.le_of_ble_eq_true rfl), (Nat.le_of_ble_eq_true rfl)⟩ rfl) rfl (Nat.le_of_ble_eq_true rfl) rfl rfl (hY_no fun E => rfl) w (fun v9 τ7 F8 w => ?_)
  exact ab_fin.q_ret (i := .areturn) (k := 1) (v := some (rv v9)) (by decide +kernel) (ret_A (oR_rv _)) F8 w

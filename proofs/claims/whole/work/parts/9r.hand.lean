/-! THE REFERENCE: pieces that begin where a throw is caught (printed by sgenH.py) -/
def B_X23_eval_211 (Z : zT) (d : Nat) (σ : Sg) (l2 : Int64) (s0 : Nat) (K : kS) : Prop := ab_fin (hb_Gz Z.1 (some Z.2)) hb_GT d (mX23_eval, [(193, 203, 211, 0), (211, 213, 211, 0), (242, 250, 251, 790)]) 211 [(0, .ref 0), (2, .long l2)] [.ref s0] (conc σ) (lf ΦR K)
def B_X23_eval_251 (Z : zT) (d : Nat) (σ : Sg) (l1 : Nat) (l2 : Int64) (l4 : Int32) (l5 : Int32) (s0 : Nat) (K : kS) : Prop := ab_fin (hb_Gz Z.1 (some Z.2)) hb_GT d (mX23_eval, [(193, 203, 211, 0), (211, 213, 211, 0), (242, 250, 251, 790)]) 251 [(0, .ref 0), (1, .ref l1), (2, .long l2), (4, .int l4), (5, .int l5)] [.ref s0] (conc σ) (lf ΦR K)
def B_X23_called_184 (Z : zT) (d : Nat) (σ : Sg) (s0 : Nat) (K : kS) : Prop := ab_fin (hb_Gz Z.1 (some Z.2)) hb_GT d (mX23_called, [(97, 129, 184, 0), (142, 171, 184, 0), (184, 186, 184, 0)]) 184 [(0, .ref 0)] [.ref s0] (conc σ) (lf ΦR K)
def B_X23_enter_168 (Z : zT) (d : Nat) (σ : Sg) (s0 : Nat) (K : kS) : Prop := ab_fin (hb_Gz Z.1 (some Z.2)) hb_GT d (mX23_enter, [(144, 155, 168, 0), (168, 170, 168, 0)]) 168 [(0, .ref 0)] [.ref s0] (conc σ) (lf ΦR K)
def B_X23_runAll_69 (Z : zT) (d : Nat) (σ : Sg) (s0 : Nat) (K : kS) : Prop := ab_fin (hb_Gz Z.1 (some Z.2)) hb_GT d (mX23_runAll, [(49, 66, 69, 790), (49, 66, 86, 888)]) 69 [(0, .ref 0)] [.ref s0] (conc σ) (lf ΦR K)
def B_X23_runAll_86 (Z : zT) (d : Nat) (σ : Sg) (s0 : Nat) (K : kS) : Prop := ab_fin (hb_Gz Z.1 (some Z.2)) hb_GT d (mX23_runAll, [(49, 66, 69, 790), (49, 66, 86, 888)]) 86 [(0, .ref 0)] [.ref s0] (conc σ) (lf ΦR K)
def B_X23_tell_65 (Z : zT) (d : Nat) (σ : Sg) (l1 : Int32) (l2 : Int32) (l3 : Int32) (l4 : Int32) (l5 : Int32) (s0 : Nat) (K : kS) : Prop := ab_fin (hb_Gz Z.1 (some Z.2)) hb_GT d (mX23_tell, [(35, 62, 65, 223)]) 65 [(0, .ref 0), (1, .int l1), (2, .int l2), (3, .int l3), (4, .int l4), (5, .int l5)] [.ref s0] (conc σ) (lf ΦR K)
def B_X23_program_88 (Z : zT) (d : Nat) (σ : Sg) (l2 : Rf) (s0 : Nat) (K : kS) : Prop := ab_fin (hb_Gz Z.1 (some Z.2)) hb_GT d (mX23_program, [(43, 85, 88, 223)]) 88 [(0, .ref 0), (2, rv l2)] [.ref s0] (conc σ) (lf ΦR K)
theorem S_X23_eval_211 {Z : zT} {d : Nat} {σ : Sg} {l2 : Int64} {s0 : Nat} {K : kS} (F : FX ΦR σ.sh σ.r) (w : ∃ x2, aT σ s0 x2 ∧ K (.inr (x2, s0)) (σ.wl 0 68 l2)) : B_X23_eval_211 Z (d + 1) σ l2 s0 K := by
  unfold B_X23_eval_211
  refine ab_fin.s2 (i := .astore 6) (k := 2) (pc' := 213) (lv' := [(6, .ref s0), (0, .ref 0), (2, .long l2)]) (st' := []) (by decide +kernel) rfl rfl ?_
  refine ab_fin.s2 (i := .aload_n 0) (k := 1) (pc' := 214) (lv' := [(6, .ref s0), (0, .ref 0), (2, .long l2)]) (st' := [.ref 0]) (by decide +kernel) rfl rfl ?_
  refine ab_fin.s2 (i := .lload_n 2) (k := 1) (pc' := 215) (lv' := [(6, .ref s0), (0, .ref 0), (2, .long l2)]) (st' := [.long l2, .ref 0]) (by decide +kernel) rfl rfl ?_
  refine ab_fin.q_pF (ix := 694) (ci := 24) (k := 68) (h1 := conc (σ.wl 0 68 l2)) (pc' := 218) (by decide +kernel) rfl (c_pL (v := l2) (F.s s0_0) rfl) rfl rfl rfl ?_
  refine ab_fin.s2 (i := .aload 6) (k := 2) (pc' := 220) (lv' := [(6, .ref s0), (0, .ref 0), (2, .long l2)]) (st' := [.ref s0]) (by decide +kernel) rfl rfl ?_
  obtain ⟨x2, e1, w⟩ := w
  exact ab_fin.q_ath (X := fun r h => ∃ τ, h = conc τ ∧ FX ΦR τ.sh τ.r ∧ K r τ) (by decide +kernel) (aT_ok e1) (fun p h ⟨τ, q, f, z⟩ => by subst q; exact ((hY_no fun E => rfl) : hY ΦR _ _ _ _ _ _ _ _ _ _) p τ f z) ⟨_, rfl, F, w⟩
theorem S_X23_eval_251 {Z : zT} {d : Nat} {σ : Sg} {l1 : Nat} {l2 : Int64} {l4 : Int32} {l5 : Int32} {s0 : Nat} {K : kS} (F : FX ΦR σ.sh σ.r) (w : ib l4 42 ∧ (σ.sh[l1]? = some (Sh.obj 21) ∧ (ib ((((σ.wl 0 68 l2).wi 0 87 l4).wi 0 70 l5).i l1 2) 16 ∧ (B_X23_eval_0 Z d ((((σ.wl 0 68 l2).wi 0 87 l4).wi 0 70 l5).wl (2136 + 1 + l4.toNatClampNeg) (((((σ.wl 0 68 l2).wi 0 87 l4).wi 0 70 l5).i l1 2).toNatClampNeg) (σ.l 0 78)) (σ.r l1 6) (yL K fun v6 τ4 => K (.inl (some (.long v6))) τ4))))) : B_X23_eval_251 Z (d + 1) σ l1 l2 l4 l5 s0 K := by
  unfold B_X23_eval_251
  refine ab_fin.s2 (i := .astore 6) (k := 2) (pc' := 253) (lv' := [(6, .ref s0), (0, .ref 0), (1, .ref l1), (2, .long l2), (4, .int l4), (5, .int l5)]) (st' := []) (by decide +kernel) rfl rfl ?_
  refine ab_fin.s2 (i := .aload_n 0) (k := 1) (pc' := 254) (lv' := [(6, .ref s0), (0, .ref 0), (1, .ref l1), (2, .long l2), (4, .int l4), (5, .int l5)]) (st' := [.ref 0]) (by decide +kernel) rfl rfl ?_
  refine ab_fin.s2 (i := .lload_n 2) (k := 1) (pc' := 255) (lv' := [(6, .ref s0), (0, .ref 0), (1, .ref l1), (2, .long l2), (4, .int l4), (5, .int l5)]) (st' := [.long l2, .ref 0]) (by decide +kernel) rfl rfl ?_
  refine ab_fin.q_pF (ix := 694) (ci := 24) (k := 68) (h1 := conc (σ.wl 0 68 l2)) (pc' := 258) (by decide +kernel) rfl (c_pL (v := l2) (F.s s0_0) rfl) rfl rfl rfl ?_
  refine ab_fin.s2 (i := .aload_n 0) (k := 1) (pc' := 259) (lv' := [(6, .ref s0), (0, .ref 0), (1, .ref l1), (2, .long l2), (4, .int l4), (5, .int l5)]) (st' := [.ref 0]) (by decide +kernel) rfl rfl ?_
  refine ab_fin.s2 (i := .iload 4) (k := 2) (pc' := 261) (lv' := [(6, .ref s0), (0, .ref 0), (1, .ref l1), (2, .long l2), (4, .int l4), (5, .int l5)]) (st' := [.int l4, .ref 0]) (by decide +kernel) rfl rfl ?_
  refine ab_fin.q_pF (ix := 782) (ci := 24) (k := 87) (h1 := conc ((σ.wl 0 68 l2).wi 0 87 l4)) (pc' := 264) (by decide +kernel) rfl (c_pI (v := l4) (F.s s0_0) rfl) rfl rfl rfl ?_
  refine ab_fin.s2 (i := .aload_n 0) (k := 1) (pc' := 265) (lv' := [(6, .ref s0), (0, .ref 0), (1, .ref l1), (2, .long l2), (4, .int l4), (5, .int l5)]) (st' := [.ref 0]) (by decide +kernel) rfl rfl ?_
  refine ab_fin.s2 (i := .iload 5) (k := 2) (pc' := 267) (lv' := [(6, .ref s0), (0, .ref 0), (1, .ref l1), (2, .long l2), (4, .int l4), (5, .int l5)]) (st' := [.int l5, .ref 0]) (by decide +kernel) rfl rfl ?_
  refine ab_fin.q_pF (ix := 787) (ci := 24) (k := 70) (h1 := conc (((σ.wl 0 68 l2).wi 0 87 l4).wi 0 70 l5)) (pc' := 270) (by decide +kernel) rfl (c_pI (v := l5) (F.s s0_0) rfl) rfl rfl rfl ?_
  refine ab_fin.s2 (i := .aload_n 0) (k := 1) (pc' := 271) (lv' := [(6, .ref s0), (0, .ref 0), (1, .ref l1), (2, .long l2), (4, .int l4), (5, .int l5)]) (st' := [.ref 0]) (by decide +kernel) rfl rfl ?_
  refine ab_fin.q_rA (b := 2136) (ix := 779) (ci := 24) (k := 90) (pc' := 274) (by decide +kernel) rfl (c_rA (F.s s0_0) rfl (rM_90 F)) rfl ?_
  refine ab_fin.s2 (i := .aload_n 0) (k := 1) (pc' := 275) (lv' := [(6, .ref s0), (0, .ref 0), (1, .ref l1), (2, .long l2), (4, .int l4), (5, .int l5)]) (st' := [.ref 0, .ref 2136]) (by decide +kernel) rfl rfl ?_
  refine ab_fin.q_rI (x := l4) (ix := 782) (ci := 24) (k := 87) (pc' := 278) (by decide +kernel) rfl (c_rI (F.s s0_0) rfl) rfl ?_
  obtain ⟨e1, w⟩ := w
  refine ab_fin.q_eA (b := (2136 + 1 + l4.toNatClampNeg)) (pc' := 279) (by decide +kernel) (c_eA' (F.s s0_2136) (by decide) rfl e1 rfl (rE_11 F s0_2136)) rfl ?_
  refine ab_fin.s2 (i := .aload_n 1) (k := 1) (pc' := 280) (lv' := [(6, .ref s0), (0, .ref 0), (1, .ref l1), (2, .long l2), (4, .int l4), (5, .int l5)]) (st' := [.ref l1, .ref (2136 + 1 + l4.toNatClampNeg)]) (by decide +kernel) rfl rfl ?_
  obtain ⟨e2, w⟩ := w
  refine ab_fin.q_rI (x := ((((σ.wl 0 68 l2).wi 0 87 l4).wi 0 70 l5).i l1 2)) (ix := 435) (ci := 21) (k := 2) (pc' := 283) (by decide +kernel) rfl (c_rI e2 rfl) rfl ?_
  refine ab_fin.s2 (i := .aload_n 0) (k := 1) (pc' := 284) (lv' := [(6, .ref s0), (0, .ref 0), (1, .ref l1), (2, .long l2), (4, .int l4), (5, .int l5)]) (st' := [.ref 0, .int ((((σ.wl 0 68 l2).wi 0 87 l4).wi 0 70 l5).i l1 2), .ref (2136 + 1 + l4.toNatClampNeg)]) (by decide +kernel) rfl rfl ?_
  refine ab_fin.q_rL (x := (σ.l 0 78)) (ix := 748) (ci := 24) (k := 78) (pc' := 287) (by decide +kernel) rfl (c_rL (F.s s0_0) rfl) rfl ?_
  obtain ⟨e3, w⟩ := w
  refine ab_fin.q_sL (h1 := conc ((((σ.wl 0 68 l2).wi 0 87 l4).wi 0 70 l5).wl (2136 + 1 + l4.toNatClampNeg) (((((σ.wl 0 68 l2).wi 0 87 l4).wi 0 70 l5).i l1 2).toNatClampNeg) (σ.l 0 78))) (pc' := 288) (by decide +kernel) (c_sL' (F.s (kE_2136 e1.2)) e3 rfl) rfl ?_
  refine ab_fin.s2 (i := .aload_n 0) (k := 1) (pc' := 289) (lv' := [(6, .ref s0), (0, .ref 0), (1, .ref l1), (2, .long l2), (4, .int l4), (5, .int l5)]) (st' := [.ref 0]) (by decide +kernel) rfl rfl ?_
  refine ab_fin.s2 (i := .aload_n 1) (k := 1) (pc' := 290) (lv' := [(6, .ref s0), (0, .ref 0), (1, .ref l1), (2, .long l2), (4, .int l4), (5, .int l5)]) (st' := [.ref l1, .ref 0]) (by decide +kernel) rfl rfl ?_
  refine ab_fin.q_rV (v := rv (σ.r l1 6)) (ix := 414) (ci := 21) (k := 6) (pc' := 293) (by decide +kernel) rfl (c_rV e2 rfl) rfl ?_
  refine ab_fin.q_yL (i := .invokevirtual 775) (k := 3) (y := 6088) (As := [.ref 0, rv (σ.r l1 6)]) (rest := []) (M' := (mX23_eval, [(193, 203, 211, 0), (211, 213, 211, 0), (242, 250, 251, 790)])) (lv2 := [(0, .ref 0), (1, rv (σ.r l1 6))]) (pc' := 296) (X := K) (by decide +kernel) (ab_cv rfl rfl (conc_get (σ := ((((σ.wl 0 68 l2).wi 0 87 l4).wi 0 70 l5).wl (2136 + 1 + l4.toNatClampNeg) (((((σ.wl 0 68 l2).wi 0 87 l4).wi 0 70 l5).i l1 2).toNatClampNeg) (σ.l 0 78))) (F.s s0_0)) ⟨(Nat.le_of_ble_eq_true rfl), (Nat.le_of_ble_eq_true rfl)⟩ rfl) rfl (by rw [lg_cnt]; simp only [List.map_cons, List.map_nil, cI, cL, cR1, cN1, cX1, cA (oR_rv _)]; exact Nat.le_of_ble_eq_true rfl) (by rw [lvA (v := .ref 0) rfl, lvA (oR_rv _), lvN]) rfl (hY_no fun E => rfl) w (fun v6 τ4 F5 w => ?_)
  exact ab_fin.q_ret (i := .lreturn) (k := 1) (v := some (.long v6)) (by decide +kernel) rfl F5 w
theorem S_X23_called_184 {Z : zT} {d : Nat} {σ : Sg} {s0 : Nat} {K : kS} (F : FX ΦR σ.sh σ.r) (w : ∃ x2, aT σ s0 x2 ∧ K (.inr (x2, s0)) (σ.wi 0 70 ((σ.i 0 70) - (1 : Int32)))) : B_X23_called_184 Z (d + 1) σ s0 K := by
  unfold B_X23_called_184
  refine ab_fin.s2 (i := .astore 11) (k := 2) (pc' := 186) (lv' := [(11, .ref s0), (0, .ref 0)]) (st' := []) (by decide +kernel) rfl rfl ?_
  refine ab_fin.s2 (i := .aload_n 0) (k := 1) (pc' := 187) (lv' := [(11, .ref s0), (0, .ref 0)]) (st' := [.ref 0]) (by decide +kernel) rfl rfl ?_
  refine ab_fin.s1 (i := .dup) (k := 1) (pc' := 188) (st' := [.ref 0, .ref 0]) (by decide +kernel) rfl rfl ?_
  refine ab_fin.q_rI (x := (σ.i 0 70)) (ix := 787) (ci := 24) (k := 70) (pc' := 191) (by decide +kernel) rfl (c_rI (F.s s0_0) rfl) rfl ?_
  refine ab_fin.s1i (i := .iconst 1) (k := 1) (pc' := 192) (n := 1) (by decide +kernel) rfl (by decide +kernel) rfl ?_
  refine ab_fin.s1 (i := .isub) (k := 1) (pc' := 193) (st' := [.int ((σ.i 0 70) - (1 : Int32)), .ref 0]) (by decide +kernel) rfl rfl ?_
  refine ab_fin.q_pF (ix := 787) (ci := 24) (k := 70) (h1 := conc (σ.wi 0 70 ((σ.i 0 70) - (1 : Int32)))) (pc' := 196) (by decide +kernel) rfl (c_pI (v := ((σ.i 0 70) - (1 : Int32))) (F.s s0_0) rfl) rfl rfl rfl ?_
  refine ab_fin.s2 (i := .aload 11) (k := 2) (pc' := 198) (lv' := [(11, .ref s0), (0, .ref 0)]) (st' := [.ref s0]) (by decide +kernel) rfl rfl ?_
  obtain ⟨x2, e1, w⟩ := w
  exact ab_fin.q_ath (X := fun r h => ∃ τ, h = conc τ ∧ FX ΦR τ.sh τ.r ∧ K r τ) (by decide +kernel) (aT_ok e1) (fun p h ⟨τ, q, f, z⟩ => by subst q; exact ((hY_no fun E => rfl) : hY ΦR _ _ _ _ _ _ _ _ _ _) p τ f z) ⟨_, rfl, F, w⟩
theorem S_X23_enter_168 {Z : zT} {d : Nat} {σ : Sg} {s0 : Nat} {K : kS} (F : FX ΦR σ.sh σ.r) (w : ∃ x2, aT σ s0 x2 ∧ K (.inr (x2, s0)) (σ.wi 0 87 ((σ.i 0 87) - (1 : Int32)))) : B_X23_enter_168 Z (d + 1) σ s0 K := by
  unfold B_X23_enter_168
  refine ab_fin.s2 (i := .astore 13) (k := 2) (pc' := 170) (lv' := [(13, .ref s0), (0, .ref 0)]) (st' := []) (by decide +kernel) rfl rfl ?_
  refine ab_fin.s2 (i := .aload_n 0) (k := 1) (pc' := 171) (lv' := [(13, .ref s0), (0, .ref 0)]) (st' := [.ref 0]) (by decide +kernel) rfl rfl ?_
  refine ab_fin.s1 (i := .dup) (k := 1) (pc' := 172) (st' := [.ref 0, .ref 0]) (by decide +kernel) rfl rfl ?_
  refine ab_fin.q_rI (x := (σ.i 0 87)) (ix := 782) (ci := 24) (k := 87) (pc' := 175) (by decide +kernel) rfl (c_rI (F.s s0_0) rfl) rfl ?_
  refine ab_fin.s1i (i := .iconst 1) (k := 1) (pc' := 176) (n := 1) (by decide +kernel) rfl (by decide +kernel) rfl ?_
  refine ab_fin.s1 (i := .isub) (k := 1) (pc' := 177) (st' := [.int ((σ.i 0 87) - (1 : Int32)), .ref 0]) (by decide +kernel) rfl rfl ?_
  refine ab_fin.q_pF (ix := 782) (ci := 24) (k := 87) (h1 := conc (σ.wi 0 87 ((σ.i 0 87) - (1 : Int32)))) (pc' := 180) (by decide +kernel) rfl (c_pI (v := ((σ.i 0 87) - (1 : Int32))) (F.s s0_0) rfl) rfl rfl rfl ?_
  refine ab_fin.s2 (i := .aload 13) (k := 2) (pc' := 182) (lv' := [(13, .ref s0), (0, .ref 0)]) (st' := [.ref s0]) (by decide +kernel) rfl rfl ?_
  obtain ⟨x2, e1, w⟩ := w
  exact ab_fin.q_ath (X := fun r h => ∃ τ, h = conc τ ∧ FX ΦR τ.sh τ.r ∧ K r τ) (by decide +kernel) (aT_ok e1) (fun p h ⟨τ, q, f, z⟩ => by subst q; exact ((hY_no fun E => rfl) : hY ΦR _ _ _ _ _ _ _ _ _ _) p τ f z) ⟨_, rfl, F, w⟩
theorem S_X23_runAll_69 {Z : zT} {d : Nat} {σ : Sg} {s0 : Nat} {K : kS} (F : FX ΦR σ.sh σ.r) (w : K (.inl (some (.int (1 : Int32)))) ((σ.wl 0 97 (σ.l 0 78)).wi 0 79 (1 : Int32))) : B_X23_runAll_69 Z (d + 1) σ s0 K := by
  unfold B_X23_runAll_69
  refine ab_fin.s2 (i := .astore_n 1) (k := 1) (pc' := 70) (lv' := [(1, .ref s0), (0, .ref 0)]) (st' := []) (by decide +kernel) rfl rfl ?_
  refine ab_fin.s2 (i := .aload_n 0) (k := 1) (pc' := 71) (lv' := [(1, .ref s0), (0, .ref 0)]) (st' := [.ref 0]) (by decide +kernel) rfl rfl ?_
  refine ab_fin.s2 (i := .aload_n 0) (k := 1) (pc' := 72) (lv' := [(1, .ref s0), (0, .ref 0)]) (st' := [.ref 0, .ref 0]) (by decide +kernel) rfl rfl ?_
  refine ab_fin.q_rL (x := (σ.l 0 78)) (ix := 748) (ci := 24) (k := 78) (pc' := 75) (by decide +kernel) rfl (c_rL (F.s s0_0) rfl) rfl ?_
  refine ab_fin.q_pF (ix := 882) (ci := 24) (k := 97) (h1 := conc (σ.wl 0 97 (σ.l 0 78))) (pc' := 78) (by decide +kernel) rfl (c_pL (v := (σ.l 0 78)) (F.s s0_0) rfl) rfl rfl rfl ?_
  refine ab_fin.s2 (i := .aload_n 0) (k := 1) (pc' := 79) (lv' := [(1, .ref s0), (0, .ref 0)]) (st' := [.ref 0]) (by decide +kernel) rfl rfl ?_
  refine ab_fin.s1i (i := .iconst 1) (k := 1) (pc' := 80) (n := 1) (by decide +kernel) rfl (by decide +kernel) rfl ?_
  refine ab_fin.q_pF (ix := 755) (ci := 24) (k := 79) (h1 := conc ((σ.wl 0 97 (σ.l 0 78)).wi 0 79 (1 : Int32))) (pc' := 83) (by decide +kernel) rfl (c_pI (v := 1) (F.s s0_0) rfl) rfl rfl rfl ?_
  refine ab_fin.s3 (i := .goto 13) (k := 3) (t := 96) (st' := []) (by decide +kernel) (ab_gto (by decide +kernel)) ?_
  refine ab_fin.s2 (i := .aload_n 0) (k := 1) (pc' := 97) (lv' := [(1, .ref s0), (0, .ref 0)]) (st' := [.ref 0]) (by decide +kernel) rfl rfl ?_
  refine ab_fin.q_rI (x := (1 : Int32)) (ix := 755) (ci := 24) (k := 79) (pc' := 100) (by decide +kernel) rfl (c_rI (F.s s0_0) rfl) rfl ?_
  exact ab_fin.q_ret (i := .ireturn) (k := 1) (v := some (.int (1 : Int32))) (by decide +kernel) rfl F w
theorem S_X23_runAll_86 {Z : zT} {d : Nat} {σ : Sg} {s0 : Nat} {K : kS} (F : FX ΦR σ.sh σ.r) (w : B_X23_value_0 Z d σ (-1) 0 (yL K fun v3 τ1 => K (.inl (some (.int (τ1.i 0 79)))) (τ1.wl 0 97 v3))) : B_X23_runAll_86 Z (d + 1) σ s0 K := by
  unfold B_X23_runAll_86
  refine ab_fin.s2 (i := .astore_n 1) (k := 1) (pc' := 87) (lv' := [(1, .ref s0), (0, .ref 0)]) (st' := []) (by decide +kernel) rfl rfl ?_
  refine ab_fin.s2 (i := .aload_n 0) (k := 1) (pc' := 88) (lv' := [(1, .ref s0), (0, .ref 0)]) (st' := [.ref 0]) (by decide +kernel) rfl rfl ?_
  refine ab_fin.s1i (i := .iconst (-1)) (k := 1) (pc' := 89) (n := (-1)) (by decide +kernel) rfl (by decide +kernel) rfl ?_
  refine ab_fin.s1i (i := .iconst 0) (k := 1) (pc' := 90) (n := 0) (by decide +kernel) rfl (by decide +kernel) rfl ?_
  refine ab_fin.q_yL (i := .invokestatic 745) (k := 3) (y := 5973) (As := [.int (-1), .int 0]) (rest := [.ref 0]) (M' := (mX23_value, [])) (lv2 := [(0, .int (-1)), (1, .int 0)]) (pc' := 93) (X := K) (by decide +kernel) (ab_cs rfl rfl ⟨(Nat.le_of_ble_eq_true rfl), (Nat.le_of_ble_eq_true rfl)⟩ rfl) rfl (Nat.le_of_ble_eq_true rfl) rfl rfl (hY_no fun E => rfl) w (fun v3 τ1 F2 w => ?_)
  refine ab_fin.q_pF (ix := 882) (ci := 24) (k := 97) (h1 := conc (τ1.wl 0 97 v3)) (pc' := 96) (by decide +kernel) rfl (c_pL (v := v3) (F2.s s0_0) rfl) rfl rfl rfl ?_
  refine ab_fin.s2 (i := .aload_n 0) (k := 1) (pc' := 97) (lv' := [(1, .ref s0), (0, .ref 0)]) (st' := [.ref 0]) (by decide +kernel) rfl rfl ?_
  refine ab_fin.q_rI (x := (τ1.i 0 79)) (ix := 755) (ci := 24) (k := 79) (pc' := 100) (by decide +kernel) rfl (c_rI (F2.s s0_0) rfl) rfl ?_
  exact ab_fin.q_ret (i := .ireturn) (k := 1) (v := some (.int (τ1.i 0 79))) (by decide +kernel) rfl F2 w
theorem S_X23_tell_65 {Z : zT} {d : Nat} {σ : Sg} {l1 : Int32} {l2 : Int32} {l3 : Int32} {l4 : Int32} {l5 : Int32} {s0 : Nat} {K : kS} (F : FX ΦR σ.sh σ.r) (w : σ.sh[s0]? = some (Sh.obj 23) ∧ (B_X23_tell_79 Z (d + 1) (σ.wi 0 112 (1 : Int32)) l1 l2 l3 l4 l5 (σ.i s0 6) K)) : B_X23_tell_65 Z (d + 1) σ l1 l2 l3 l4 l5 s0 K := by
  unfold B_X23_tell_65
  refine ab_fin.s2 (i := .astore 7) (k := 2) (pc' := 67) (lv' := [(7, .ref s0), (0, .ref 0), (1, .int l1), (2, .int l2), (3, .int l3), (4, .int l4), (5, .int l5)]) (st' := []) (by decide +kernel) rfl rfl ?_
  refine ab_fin.s2 (i := .aload 7) (k := 2) (pc' := 69) (lv' := [(7, .ref s0), (0, .ref 0), (1, .int l1), (2, .int l2), (3, .int l3), (4, .int l4), (5, .int l5)]) (st' := [.ref s0]) (by decide +kernel) rfl rfl ?_
  obtain ⟨e1, w⟩ := w
  refine ab_fin.q_rI (x := (σ.i s0 6)) (ix := 1013) (ci := 23) (k := 6) (pc' := 72) (by decide +kernel) rfl (c_rI e1 rfl) rfl ?_
  refine ab_fin.s2 (i := .istore 6) (k := 2) (pc' := 74) (lv' := [(6, .int (σ.i s0 6)), (7, .ref s0), (0, .ref 0), (1, .int l1), (2, .int l2), (3, .int l3), (4, .int l4), (5, .int l5)]) (st' := []) (by decide +kernel) rfl rfl ?_
  refine ab_fin.s2 (i := .aload_n 0) (k := 1) (pc' := 75) (lv' := [(6, .int (σ.i s0 6)), (7, .ref s0), (0, .ref 0), (1, .int l1), (2, .int l2), (3, .int l3), (4, .int l4), (5, .int l5)]) (st' := [.ref 0]) (by decide +kernel) rfl rfl ?_
  refine ab_fin.s1i (i := .iconst 1) (k := 1) (pc' := 76) (n := 1) (by decide +kernel) rfl (by decide +kernel) rfl ?_
  refine ab_fin.q_pF (ix := 1010) (ci := 24) (k := 112) (h1 := conc (σ.wi 0 112 (1 : Int32))) (pc' := 79) (by decide +kernel) rfl (c_pI (v := 1) (F.s s0_0) rfl) rfl rfl rfl ?_
  exact ab_fin.lv ⟨(List.forall_mem_cons.mpr ⟨(List.Mem.tail _ (List.Mem.tail _ (List.Mem.head _))), (List.forall_mem_cons.mpr ⟨(List.Mem.tail _ (List.Mem.tail _ (List.Mem.tail _ (List.Mem.head _)))), (List.forall_mem_cons.mpr ⟨(List.Mem.tail _ (List.Mem.tail _ (List.Mem.tail _ (List.Mem.tail _ (List.Mem.head _))))), (List.forall_mem_cons.mpr ⟨(List.Mem.tail _ (List.Mem.tail _ (List.Mem.tail _ (List.Mem.tail _ (List.Mem.tail _ (List.Mem.head _)))))), (List.forall_mem_cons.mpr ⟨(List.Mem.tail _ (List.Mem.tail _ (List.Mem.tail _ (List.Mem.tail _ (List.Mem.tail _ (List.Mem.tail _ (List.Mem.head _))))))), (List.forall_mem_cons.mpr ⟨(List.Mem.tail _ (List.Mem.tail _ (List.Mem.tail _ (List.Mem.tail _ (List.Mem.tail _ (List.Mem.tail _ (List.Mem.tail _ (List.Mem.head _)))))))), (List.forall_mem_cons.mpr ⟨(List.Mem.head _), (fun _ h => absurd h List.not_mem_nil)⟩)⟩)⟩)⟩)⟩)⟩)⟩), (show ([6, 7, 0, 1, 2, 3, 4, 5] : List Nat).Nodup from by decide)⟩ w
theorem S_X23_program_88 {Z : zT} {d : Nat} {σ : Sg} {l2 : Rf} {s0 : Nat} {K : kS} (F : FX ΦR σ.sh σ.r) (w : σ.sh[s0]? = some (Sh.obj 23) ∧ (B_X23_program_99 Z (d + 1) (σ.wi 0 112 (1 : Int32)) (σ.i s0 6) l2 K)) : B_X23_program_88 Z (d + 1) σ l2 s0 K := by
  unfold B_X23_program_88
  refine ab_fin.q_stA (i := .astore_n 3) (n := 3) (k := 1) (pc' := 89) (lv' := [(3, .ref s0), (0, .ref 0), (2, rv l2)]) (Or.inl ⟨_, rfl, rfl, rfl⟩) (by decide +kernel) (by decide) rfl (by simp only [ab_st1, List.filter_cons, List.filter_nil, cA (oR_rv _)]; rfl) rfl ?_
  refine ab_fin.s2 (i := .aload_n 3) (k := 1) (pc' := 90) (lv' := [(3, .ref s0), (0, .ref 0), (2, rv l2)]) (st' := [.ref s0]) (by decide +kernel) rfl rfl ?_
  obtain ⟨e1, w⟩ := w
  refine ab_fin.q_rI (x := (σ.i s0 6)) (ix := 1013) (ci := 23) (k := 6) (pc' := 93) (by decide +kernel) rfl (c_rI e1 rfl) rfl ?_
  refine ab_fin.s2 (i := .istore_n 1) (k := 1) (pc' := 94) (lv' := [(1, .int (σ.i s0 6)), (3, .ref s0), (0, .ref 0), (2, rv l2)]) (st' := []) (by decide +kernel) rfl rfl ?_
  refine ab_fin.s2 (i := .aload_n 0) (k := 1) (pc' := 95) (lv' := [(1, .int (σ.i s0 6)), (3, .ref s0), (0, .ref 0), (2, rv l2)]) (st' := [.ref 0]) (by decide +kernel) rfl rfl ?_
  refine ab_fin.s1i (i := .iconst 1) (k := 1) (pc' := 96) (n := 1) (by decide +kernel) rfl (by decide +kernel) rfl ?_
  refine ab_fin.q_pF (ix := 1010) (ci := 24) (k := 112) (h1 := conc (σ.wi 0 112 (1 : Int32))) (pc' := 99) (by decide +kernel) rfl (c_pI (v := 1) (F.s s0_0) rfl) rfl rfl rfl ?_
  exact ab_fin.lv ⟨(List.forall_mem_cons.mpr ⟨(List.Mem.tail _ (List.Mem.tail _ (List.Mem.head _))), (List.forall_mem_cons.mpr ⟨(List.Mem.head _), (List.forall_mem_cons.mpr ⟨(List.Mem.tail _ (List.Mem.tail _ (List.Mem.tail _ (List.Mem.head _)))), (fun _ h => absurd h List.not_mem_nil)⟩)⟩)⟩), (show ([1, 3, 0, 2] : List Nat).Nodup from by decide)⟩ w

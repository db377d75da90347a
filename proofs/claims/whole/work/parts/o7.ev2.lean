/-! THE CLASS: the machine follows ev, further -/
section EVM2
variable {Z : zT} {d : Nat} {C V V' V2 : Nat × Nat × Nat × Nat} {W : Wld} {wy a0 ch U fuel : Nat} {f : Fc} {S : Es} {k P dp tn j nv hm : Nat} {lt : Int32} {on : List Nat} {stk vs args : List Int64} {σ τ υ : Sg} {K Kx : kS} {N : Nat → Prop} {pl : Nat} {cl : Cf} {fu : Nf} {Fr : Sg → Prop}
/-- TRY -/
theorem em_5 (hFr : FrC dp Fr) (v w : Int) (a b : Ast) (nv : Nat) (hv : v = (nv : Int)) (h14 : nv ≤ 14) (ia : EvM Z d C W wy a0 ch U f fuel dp pl cl fu Fr a false nv) (ib : EvM Z d C W wy a0 ch U f fuel dp pl cl fu Fr b false (nv + 1)) : EvM Z d C W wy a0 ch U f fuel dp pl cl fu Fr (aN 5 v w a b .nil) false nv := by
  refine ⟨fun _ => ?_, fun z => by cases z⟩
  intro V P P' k acc vs on S stk lt tn j σ K hP hP' hC hl hpl va fr A hs hK
  rw [cq_5] at hP hC
  rw [ev_5] at hK
  rw [List.length_cons, List.length_append, List.length_cons, List.length_cons] at hP
  have hs1 : sH (aN 5 v w a b .nil) = max (sH a + 4) (max (sH b + 0) (max (sH .nil + 0) 1)) := rfl
  have hd := A.dp24
  have hon := A.2.2.1.2.2.2.2.2.2.2.1
  refine pf_1 A (by omega) hC.c hK (fun τ1 g1 A1 K1 => ?_)
  refine po_try A1 (by omega) (fun τ2 g2 A2 => ?_)
  have gg : MFr (dp + 1) (Nv dp nv) V V σ τ2 := (g1.tr g2).ms _ _ _
  have va2 := va.mf gg (by omega)
  have fr2 := hFr.mf fr gg
  have K2 : McQ Z d C W wy a0 ch U f fuel (dp + 1) (Nv dp nv) V τ2 dp stk on lt P' j (trR (ev W fuel pl cl fu a false 0 vs on (S.1 + 1, S.2)) fun x S => ev W fuel pl cl fu b false 0 (vs ++ [x]) on S) K := McQ.fr K1 (g2.ms _ _ _)
  refine ia.1 rfl V _ _ 0 0 vs on _ (stk ++ [lyE on, Int32.toInt64 (Int32.ofNat dp), Int32.toInt64 (Int32.ofNat (P + (cdB a false (P + 1) 0).length + 2)), Int32.toInt64 lt]) (Int32.ofNat stk.length) _ (j + 2) τ2 K rfl (by omega) hC.t.l hl hpl va2 fr2 A2 (by rw [List.length_append]; show stk.length + 4 + _ ≤ _; omega) ?_
  generalize ev W fuel pl cl fu a false 0 vs on (S.1 + 1, S.2) = r at K2 ⊢
  rcases r with ⟨x | x | x, S5⟩
  · intro V5 τ5 tn5 g5 A5 vx
    rw [List.append_assoc] at A5
    refine pf_0 A5 (by omega) hC.t.r.c (fun τ6 g6 A6 => po_tried A6 (fun τ7 g7 A7 => ?_))
    refine K2 V5 τ7 _ (g5.tr ((g6.tr g7).ms _ _ _)) ?_ vx
    rw [show P' = P + (cdB a false (P + 1) 0).length + 3 + (cdB b false (P + (cdB a false (P + 1) 0).length + 3) 0).length by omega]
    exact A7.less (by omega)
  · intro V5 τ5 tn5 g5 B5 M5 ⟨s1, s2, s3, s4⟩ tt vx Kx hx
    have K5 := McQ.fr K2 g5
    have va5 := va2.mf g5 (by omega)
    have fr5 := hFr.mf fr2 g5
    refine fw_try (fuel := fuel) (on := on) (dp := dp) (tn := tn5) (j := j + 2) (P' := P + (cdB a false (P + 1) 0).length + 2) (lt' := lt) (stk := stk) B5 M5 s1 s2 s3 s4 (by omega) hon hd tt (fun τ6 g6 A6 => hx τ6 A6.fx A6.2.2.1.2.2.2.2.1 ?_)
    have hc := hC.t.r.t
    rw [show P + 1 + (cdB a false (P + 1) 0).length + 1 = P + (cdB a false (P + 1) 0).length + 2 by omega] at hc
    refine pf_0 A6 (by omega) hc.c (fun τ7 g7 A7 => ?_)
    show PfO Z d K fuel tn5 12 (Int32.ofInt v) τ7
    rw [hv, ← hl]
    refine po_store (i := vs.length) A7 (by omega) (fun τ8 g8 e8 e8' A8 => ?_)
    have g67 := g6.tr g7
    have gg : MFr (dp + 1) (Nv dp nv) V5 V5 τ5 τ8 := (g67.ms _ _ _).tr (g8.mf _ _ (fun a q => e8 a (by unfold Nv at q; omega)))
    refine ib.1 rfl V5 (P + (cdB a false (P + 1) 0).length + 3) P' 0 0 (vs ++ [x]) on S5 stk lt _ j τ8 K (by omega) hP' hc.t (by rw [List.length_append]; show vs.length + 1 = _; omega) (by omega) ((mS_va va5 g67).push e8 e8' vx) (hFr.mf fr5 gg) (A8.less (by omega)) (by omega) ((K5.fr gg).more (Nat.le_refl _) (fun a q => by unfold Nv at q ⊢; omega))
  · exact K2
/-- FAIL -/
theorem em_6 (v w : Int) (a : Ast) (nv : Nat) (wa : FsI a) (ia : EvM Z d C W wy a0 ch U f fuel dp pl cl fu Fr a false nv) : EvM Z d C W wy a0 ch U f fuel dp pl cl fu Fr (aN 6 v w a .nil .nil) false nv := by
  refine ⟨fun _ => ?_, fun z => by cases z⟩
  intro V P P' k acc vs on S stk lt tn j σ K hP hP' hC hl hpl va fr A hs hK
  rw [cq_6] at hP hC
  rw [ev_6] at hK
  rw [List.length_append, List.length_singleton] at hP
  have hs1 : sH (aN 6 v w a .nil .nil) = max (sH a + 0) (max (sH .nil + 0) (max (sH .nil + 0) 1)) := rfl
  refine ev_pend (n := 1) wa (by decide) A (by omega) hC.l hK (fun A1 K1 => ?_)
  refine ia.1 rfl V P _ (k + 1) 0 vs on _ stk lt tn (j + 3) σ K rfl (by omega) hC.l hl hpl va fr A1 (by omega) ?_
  have key := McQ.bn (z := []) (j1 := j + 3) (P1 := P + (cdB a false P (k + 1)).length) (on1 := on) (by omega) K1 (fun x S2 V2 τ2 tn2 g2 A2 vx K2 => ?_)
  · rw [List.append_nil] at key
    exact key
  · rw [List.append_nil] at A2
    refine pf_0 A2 (by omega) hC.r.c (fun τ3 g3 A3 => ⟨fun _ => cl_pop A3.fx A3.skS (fun τ4 g4 s4 _ => ?_), fun q => absurd q (show ¬ (20 : Int32) = 22 by decide), fun q => absurd q (show ¬ (20 : Int32) = 23 by decide), fun q => absurd q (show ¬ (20 : Int32) = 24 by decide), fun q => absurd q (show ¬ (20 : Int32) = 25 by decide), fun q => absurd rfl q⟩)
    have A4 := A3.sk g4 s4
    obtain ⟨a1, a2, ⟨a7, ⟨s, a14, as⟩, ⟨a6, a6'⟩, a8, a9, a11, a10, al, ast⟩, ⟨af, af'⟩, at1, at2⟩ := id A4
    refine K2 V2 τ4 (tn2 + 1) ((g3.tr g4.ms).ms _ _ _) a1 a2 ⟨by rw [a14, show s = S2.1 by omega], a8, a11, ast.2⟩ ⟨af, af', by omega, by omega⟩ vx _ (fun τ' F' h9 w => pf_257 F' h9 w)
/-- SHOW -/
theorem em_7 (v w : Int) (a : Ast) (nv : Nat) (wa : FsI a) (ia : EvM Z d C W wy a0 ch U f fuel dp pl cl fu Fr a false nv) : EvM Z d C W wy a0 ch U f fuel dp pl cl fu Fr (aN 7 v w a .nil .nil) false nv := by
  refine ⟨fun _ => ?_, fun z => by cases z⟩
  intro V P P' k acc vs on S stk lt tn j σ K hP hP' hC hl hpl va fr A hs hK
  rw [cq_7] at hP hC
  rw [ev_7] at hK
  rw [List.length_append, List.length_singleton] at hP
  have hs1 : sH (aN 7 v w a .nil .nil) = max (sH a + 0) (max (sH .nil + 0) (max (sH .nil + 0) 1)) := rfl
  refine ev_pend (n := 1) wa (by decide) A (by omega) hC.l hK (fun A1 K1 => ?_)
  refine ia.1 rfl V P _ (k + 1) 0 vs on _ stk lt tn (j + 3) σ K rfl (by omega) hC.l hl hpl va fr A1 (by omega) ?_
  have key := McQ.bn (z := []) (j1 := j + 3) (P1 := P + (cdB a false P (k + 1)).length) (on1 := on) (by omega) K1 (fun x S2 V2 τ2 tn2 g2 A2 vx K2 => ?_)
  · rw [List.append_nil] at key
    exact key
  · rw [List.append_nil] at A2
    refine pf_0 A2 (by omega) hC.r.c (fun τ3 g3 A3 => po_show A3 (fun q τ4 g4 B4 M4 E4 => ?_) (fun q τ4 g4 A4 => ?_))
    · rw [if_pos q] at K2
      obtain ⟨-, -, -, ⟨af, -⟩, at1, at2⟩ := A3
      exact K2 V2 τ4 ((g3.tr g4).ms _ _ _) B4 M4 ⟨E4.1, E4.2.1, E4.2.2, Or.inr rfl⟩ ⟨af, by omega⟩
    · rw [if_neg q] at K2
      refine K2 V2 τ4 _ ((g3.tr g4).ms _ _ _) ?_ vx
      rw [show P' = P + (cdB a false P (k + 1)).length + 1 by omega]
      exact A4.less (by omega)
theorem em_16 (h1 : 1 ∈ mkW W.1) (v w : Int) (a : Ast) (nv : Nat) (wa : FsI a) (ia : EvM Z d C W wy a0 ch U f fuel dp pl cl fu Fr a false nv) : EvM Z d C W wy a0 ch U f fuel dp pl cl fu Fr (aN 16 v w a .nil .nil) false nv := by
  refine ⟨fun _ => ?_, fun z => by cases z⟩
  intro V P P' k acc vs on S stk lt tn j σ K hP hP' hC hl hpl va fr A hs hK
  rw [cq_16] at hP hC
  rw [ev_16] at hK
  rw [List.length_append, List.length_singleton] at hP
  have hs1 : sH (aN 16 v w a .nil .nil) = max (sH a + 0) (max (sH .nil + 0) (max (sH .nil + 0) 1)) := rfl
  refine ev_pend (n := 1) wa (by decide) A (by omega) hC.l hK (fun A1 K1 => ?_)
  refine ia.1 rfl V P _ (k + 1) 0 vs on _ stk lt tn (j + 3) σ K rfl (by omega) hC.l hl hpl va fr A1 (by omega) ?_
  have key := McQ.bn (z := []) (j1 := j + 3) (P1 := P + (cdB a false P (k + 1)).length) (on1 := on) (by omega) K1 (fun x S2 V2 τ2 tn2 g2 A2 vx K2 => ?_)
  · rw [List.append_nil] at key
    exact key
  · rw [List.append_nil] at A2
    refine pf_0 A2 (by omega) hC.r.c (fun τ3 g3 A3 => po_hash A3 (fun τ4 g4 A4 => ?_))
    refine K2 V2 τ4 _ ((g3.tr g4).ms _ _ _) ?_ ⟨1, _, rfl, h1⟩
    rw [show P' = P + (cdB a false P (k + 1)).length + 1 by omega]
    exact A4.less (by omega)
theorem em_13 (v : Int) (a : Ast) (nv : Nat) (hv : 0 ≤ v ∧ v.toNat ∈ mkW W.1) (wa : FsI a) (ia : EvM Z d C W wy a0 ch U f fuel dp pl cl fu Fr a false nv) : EvM Z d C W wy a0 ch U f fuel dp pl cl fu Fr (aN 13 v 1 a .nil .nil) false nv := by
  refine ⟨fun _ => ?_, fun z => by cases z⟩
  intro V P P' k acc vs on S stk lt tn j σ K hP hP' hC hl hpl va fr A hs hK
  rw [cq_13, List.append_nil] at hP hC
  rw [ev_13] at hK
  rw [List.length_append, List.length_singleton] at hP
  have hs1 : sH (aN 13 v 1 a .nil .nil) = max (sH a + 0) (max (sH .nil + 1) (max (sH .nil + 2) 1)) := rfl
  refine ev_pend (n := 1) wa (by decide) A (by omega) hC.l hK (fun A1 K1 => ?_)
  refine ia.1 rfl V P _ (k + 1) 0 vs on _ stk lt tn (j + 3) σ K rfl (by omega) hC.l hl hpl va fr A1 (by omega) ?_
  have key := McQ.bn (z := []) (j1 := j + 3) (P1 := P + (cdB a false P (k + 1)).length) (on1 := on) (by omega) K1 (fun x S2 V2 τ2 tn2 g2 A2 vx K2 => ?_)
  · rw [List.append_nil] at key
    exact key
  · rw [List.append_nil] at A2
    refine pf_0 A2 (by omega) hC.r.c (fun τ3 g3 A3 => po_make A3 (fun τ4 g4 A4 => ?_))
    refine K2 V2 τ4 _ ((g3.tr g4).ms _ _ _) ?_ ⟨v.toNat, nmV x, by rw [oI_N v hv.1], hv.2⟩
    rw [show P' = P + (cdB a false P (k + 1)).length + 1 by omega]
    exact A4.less (by omega)
theorem em_9 (h1 : 1 ∈ mkW W.1) (v w : Int) (a : Ast) (nv : Nat) (hv : 0 ≤ v ∧ v < (W.1.length : Int)) (wa : FsI a) (ia : EvM Z d C W wy a0 ch U f fuel dp pl cl fu Fr a false nv) : EvM Z d C W wy a0 ch U f fuel dp pl cl fu Fr (aN 9 v w a .nil .nil) false nv := by
  refine ⟨fun _ => ?_, fun z => by cases z⟩
  intro V P P' k acc vs on S stk lt tn j σ K hP hP' hC hl hpl va fr A hs hK
  rw [cq_9] at hP hC
  rw [ev_9] at hK
  rw [List.length_append, List.length_singleton] at hP
  have h24 := A.sk24.2.1.2.1
  have hs1 : sH (aN 9 v w a .nil .nil) = max (sH a + 0) (max (sH .nil + 0) (max (sH .nil + 0) 1)) := rfl
  refine ev_pend (n := 1) wa (by decide) A (by omega) hC.l hK (fun A1 K1 => ?_)
  refine ia.1 rfl V P _ (k + 1) 0 vs on _ stk lt tn (j + 3) σ K rfl (by omega) hC.l hl hpl va fr A1 (by omega) ?_
  have key := McQ.bn (z := []) (j1 := j + 3) (P1 := P + (cdB a false P (k + 1)).length) (on1 := on) (by omega) K1 (fun x S2 V2 τ2 tn2 g2 A2 vx K2 => ?_)
  · rw [List.append_nil] at key
    exact key
  · rw [List.append_nil] at A2
    refine pf_0 A2 (by omega) hC.r.c (fun τ3 g3 A3 => ?_)
    show PfO Z d K fuel tn2 4 (Int32.ofInt v) τ3
    rw [oI_N v hv.1]
    refine po_is A3 vx (by omega) (fun τ4 g4 A4 => ?_)
    refine K2 V2 τ4 _ ((g3.tr g4).ms _ _ _) ?_ ⟨1, _, rfl, h1⟩
    rw [show P' = P + (cdB a false P (k + 1)).length + 1 by omega]
    exact A4.less (by omega)
theorem em_11 (h1 : 1 ∈ mkW W.1) (v w : Int) (nv : Nat) : EvM Z d C W wy a0 ch U f fuel dp pl cl fu Fr (aN 11 v w .nil .nil .nil) false nv := by
  refine ⟨fun _ => ?_, fun z => by cases z⟩
  intro V P P' k acc vs on S stk lt tn j σ K hP hP' hC hl hpl va fr A hs hK
  rw [cq_11] at hP hC
  rw [ev_11] at hK
  rw [List.length_singleton] at hP
  have hd := A.dp24
  have hs1 : sH (aN 11 v w .nil .nil .nil) = 1 := rfl
  refine pf_1 A (by omega) hC.c hK (fun τ1 g1 A1 K1 => po_num A1 (by omega) (fun τ2 g2 A2 => ?_))
  refine K1 V τ2 _ (g2.ms _ _ _) ?_ ⟨1, _, rfl, h1⟩
  rw [hP]
  exact A2.less (by omega)
theorem em_12 (v w : Int) (nv : Nat) (hv : 0 ≤ v ∧ v < (nv : Int)) : EvM Z d C W wy a0 ch U f fuel dp pl cl fu Fr (aN 12 v w .nil .nil .nil) false nv := by
  refine ⟨fun _ => ?_, fun z => by cases z⟩
  intro V P P' k acc vs on S stk lt tn j σ K hP hP' hC hl hpl va fr A hs hK
  rw [cq_12] at hP hC
  rw [ev_12] at hK
  rw [List.length_singleton] at hP
  have hd := A.dp24
  have hs1 : sH (aN 12 v w .nil .nil .nil) = 1 := rfl
  obtain ⟨x, hx⟩ : ∃ x, vs[v.toNat]? = some x := ⟨_, List.getElem?_eq_getElem (by omega)⟩
  obtain ⟨x1, x2⟩ := va _ _ hx
  refine pf_1 A (by omega) hC.c hK (fun τ1 g1 A1 K1 => ?_)
  show PfO Z d K fuel tn 1 (Int32.ofInt v) τ1
  rw [oI_N v hv.1]
  refine po_var (x := x) A1 (by omega) (by omega) ?_ (fun τ2 g2 A2 => ?_)
  · rw [(g1.2.2 94 (fun q => by unfold mS at q; omega)).2]
    exact x1
  · rw [List.getD_eq_getElem?_getD, hx] at K1
    refine K1 V τ2 _ (g2.ms _ _ _) ?_ x2
    rw [hP]
    exact A2.less (by omega)
theorem cm_jt {v : Int} (hv : v = 15 ∨ v = 16 ∨ v = 17) (x y : Int32) : ∃ o : Nat, (5 ≤ o ∧ o ≤ 11) ∧ o ≠ 8 ∧ cmO v = Int32.ofNat o ∧ jtV (Int32.ofNat o) x y = if cmV v x y = true then 1 else 0 := by
  rcases hv with rfl | rfl | rfl
  · refine ⟨9, by decide, by decide, rfl, ?_⟩
    show (if x < y then (1 : Int32) else 0) = if decide (x < y) = true then 1 else 0
    by_cases q : x < y
    · rw [if_pos q, if_pos (decide_eq_true q)]
    · rw [if_neg q, if_neg (by rw [decide_eq_true_iff]; exact q)]
  · refine ⟨11, by decide, by decide, rfl, ?_⟩
    show (if x = y then (1 : Int32) else 0) = if decide (x = y) = true then 1 else 0
    by_cases q : x = y
    · rw [if_pos q, if_pos (decide_eq_true q)]
    · rw [if_neg q, if_neg (by rw [decide_eq_true_iff]; exact q)]
  · refine ⟨10, by decide, by decide, rfl, ?_⟩
    show (if x ≤ y then (1 : Int32) else 0) = if decide (x ≤ y) = true then 1 else 0
    by_cases q : x ≤ y
    · rw [if_pos q, if_pos (decide_eq_true q)]
    · rw [if_neg q, if_neg (by rw [decide_eq_true_iff]; exact q)]
/-- a comparison -/
theorem em_8 (hFr : FrC dp Fr) (h1 : 1 ∈ mkW W.1) (v w : Int) (a b : Ast) (nv : Nat) (hv : v = 15 ∨ v = 16 ∨ v = 17) (wa : FsI a) (ia : EvM Z d C W wy a0 ch U f fuel dp pl cl fu Fr a false nv) (ib : EvM Z d C W wy a0 ch U f fuel dp pl cl fu Fr b false nv) : EvM Z d C W wy a0 ch U f fuel dp pl cl fu Fr (aN 8 v w a b .nil) false nv := by
  refine ⟨fun _ => ?_, fun z => by cases z⟩
  intro V P P' k acc vs on S stk lt tn j σ K hP hP' hC hl hpl va fr A hs hK
  rw [cq_8] at hP hC
  rw [ev_8] at hK
  rw [List.length_append, List.length_append, List.length_singleton] at hP
  have hs1 : sH (aN 8 v w a b .nil) = max (sH a + 0) (max (sH b + 1) (max (sH .nil + 0) 1)) := rfl
  refine ev_pend (n := 1) wa (by decide) A (by omega) hC.l hK (fun A1 K1 => ?_)
  refine ia.1 rfl V P _ (k + 1) 0 vs on _ stk lt tn (j + 3) σ K rfl (by omega) hC.l hl hpl va fr A1 (by omega) ?_
  have key := McQ.bn (z := []) (j1 := j + 3) (P1 := P + (cdB a false P (k + 1)).length) (on1 := on) (by omega) K1 (fun x S2 V2 τ2 tn2 g2 A2 vx K2 => ?_)
  · rw [List.append_nil] at key
    exact key
  · rw [List.append_nil] at A2
    refine ib.1 rfl V2 _ _ 0 0 vs on S2 (stk ++ [x]) lt tn2 (j + 4) τ2 K rfl (by omega) hC.r.l hl hpl (va.mf g2 (by omega)) (hFr.mf fr g2) A2 (by rw [List.length_append, List.length_singleton]; omega) ?_
    refine McQ.bn (z := [x]) (by omega) K2 (fun y S3 V3 τ3 tn3 g3 A3 vy K3 => ?_)
    rw [List.append_assoc] at A3
    obtain ⟨o, o1, o2, o3, o4⟩ := cm_jt hv (nmV x) (nmV y)
    refine pf_0 A3 (by omega) hC.r.r.c (fun τ4 g4 A4 => ?_)
    show PfO Z d K fuel tn3 (cmO v) 0 τ4
    rw [o3]
    refine po_two A4 o1 (fun q => absurd q o2) (fun _ τ5 g5 A5 => ?_)
    rw [o4] at A5
    refine K3 V3 τ5 _ ((g4.tr g5).ms _ _ _) ?_ ⟨1, _, rfl, h1⟩
    rw [show P' = P + (cdB a false P (k + 1)).length + (cdB b false (P + (cdB a false P (k + 1)).length) 0).length + 1 by omega]
    exact A5.less (by omega)
/-- a chain -/
theorem em_10 (hFr : FrC dp Fr) (v w : Int) (a b : Ast) (nv : Nat) (hw : 1 ≤ w.toNat ∧ ∀ P, w.toNat ≤ (cdB b true P 0).length) (wa : FsI a) (ia : EvM Z d C W wy a0 ch U f fuel dp pl cl fu Fr a false nv) (ib : EvM Z d C W wy a0 ch U f fuel dp pl cl fu Fr b true nv) : EvM Z d C W wy a0 ch U f fuel dp pl cl fu Fr (aN 10 v w a b .nil) false nv := by
  refine ⟨fun _ => ?_, fun z => by cases z⟩
  intro V P P' k acc vs on S stk lt tn j σ K hP hP' hC hl hpl va fr A hs hK
  rw [cq_10] at hP hC
  rw [ev_10] at hK
  rw [List.length_append] at hP
  have hs1 : sH (aN 10 v w a b .nil) = max (sH a + 0) (max (sH b + 0) (max (sH .nil + 0) 1)) := rfl
  have hwl := hw.2 (P + (cdB a false P (k + w.toNat)).length)
  have hc2 := A.1.2.2.1.2.2.2.2.2.2.2
  refine ev_pend (n := w.toNat) wa (by omega) A (by omega) hC.l hK (fun A1 K1 => ?_)
  refine ia.1 rfl V P _ (k + w.toNat) 0 vs on _ stk lt tn (j + 3 * w.toNat) σ K rfl (by omega) hC.l hl hpl va fr A1 (by omega) ?_
  have key := McQ.bn (z := []) (j1 := j + 3 * w.toNat) (P1 := P + (cdB a false P (k + w.toNat)).length) (on1 := on) (by omega) K1 (fun x S2 V2 τ2 tn2 g2 A2 vx K2 => ?_)
  · rw [List.append_nil] at key
    exact key
  · rw [List.append_nil] at A2
    exact ib.2 rfl V2 _ P' x vs on S2 stk lt tn2 j τ2 K (by omega) hP' hC.r hl hpl (va.mf g2 (by omega)) (hFr.mf fr g2) (A2.less (by omega)) (by omega) K2
theorem lk_jt {op : Nat} (ho : 39 ≤ op ∧ op ≤ 42) (x y : Int32) : (5 ≤ op - 34 ∧ op - 34 ≤ 11) ∧ (op - 34 = 8 ↔ op = 42) ∧ lkO op = Int32.ofNat (op - 34) ∧ jtV (Int32.ofNat (op - 34)) x y = opV op x y := by
  have ho : op = 39 ∨ op = 40 ∨ op = 41 ∨ op = 42 := by omega
  rcases ho with rfl | rfl | rfl | rfl <;> exact ⟨by decide, by decide, rfl, rfl⟩
/-- links -/
theorem em_lk (hFr : FrC dp Fr) (hmk : 1 ∈ mkW W.1 ∧ 2 ∈ mkW W.1) (op : Nat) (v w : Int) (a b : Ast) (nv : Nat) (ho : 39 ≤ op ∧ op ≤ 42) (ia : EvM Z d C W wy a0 ch U f fuel dp pl cl fu Fr a false nv) (ib : b = .nil ∨ (b ≠ .nil ∧ EvM Z d C W wy a0 ch U f fuel dp pl cl fu Fr b true nv)) : EvM Z d C W wy a0 ch U f fuel dp pl cl fu Fr (aN op v w a b .nil) true nv := by
  refine ⟨fun z => (by cases z), fun _ => ?_⟩
  intro V P P' y vs on S stk lt tn j σ K hP hP' hC hl hpl va fr A hs hK
  rw [cq_lk] at hP hC
  rw [List.length_append, List.length_cons] at hP
  have hs1 : sH a + 1 ≤ sH (aN op v w a b .nil) ∧ sH b ≤ sH (aN op v w a b .nil) := by
    rw [sH_2, if_pos (by omega)]
    omega
  have ek : ∃ g : Int64 → Es → Rs × Es, ev W fuel pl cl fu (aN op v w a b .nil) true (nmV y) vs on S = bnR (ev W fuel pl cl fu a false 0 vs on S) (fun x S => if op = 42 ∧ nmV x = 0 then faR 3 S else g x S) ∧ ((b = .nil → ∀ x S, g x S = (.inl (vlX 1 (opV op (nmV y) (nmV x))), S)) ∧ (b ≠ .nil → ∀ x S, g x S = ev W fuel pl cl fu b true (opV op (nmV y) (nmV x)) vs on S)) := by
    by_cases q : b = .nil
    · subst q
      exact ⟨fun x S => (.inl (vlX 1 (opV op (nmV y) (nmV x))), S), ev_l0 .., fun _ _ _ => rfl, fun z => absurd rfl z⟩
    · exact ⟨fun x S => ev W fuel pl cl fu b true (opV op (nmV y) (nmV x)) vs on S, ev_l1 _ _ _ _ _ _ _ _ _ _ _ _ _ _ _ q, fun z => absurd z q, fun _ _ _ => rfl⟩
  obtain ⟨g, e1, e2, e3⟩ := ek
  rw [e1] at hK
  refine ia.1 rfl V P _ 0 0 vs on S (stk ++ [y]) lt tn (j + 1) σ K rfl (by omega) hC.l hl hpl va fr A (by rw [List.length_append, List.length_singleton]; omega) ?_
  refine McQ.bn (z := [y]) (by omega) hK (fun x S2 V2 τ2 tn2 g2 A2 vx K2 => ?_)
  rw [List.append_assoc] at A2
  obtain ⟨o1, o2, o3, o4⟩ := lk_jt ho (nmV y) (nmV x)
  refine pf_0 A2 (by omega) hC.r.c (fun τ3 g3 A3 => ?_)
  show PfO Z d K fuel tn2 (lkO op) 0 τ3
  rw [o3]
  refine po_two A3 o1 (fun q1 q2 τ4 g4 A4 => ?_) (fun q τ4 g4 A4 => ?_)
  · rw [if_pos ⟨o2.mp q1, q2⟩] at K2
    have A4' : McA C W wy a0 ch U f fuel V2 S2 0 (P + (cdB a false P 0).length + 1) dp lt on (stk ++ []) tn2 (j + 1 + 1) τ4 := by
      rw [List.append_nil]
      exact A4
    exact pf_fault (q := 3) (A4'.less (by omega)) (by decide) hmk.2 K2 ((g3.tr g4).ms _ _ _)
  · rw [if_neg (fun z => q ⟨o2.mpr z.1, z.2⟩)] at K2
    rw [o4] at A4
    rcases ib with rfl | ⟨hb, ib⟩
    · rw [e2 rfl] at K2
      refine K2 V2 τ4 _ ((g3.tr g4).ms _ _ _) ?_ ⟨1, _, rfl, hmk.1⟩
      rw [show P' = P + (cdB a false P 0).length + 1 from by rw [hP, cq_nl]; rfl]
      exact A4.less (by omega)
    · rw [e3 hb] at K2
      have gg : MFr (dp + 1) (Nv dp nv) V2 V2 τ2 τ4 := (g3.tr g4).ms _ _ _
      have K4 := K2.fr gg
      rw [← nm_vl 1 (opV op (nmV y) (nmV x))] at K4
      exact ib.2 rfl V2 _ P' _ vs on S2 stk lt _ j τ4 K (by omega) hP' hC.r.t hl hpl ((va.mf g2 (by omega)).mf gg (by omega)) (hFr.mf (hFr.mf fr g2) gg) (A4.less (by omega)) (by omega) K4
end EVM2

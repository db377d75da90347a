/-! THE CLASS: the machine follows ev, whole -/
section EVM3
variable {Z : zT} {d : Nat} {C V V' V2 : Nat × Nat × Nat × Nat} {W : Wld} {wy a0 ch U fuel : Nat} {f : Fc} {S : Es} {k P dp tn j nv hm : Nat} {lt : Int32} {on : List Nat} {stk vs args : List Int64} {σ τ υ : Sg} {K Kx : kS} {N : Nat → Prop} {pl : Nat} {cl : Cf} {fu : Nf} {Fr : Sg → Prop}
/-- arguments -/
theorem em_ar (hFr : FrC dp Fr) {g : List Int64 → Es → Rs × Es} {q : Int32 × Int32 × Nat} (w : Int) (hw : 1 ≤ w ∧ w ≤ 3) (a b c : Ast) (wa : FsI a) (ia : EvM Z d C W wy a0 ch U f fuel dp pl cl fu Fr a false nv) (ib : 2 ≤ w → EvM Z d C W wy a0 ch U f fuel dp pl cl fu Fr b false nv) (ic : 3 ≤ w → EvM Z d C W wy a0 ch U f fuel dp pl cl fu Fr c false nv) {P' : Nat}
    (hP : P' = P + (cdB a false P (k + 1) ++ (if w = 1 then [] else cdB b false (P + (cdB a false P (k + 1)).length) 0 ++ (if w = 2 then [] else cdB c false (P + (cdB a false P (k + 1)).length + (cdB b false (P + (cdB a false P (k + 1)).length) 0).length) 0)) ++ [q]).length) (hP' : P' ≤ C.1) (hC : CdF f P (cdB a false P (k + 1) ++ (if w = 1 then [] else cdB b false (P + (cdB a false P (k + 1)).length) 0 ++ (if w = 2 then [] else cdB c false (P + (cdB a false P (k + 1)).length + (cdB b false (P + (cdB a false P (k + 1)).length) 0).length) 0)) ++ [q])) (hl : vs.length = nv) (hpl : pl ≤ nv ∧ nv ≤ 15) (va : VaM W dp vs σ) (fr : Fr σ) (A : McA C W wy a0 ch U f fuel V S k P dp lt on stk tn j σ) (hs : stk.length + max (sH a) (max (sH b + 1) (max (sH c + 2) 1)) ≤ 49 * (dp + 1))
    (hK : McQ Z d C W wy a0 ch U f fuel (dp + 1) (Nv dp nv) V σ dp stk on lt P' j (stR fuel S fun S => bnR (ev W fuel pl cl fu a false 0 vs on S) fun x S => if w = 1 then g [x] S else bnR (ev W fuel pl cl fu b false 0 vs on S) fun y S => if w = 2 then g [x, y] S else bnR (ev W fuel pl cl fu c false 0 vs on S) fun z S => g [x, y, z] S) K)
    (fin : ∀ V' τ tn args S' Pl, P' = Pl + 1 → MFr (dp + 1) (Nv dp nv) V V' σ τ → args.length = w.toNat → (∀ x ∈ args, VlG W x) → (f.1 Pl = q.1 ∧ f.2.1 Pl = q.2.1 ∧ f.2.2 Pl = Int32.ofNat q.2.2) → McA C W wy a0 ch U f fuel V' S' 0 Pl dp lt on (stk ++ args) tn (j + 2) τ → McQ Z d C W wy a0 ch U f fuel (dp + 1) (Nv dp nv) V' τ dp stk on lt P' j (g args S') K → C_X4_perform_16 Z (d + 9) τ (Int32.ofNat fuel) (Int32.ofNat tn) K) : C_X4_perform_16 Z (d + 9) σ (Int32.ofNat fuel) (Int32.ofNat tn) K := by
  rw [List.length_append, List.length_append, List.length_singleton] at hP
  refine ev_pend (n := 1) wa (by decide) A (by omega) hC.l.l hK (fun A1 K1 => ?_)
  refine ia.1 rfl V P _ (k + 1) 0 vs on _ stk lt tn (j + 3) σ K rfl (by omega) hC.l.l hl hpl va fr A1 (by omega) ?_
  have key := McQ.bn (z := []) (j1 := j + 3) (P1 := P + (cdB a false P (k + 1)).length) (on1 := on) (by omega) K1 (fun x S2 V2 τ2 tn2 g2 A2 vx K2 => ?_)
  · rw [List.append_nil] at key
    exact key
  · rw [List.append_nil] at A2
    by_cases w1 : w = 1
    · rw [if_pos w1] at K2 hP hC
      rw [List.append_nil] at hC
      refine fin V2 τ2 tn2 [x] S2 _ (by rw [hP]; rfl) g2 (by rw [w1]; rfl) (fun y hy => ?_) hC.r.c (A2.less (by omega)) K2
      rw [List.mem_singleton] at hy
      rw [hy]
      exact vx
    · rw [if_neg w1] at K2 hP hC
      rw [List.length_append] at hP
      have va2 := va.mf g2 (by omega)
      have fr2 := hFr.mf fr g2
      have hC2 := hC.l.r
      refine (ib (by omega)).1 rfl V2 _ _ 0 0 vs on S2 (stk ++ [x]) lt tn2 (j + 4) τ2 K rfl (by omega) hC2.l hl hpl va2 fr2 A2 (by rw [List.length_append, List.length_singleton]; omega) ?_
      refine McQ.bn (z := [x]) (by omega) K2 (fun y S3 V3 τ3 tn3 g3 A3 vy K3 => ?_)
      rw [List.append_assoc] at A3
      by_cases w2 : w = 2
      · rw [if_pos w2] at K3 hP hC
        rw [List.append_nil] at hC
        have hc := hC.r.c
        rw [List.length_append, ← Nat.add_assoc] at hc
        refine fin V3 τ3 tn3 [x, y] S3 _ (by rw [hP]; show _ + (_ + (_ + 0) + 1) = _; omega) (g2.tr g3) (by rw [w2]; rfl) (fun y' hy => ?_) hc (A3.less (by omega)) K3
        rcases List.mem_cons.mp hy with rfl | hy
        · exact vx
        · rw [List.mem_singleton] at hy
          rw [hy]
          exact vy
      · rw [if_neg w2] at K3 hP hC hC2
        have va3 := va2.mf g3 (by omega)
        have fr3 := hFr.mf fr2 g3
        refine (ic (by omega)).1 rfl V3 _ _ 0 0 vs on S3 (stk ++ [x, y]) lt tn3 (j + 5) τ3 K rfl (by omega) hC2.r hl hpl va3 fr3 A3 (by rw [List.length_append]; show stk.length + 2 + _ ≤ _; omega) ?_
        refine McQ.bn (z := [x, y]) (by omega) K3 (fun z S4 V4 τ4 tn4 g4 A4 vz K4 => ?_)
        rw [List.append_assoc] at A4
        have hc := hC.r.c
        rw [List.length_append, List.length_append, ← Nat.add_assoc, ← Nat.add_assoc] at hc
        refine fin V4 τ4 tn4 [x, y, z] S4 _ (by omega) ((g2.tr g3).tr g4) (by rw [show w = 3 by omega]; rfl) (fun y' hy => ?_) hc (A4.less (by omega)) K4
        rcases List.mem_cons.mp hy with rfl | hy
        · exact vx
        · rcases List.mem_cons.mp hy with rfl | hy
          · exact vy
          · rw [List.mem_singleton] at hy
            rw [hy]
            exact vz
theorem em_14 (hFr : FrC dp Fr) (hcl : ClM Z d C W wy a0 ch U f fuel dp cl Fr) (v w : Int) (a b c : Ast) (nv : Nat) (hv : 0 ≤ v ∧ v < (W.2.1.length : Int)) (hw : w = (plW W.2.1 v.toNat : Int)) (hw' : 1 ≤ w ∧ w ≤ 3) (wa : FsI a) (ia : EvM Z d C W wy a0 ch U f fuel dp pl cl fu Fr a false nv) (ib : 2 ≤ w → EvM Z d C W wy a0 ch U f fuel dp pl cl fu Fr b false nv) (ic : 3 ≤ w → EvM Z d C W wy a0 ch U f fuel dp pl cl fu Fr c false nv) : EvM Z d C W wy a0 ch U f fuel dp pl cl fu Fr (aN 14 v w a b c) false nv := by
  refine ⟨fun _ => ?_, fun z => by cases z⟩
  intro V P P' k acc vs on S stk lt tn j σ K hP hP' hC hl hpl va fr A hs hK
  rw [cq_14 _ _ _ _ _ _ _ (by omega)] at hP hC
  rw [ev_14] at hK
  have hs1 : sH (aN 14 v w a b c) = max (sH a + 0) (max (sH b + 1) (max (sH c + 2) 1)) := rfl
  have hd := A.dp24
  simp only [if_neg (show ¬ w = 0 by omega)] at hK
  refine em_ar (g := fun args S => cl v.toNat args on S) hFr w hw' a b c wa ia ib ic hP hP' hC hl hpl va fr A (by omega) hK (fun V' τ tn' args S' Pl e g ha hav hc A' K' => ?_)
  have hc : f.1 Pl = 22 ∧ f.2.1 Pl = Int32.ofInt v ∧ f.2.2 Pl = Int32.ofNat 0 := hc
  rw [oI_N v hv.1] at hc
  rw [e] at K'
  exact hcl V' Pl v.toNat nv args on S' stk lt tn' j τ K (by omega) (by omega) hav (by omega) hc (by omega) (hFr.mf fr g) A' (by omega) K'
theorem em_15 (hFr : FrC dp Fr) (hfu : FuM Z d C W wy a0 ch U f fuel dp pl fu Fr) (v w : Int) (a b c : Ast) (nv : Nat) (hw : w = (pl : Int)) (hw' : 1 ≤ w ∧ w ≤ 3) (wa : FsI a) (ia : EvM Z d C W wy a0 ch U f fuel dp pl cl fu Fr a false nv) (ib : 2 ≤ w → EvM Z d C W wy a0 ch U f fuel dp pl cl fu Fr b false nv) (ic : 3 ≤ w → EvM Z d C W wy a0 ch U f fuel dp pl cl fu Fr c false nv) : EvM Z d C W wy a0 ch U f fuel dp pl cl fu Fr (aN 15 v w a b c) false nv := by
  refine ⟨fun _ => ?_, fun z => by cases z⟩
  intro V P P' k acc vs on S stk lt tn j σ K hP hP' hC hl hpl va fr A hs hK
  rw [cq_15 _ _ _ _ _ _ _ (by omega)] at hP hC
  rw [ev_15] at hK
  have hs1 : sH (aN 15 v w a b c) = max (sH a + 0) (max (sH b + 1) (max (sH c + 2) 1)) := rfl
  have hd := A.dp24
  simp only [if_neg (show ¬ w = 0 by omega)] at hK
  refine em_ar (g := fun args S => fu args on S) hFr w hw' a b c wa ia ib ic hP hP' hC hl hpl va fr A (by omega) hK (fun V' τ tn' args S' Pl e g ha hav hc A' K' => ?_)
  refine pf_0 A' (by omega) hc (fun τ1 g1 A1 => ⟨fun q => absurd q (show ¬ (24 : Int32) = 20 by decide), fun q => absurd q (show ¬ (24 : Int32) = 22 by decide), fun q => absurd q (show ¬ (24 : Int32) = 23 by decide), fun _ => ?_, fun q => absurd q (show ¬ (24 : Int32) = 25 by decide), fun _ _ _ q => absurd rfl q⟩)
  rw [e] at K'
  exact hfu V' (Pl + 1) nv 1 args args on S' stk lt tn' j τ1 K (by omega) hav (Or.inr ⟨rfl, rfl⟩) (by omega) (by omega) (hFr.mf (hFr.mf fr g) (nv := nv) (g1.ms _ _ V')) A1 (by omega) (K'.fr (g1.ms _ _ _))
theorem em_nx (hFr : FrC dp Fr) (hfu : FuM Z d C W wy a0 ch U f fuel dp pl fu Fr) (v : Int) (nv : Nat) : EvM Z d C W wy a0 ch U f fuel dp pl cl fu Fr (aN 15 v 0 .nil .nil .nil) false nv := by
  refine ⟨fun _ => ?_, fun z => by cases z⟩
  intro V P P' k acc vs on S stk lt tn j σ K hP hP' hC hl hpl va fr A hs hK
  rw [cq_nx] at hP hC
  rw [ev_15] at hK
  rw [List.length_singleton] at hP
  have hd := A.dp24
  have hs1 : sH (aN 15 v 0 .nil .nil .nil) = 2 := rfl
  simp only [if_true] at hK
  refine pf_1 A (by omega) hC.c hK (fun τ1 g1 A1 K1 => ⟨fun q => absurd q (show ¬ (23 : Int32) = 20 by decide), fun q => absurd q (show ¬ (23 : Int32) = 22 by decide), fun _ => ?_, fun q => absurd q (show ¬ (23 : Int32) = 24 by decide), fun q => absurd q (show ¬ (23 : Int32) = 25 by decide), fun _ _ q => absurd rfl q⟩)
  have va1 := mS_va va g1
  have tk : ∀ (i : Nat) y, (vs.take pl)[i]? = some y → vs[i]? = some y := fun i y hy => by
    rw [List.getElem?_take] at hy
    split at hy
    · exact hy
    · cases hy
  rw [hP] at K1
  have A1' : McA C W wy a0 ch U f fuel V (S.1 + 1, S.2) 0 (P + 1) dp lt on (stk ++ []) tn (j + 3) τ1 := by
    rw [List.append_nil]
    exact A1
  exact hfu V (P + 1) nv 0 (vs.take pl) [] on _ stk lt tn j τ1 K (by rw [List.length_take]; omega) (fun x hx => by
    obtain ⟨i, hi⟩ := List.mem_iff_getElem?.mp hx
    exact (va _ _ (tk i x hi)).2) (Or.inl ⟨rfl, rfl, fun i y hy => (va1 _ _ (tk i y hy)).1⟩) (by omega) (by omega) (hFr.mf fr (nv := nv) (g1.ms _ _ V)) (A1'.less (by omega)) (by omega) K1
/-- trees whole -/
theorem em_all (hFr : FrC dp Fr) (hC : WfC W.2.1) (hmk : 1 ∈ mkW W.1 ∧ 2 ∈ mkW W.1) {own : Int} (hcl : ClM Z d C W wy a0 ch U f fuel dp cl Fr) (hfu : 0 ≤ own → (own.toNat < W.2.1.length ∧ pl = plW W.2.1 own.toNat) ∧ FuM Z d C W wy a0 ch U f fuel dp pl fu Fr) (x : Ast) (lk : Bool) (nv : Nat) (h : exW (evW W own) x lk nv) : EvM Z d C W wy a0 ch U f fuel dp pl cl fu Fr x lk nv := by
  refine ex_ind (E := evW W own) (P := fun x lk nv => EvM Z d C W wy a0 ch U f fuel dp pl cl fu Fr x lk nv) ?_ ?_ ?_ ?_ ?_ ?_ ?_ ?_ ?_ ?_ ?_ ?_ ?_ ?_ x lk nv h
  · intro op v w a b' nv ho hv h14 wa _ ia ib
    rcases ho with rfl | rfl
    · exact em_1 hFr v w a b' nv hv h14 ((fs_all _ _ _ wa).1 rfl) ia ib
    · exact em_5 hFr v w a b' nv hv h14 ia ib
  · intro v w a b' c nv wa _ _ ia ib ic
    exact em_2 hFr v w a b' c nv ((fs_all _ _ _ wa).1 rfl) ia ib ic
  · intro op v w a nv ho hv _ ia
    rcases ho with rfl | rfl
    · exact em_3 hFr v w a nv hv ia
    · exact em_4 hFr v w a nv hv ia
  · intro op v w a nv ho wa ia
    have wa := (fs_all _ _ _ wa).1 rfl
    rcases ho with rfl | rfl | rfl
    · exact em_6 v w a nv wa ia
    · exact em_7 v w a nv wa ia
    · exact em_16 hmk.1 v w a nv wa ia
  · intro v w a b' nv hv wa _ ia ib
    exact em_8 hFr hmk.1 v w a b' nv hv ((fs_all _ _ _ wa).1 rfl) ia ib
  · intro v w a nv hv wa ia
    exact em_9 hmk.1 v w a nv hv ((fs_all _ _ _ wa).1 rfl) ia
  · intro v w a b' nv hw wa hb ia ib
    have l1 := lk_pos hb
    exact em_10 hFr v w a b' nv ⟨by omega, fun P => by rw [hw]; exact (fs_all _ _ _ hb).2 rfl P⟩ ((fs_all _ _ _ wa).1 rfl) ia ib
  · intro v w nv _
    exact em_11 hmk.1 v w nv
  · intro v w nv hv
    exact em_12 v w nv hv
  · intro v a nv hv hb wa ia
    have hv : 0 ≤ v ∧ v < (W.1.length : Int) := hv
    have hb : ((W.1[v.toNat]?).map (·.2.1)).getD false = false := hb
    refine em_13 v a nv ⟨hv.1, List.mem_filter.mpr ⟨List.mem_range.mpr (by omega), ?_⟩⟩ ((fs_all _ _ _ wa).1 rfl) ia
    rw [hb]
    rfl
  · intro v w a b' c nv hv hw wa ia ib _ ic _
    have hv : 0 ≤ v ∧ v < (W.2.1.length : Int) := hv
    have hw : w = (plW W.2.1 v.toNat : Int) := hw
    have hp := plW_ok hC (k := v.toNat) (by omega)
    exact em_14 hFr hcl v w a b' c nv hv hw ⟨by omega, by omega⟩ ((fs_all _ _ _ wa).1 rfl) ia (fun z => (ib z).2) (fun z => (ic z).2)
  · intro v nv ho
    obtain ⟨⟨h1, h2⟩, h3⟩ := hfu ho
    exact em_nx hFr h3 v nv
  · intro v w a b' c nv ho hw wa ia ib _ ic _
    obtain ⟨⟨h1, h2⟩, h3⟩ := hfu ho
    have hp := plW_ok hC h1
    have hw : w = (plW W.2.1 own.toNat : Int) := hw
    exact em_15 hFr h3 v w a b' c nv (by omega) ⟨by omega, by omega⟩ ((fs_all _ _ _ wa).1 rfl) ia (fun z => (ib z).2) (fun z => (ic z).2)
  · intro op v w a b' nv ho _ hb ia
    refine em_lk hFr hmk op v w a b' nv ho ia ?_
    rcases hb with rfl | ⟨hb, ib⟩
    · exact Or.inl rfl
    · exact Or.inr ⟨(lk_pos hb).2, ib⟩
end EVM3

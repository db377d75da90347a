/-! THE CLASS: the machine follows ev -/
/-- the variables of a frame -/
def VaM (W : Wld) (dp : Nat) (vs : List Int64) (σ : Sg) : Prop := ∀ (i : Nat) x, vs[i]? = some x → σ.l 94 (32 * dp + 16 + i) = x ∧ VlG W x
/-- a frame's words with so many variables -/
def Nv (dp nv : Nat) (j : Nat) : Prop := j < 32 * dp + 16 + nv
/-- the machine follows ev (or the links of a chain) -/
def EvM (Z : zT) (d : Nat) (C : Nat × Nat × Nat × Nat) (W : Wld) (wy a0 ch U : Nat) (f : Fc) (fuel dp pl : Nat) (cl : Cf) (fu : Nf) (Fr : Sg → Prop) (x : Ast) (lk : Bool) (nv : Nat) : Prop :=
  (lk = false → ∀ (V : Nat × Nat × Nat × Nat) (P P' k : Nat) (acc : Int32) (vs : List Int64) (on : List Nat) (S : Es) (stk : List Int64) (lt : Int32) (tn j : Nat) (σ : Sg) (K : kS), P' = P + (cdB x false P k).length → P' ≤ C.1 → CdF f P (cdB x false P k) → vs.length = nv → pl ≤ nv ∧ nv ≤ 15 → VaM W dp vs σ → Fr σ → McA C W wy a0 ch U f fuel V S k P dp lt on stk tn j σ → stk.length + sH x ≤ 49 * (dp + 1) → McQ Z d C W wy a0 ch U f fuel (dp + 1) (Nv dp nv) V σ dp stk on lt P' j (ev W fuel pl cl fu x false acc vs on S) K → C_X4_perform_16 Z (d + 9) σ (Int32.ofNat fuel) (Int32.ofNat tn) K) ∧
  (lk = true → ∀ (V : Nat × Nat × Nat × Nat) (P P' : Nat) (y : Int64) (vs : List Int64) (on : List Nat) (S : Es) (stk : List Int64) (lt : Int32) (tn j : Nat) (σ : Sg) (K : kS), P' = P + (cdB x true P 0).length → P' ≤ C.1 → CdF f P (cdB x true P 0) → vs.length = nv → pl ≤ nv ∧ nv ≤ 15 → VaM W dp vs σ → Fr σ → McA C W wy a0 ch U f fuel V S 0 P dp lt on (stk ++ [y]) tn (j + 1) σ → stk.length + sH x ≤ 49 * (dp + 1) → McQ Z d C W wy a0 ch U f fuel (dp + 1) (Nv dp nv) V σ dp stk on lt P' j (ev W fuel pl cl fu x true (nmV y) vs on S) K → C_X4_perform_16 Z (d + 9) σ (Int32.ofNat fuel) (Int32.ofNat tn) K)
/-- a call's instruction follows cl -/
def ClM (Z : zT) (d : Nat) (C : Nat × Nat × Nat × Nat) (W : Wld) (wy a0 ch U : Nat) (f : Fc) (fuel dp : Nat) (cl : Cf) (Fr : Sg → Prop) : Prop := ∀ (V : Nat × Nat × Nat × Nat) (P c nv : Nat) (args : List Int64) (on : List Nat) (S : Es) (stk : List Int64) (lt : Int32) (tn j : Nat) (σ : Sg) (K : kS), c < W.2.1.length → args.length = plW W.2.1 c → (∀ x ∈ args, VlG W x) → P < C.1 → (f.1 P = 22 ∧ f.2.1 P = Int32.ofNat c ∧ f.2.2 P = Int32.ofNat 0) → nv ≤ 15 → Fr σ → McA C W wy a0 ch U f fuel V S 0 P dp lt on (stk ++ args) tn (j + 2) σ → stk.length + 1 ≤ 49 * (dp + 1) → McQ Z d C W wy a0 ch U f fuel (dp + 1) (Nv dp nv) V σ dp stk on lt (P + 1) j (cl c args on S) K → C_X4_perform_16 Z (d + 9) σ (Int32.ofNat fuel) (Int32.ofNat tn) K
/-- what is next -/
def FuM (Z : zT) (d : Nat) (C : Nat × Nat × Nat × Nat) (W : Wld) (wy a0 ch U : Nat) (f : Fc) (fuel dp pl : Nat) (fu : Nf) (Fr : Sg → Prop) : Prop := ∀ (V : Nat × Nat × Nat × Nat) (P nv : Nat) (fl : Int32) (args z : List Int64) (on : List Nat) (S : Es) (stk : List Int64) (lt : Int32) (tn j : Nat) (σ : Sg) (K : kS), args.length = pl → (∀ x ∈ args, VlG W x) → ((fl = 0 ∧ z = [] ∧ ∀ (i : Nat) y, args[i]? = some y → σ.l 94 (32 * dp + 16 + i) = y) ∨ (fl = 1 ∧ z = args)) → P ≤ C.1 → nv ≤ 15 → Fr σ → McA C W wy a0 ch U f fuel V S 0 P dp lt on (stk ++ z) tn (j + 2) σ → stk.length + 1 ≤ 49 * (dp + 1) → McQ Z d C W wy a0 ch U f fuel (dp + 1) (Nv dp nv) V σ dp stk on lt P j (fu args on S) K → C_X4_goToNext_0 Z (d + 8) σ fl (yN K fun τ1 => C_X4_perform_257 Z (d + 9) τ1 (Int32.ofNat fuel) (Int32.ofNat tn) K)
/-- a frame's words stay known -/
def FrC (dp : Nat) (Fr : Sg → Prop) : Prop := ∀ V V' σ τ, MFr (dp + 1) (Nv dp 0) V V' σ τ → Fr σ → Fr τ
section EVM
variable {Z : zT} {d : Nat} {C V V' V2 : Nat × Nat × Nat × Nat} {W : Wld} {wy a0 ch U fuel : Nat} {f : Fc} {S : Es} {k P dp tn j nv hm : Nat} {lt : Int32} {on : List Nat} {stk vs args : List Int64} {σ τ υ : Sg} {K Kx : kS} {N : Nat → Prop} {pl : Nat} {cl : Cf} {fu : Nf} {Fr : Sg → Prop}
theorem VaM.mf {hm : Nat} (h : VaM W dp vs σ) (g : MFr hm (Nv dp nv) V V' σ τ) (hn : vs.length ≤ nv) : VaM W dp vs τ := fun i x hx => by
  have hi := (List.getElem?_eq_some_iff.mp hx).1
  rw [g.2.2.2.1 _ (show _ < _ by omega)]
  exact h i x hx
theorem FrC.mf (hFr : FrC dp Fr) (h : Fr σ) (g : MFr (dp + 1) (Nv dp nv) V V' σ τ) : Fr τ := hFr V V' σ τ (g.mono (Nat.le_refl _) (fun j q => by unfold Nv at q ⊢; omega)) h
theorem VaM.push {x : Int64} (h : VaM W dp vs σ) (h1 : ∀ a, a ≠ 32 * dp + 16 + vs.length → τ.l 94 a = σ.l 94 a) (h2 : τ.l 94 (32 * dp + 16 + vs.length) = x) (hx : VlG W x) : VaM W dp (vs ++ [x]) τ := fun i y hy => by
  by_cases q : i < vs.length
  · rw [List.getElem?_append_left q] at hy
    rw [h1 _ (by omega)]
    exact h i y hy
  · rw [List.getElem?_append_right (by omega)] at hy
    have il := (List.getElem?_eq_some_iff.mp hy).1
    rw [List.length_singleton] at il
    have ie : i = vs.length := by omega
    subst ie
    rw [Nat.sub_self] at hy
    cases hy
    exact ⟨h2, hx⟩
theorem oI_N (v : Int) (h : 0 ≤ v) : Int32.ofInt v = Int32.ofNat v.toNat := by
  rw [← Int.toNat_of_nonneg h]
  rfl
theorem mS_va (va : VaM W dp vs σ) (g : XF mS σ τ) : VaM W dp vs τ := fun i x hx => by
  rw [(g.2.2 94 (fun q => by unfold mS at q; omega)).2]
  exact va i x hx
theorem McA.dp24 (A : McA C W wy a0 ch U f fuel V S k P dp lt on stk tn j σ) : dp ≤ 24 := A.2.2.1.2.2.1.2
/-- LET -/
theorem em_1 (hFr : FrC dp Fr) (v w : Int) (a b : Ast) (nv : Nat) (hv : v = (nv : Int)) (h14 : nv ≤ 14) (wa : FsI a) (ia : EvM Z d C W wy a0 ch U f fuel dp pl cl fu Fr a false nv) (ib : EvM Z d C W wy a0 ch U f fuel dp pl cl fu Fr b false (nv + 1)) : EvM Z d C W wy a0 ch U f fuel dp pl cl fu Fr (aN 1 v w a b .nil) false nv := by
  refine ⟨fun _ => ?_, fun z => by cases z⟩
  intro V P P' k acc vs on S stk lt tn j σ K hP hP' hC hl hpl va fr A hs hK
  rw [cq_1] at hP hC
  rw [ev_1] at hK
  rw [List.length_append, List.length_cons] at hP
  have hs1 : sH (aN 1 v w a b .nil) = max (sH a + 0) (max (sH b + 0) (max (sH .nil + 0) 1)) := rfl
  refine ev_pend (n := 1) wa (by decide) A (by omega) hC.l hK (fun A1 K1 => ?_)
  refine ia.1 rfl V P _ (k + 1) 0 vs on _ stk lt tn (j + 3) σ K rfl (by omega) hC.l hl hpl va fr A1 (by omega) ?_
  have key := McQ.bn (z := []) (j1 := j + 3) (P1 := P + (cdB a false P (k + 1)).length) (on1 := on) (by omega) K1 (fun x S2 V2 τ2 tn2 g2 A2 vx K2 => ?_)
  · rw [List.append_nil] at key
    exact key
  · rw [List.append_nil] at A2
    refine pf_0 A2 (by omega) hC.r.c (fun τ3 g3 A3 => ?_)
    show PfO Z d K fuel tn2 12 (Int32.ofInt v) τ3
    rw [hv, ← hl]
    refine po_store (i := vs.length) A3 (by omega) (fun τ4 g4 e4 e4' A4 => ?_)
    have va3 := mS_va (va.mf g2 (by omega)) g3
    have gg : MFr (dp + 1) (Nv dp nv) V2 V2 τ2 τ4 := (g3.ms _ _ _).tr (g4.mf _ _ (fun a q => e4 a (by unfold Nv at q; omega)))
    refine ib.1 rfl V2 _ P' 0 0 (vs ++ [x]) on S2 stk lt _ j τ4 K (by omega) hP' hC.r.t (by rw [List.length_append]; show vs.length + 1 = _; omega) (by omega) (va3.push e4 e4' vx) (hFr.mf (hFr.mf fr g2) gg) (A4.less (by omega)) (by omega) ((K2.fr gg).more (Nat.le_refl _) (fun a q => by unfold Nv at q ⊢; omega))
/-- IF -/
theorem em_2 (hFr : FrC dp Fr) (v w : Int) (a b c : Ast) (nv : Nat) (wa : FsI a) (ia : EvM Z d C W wy a0 ch U f fuel dp pl cl fu Fr a false nv) (ib : EvM Z d C W wy a0 ch U f fuel dp pl cl fu Fr b false nv) (ic : EvM Z d C W wy a0 ch U f fuel dp pl cl fu Fr c false nv) : EvM Z d C W wy a0 ch U f fuel dp pl cl fu Fr (aN 2 v w a b c) false nv := by
  refine ⟨fun _ => ?_, fun z => by cases z⟩
  intro V P P' k acc vs on S stk lt tn j σ K hP hP' hC hl hpl va fr A hs hK
  rw [cq_2] at hP hC
  rw [ev_2] at hK
  rw [List.length_append, List.length_cons, List.length_append, List.length_cons] at hP
  have hs1 : sH (aN 2 v w a b c) = max (sH a + 0) (max (sH b + 0) (max (sH c + 0) 1)) := rfl
  refine ev_pend (n := 1) wa (by decide) A (by omega) hC.l hK (fun A1 K1 => ?_)
  refine ia.1 rfl V P _ (k + 1) 0 vs on _ stk lt tn (j + 3) σ K rfl (by omega) hC.l hl hpl va fr A1 (by omega) ?_
  have key := McQ.bn (z := []) (j1 := j + 3) (P1 := P + (cdB a false P (k + 1)).length) (on1 := on) (by omega) K1 (fun x S2 V2 τ2 tn2 g2 A2 vx K2 => ?_)
  · rw [List.append_nil] at key
    exact key
  · rw [List.append_nil] at A2
    refine pf_0 A2 (by omega) hC.r.c (fun τ3 g3 A3 => po_branch A3 (fun τ4 g4 A4 => ?_))
    have gg : MFr (dp + 1) (Nv dp nv) V2 V2 τ2 τ4 := (g3.tr g4).ms _ _ _
    have va4 := (va.mf g2 (by omega)).mf gg (by omega)
    have fr4 := hFr.mf (hFr.mf fr g2) gg
    have K4 := K2.fr gg
    by_cases q : nmV x = 0
    · rw [if_pos q] at A4 K4
      have hc := hC.r.t.r.t
      rw [show P + (cdB a false P (k + 1)).length + 1 + (cdB b false (P + (cdB a false P (k + 1)).length + 1) 0).length + 1 = P + (cdB a false P (k + 1)).length + (cdB b false (P + (cdB a false P (k + 1)).length + 1) 0).length + 2 by omega] at hc
      exact ic.1 rfl V2 _ P' 0 0 vs on S2 stk lt _ j τ4 K (by omega) hP' hc hl hpl va4 fr4 (A4.less (by omega)) (by omega) K4
    · rw [if_neg q] at A4 K4
      refine ib.1 rfl V2 _ _ 0 0 vs on S2 stk lt _ (j + 3) τ4 K rfl (by omega) hC.r.t.l hl hpl va4 fr4 A4 (by omega) ?_
      have key := McQ.bn (r := ev W fuel pl cl fu b false 0 vs on S2) (g := fun v S => (.inl v, S)) (z := []) (j1 := j + 3) (P1 := P + (cdB a false P (k + 1)).length + 1 + (cdB b false (P + (cdB a false P (k + 1)).length + 1) 0).length) (on1 := on) (j := j) (P := P') (by omega) (by
        rw [show bnR (ev W fuel pl cl fu b false 0 vs on S2) (fun v S => (.inl v, S)) = ev W fuel pl cl fu b false 0 vs on S2 from by
          rcases ev W fuel pl cl fu b false 0 vs on S2 with ⟨v | v, S⟩ <;> rfl]
        exact K4) (fun y S5 V5 τ5 tn5 g5 A5 vy K5 => ?_)
      · rw [List.append_nil] at key
        exact key
      · rw [List.append_nil] at A5
        refine pf_0 A5 (by omega) hC.r.t.r.c (fun τ6 g6 A6 => po_jump A6 (fun τ7 g7 A7 => ?_))
        refine K5 V5 τ7 _ ((g6.tr g7).ms _ _ _) ?_ vy
        rw [show P' = P + (cdB a false P (k + 1)).length + (cdB b false (P + (cdB a false P (k + 1)).length + 1) 0).length + 2 + (cdB c false (P + (cdB a false P (k + 1)).length + (cdB b false (P + (cdB a false P (k + 1)).length + 1) 0).length + 2) 0).length by omega]
        exact A7.less (by omega)
theorem bnR_id (r : Rs × Es) : bnR r (fun v S => (.inl v, S)) = r := by
  rcases r with ⟨v | v, S⟩ <;> rfl
/-- WITH, WITHOUT -/
theorem em_3 (hFr : FrC dp Fr) (v w : Int) (a : Ast) (nv : Nat) (hv : 0 ≤ v ∧ v < (W.2.2.1.length : Int)) (ia : EvM Z d C W wy a0 ch U f fuel dp pl cl fu Fr a false nv) : EvM Z d C W wy a0 ch U f fuel dp pl cl fu Fr (aN 3 v w a .nil .nil) false nv := by
  refine ⟨fun _ => ?_, fun z => by cases z⟩
  intro V P P' k acc vs on S stk lt tn j σ K hP hP' hC hl hpl va fr A hs hK
  rw [cq_3] at hP hC
  rw [ev_3] at hK
  rw [List.length_cons, List.length_append, List.length_singleton] at hP
  have hs1 : sH (aN 3 v w a .nil .nil) = max (sH a + 1) (max (sH .nil + 0) (max (sH .nil + 0) 1)) := rfl
  have hd := A.dp24
  have hon := A.2.2.1.2.2.2.2.2.2.2.1
  refine pf_1 A (by omega) hC.c hK (fun τ1 g1 A1 K1 => ?_)
  show PfO Z d K fuel tn 15 (Int32.ofInt v) τ1
  rw [oI_N v hv.1]
  refine po_with (l := v.toNat) A1 (by omega) (by omega) (fun τ2 g2 A2 => ?_)
  have gg : MFr (dp + 1) (Nv dp nv) V V σ τ2 := (g1.tr g2).ms _ _ _
  refine ia.1 rfl V _ _ 0 0 vs _ _ (stk ++ [lyE on]) lt _ (j + 2) τ2 K rfl (by omega) hC.t.l hl hpl (va.mf gg (by omega)) (hFr.mf fr gg) A2 (by rw [List.length_append, List.length_singleton]; omega) ?_
  refine McQ.bn (z := [lyE on]) (j := j) (on := on) (P := P') (by omega) (g := fun v S => (.inl v, S)) (by rw [bnR_id]; exact K1.fr (g2.ms _ _ _)) (fun y S5 V5 τ5 tn5 g5 A5 vy K5 => ?_)
  rw [List.append_assoc] at A5
  refine pf_0 A5 (by omega) hC.t.r.c (fun τ6 g6 A6 => po_back A6 hon (fun τ7 g7 A7 => ?_))
  refine K5 V5 τ7 _ ((g6.tr g7).ms _ _ _) ?_ vy
  rw [show P' = P + 1 + (cdB a false (P + 1) 0).length + 1 by omega]
  exact A7.less (by omega)
theorem em_4 (hFr : FrC dp Fr) (v w : Int) (a : Ast) (nv : Nat) (hv : 0 ≤ v ∧ v < (W.2.2.1.length : Int)) (ia : EvM Z d C W wy a0 ch U f fuel dp pl cl fu Fr a false nv) : EvM Z d C W wy a0 ch U f fuel dp pl cl fu Fr (aN 4 v w a .nil .nil) false nv := by
  refine ⟨fun _ => ?_, fun z => by cases z⟩
  intro V P P' k acc vs on S stk lt tn j σ K hP hP' hC hl hpl va fr A hs hK
  rw [cq_4] at hP hC
  rw [ev_4] at hK
  rw [List.length_cons, List.length_append, List.length_singleton] at hP
  have hs1 : sH (aN 4 v w a .nil .nil) = max (sH a + 1) (max (sH .nil + 0) (max (sH .nil + 0) 1)) := rfl
  have hd := A.dp24
  have hon := A.2.2.1.2.2.2.2.2.2.2.1
  refine pf_1 A (by omega) hC.c hK (fun τ1 g1 A1 K1 => ?_)
  show PfO Z d K fuel tn 16 (Int32.ofInt v) τ1
  rw [oI_N v hv.1]
  refine po_without (l := v.toNat) A1 (by omega) (by omega) (fun τ2 g2 A2 => ?_)
  have gg : MFr (dp + 1) (Nv dp nv) V V σ τ2 := (g1.tr g2).ms _ _ _
  refine ia.1 rfl V _ _ 0 0 vs _ _ (stk ++ [lyE on]) lt _ (j + 2) τ2 K rfl (by omega) hC.t.l hl hpl (va.mf gg (by omega)) (hFr.mf fr gg) A2 (by rw [List.length_append, List.length_singleton]; omega) ?_
  refine McQ.bn (z := [lyE on]) (j := j) (on := on) (P := P') (by omega) (g := fun v S => (.inl v, S)) (by rw [bnR_id]; exact K1.fr (g2.ms _ _ _)) (fun y S5 V5 τ5 tn5 g5 A5 vy K5 => ?_)
  rw [List.append_assoc] at A5
  refine pf_0 A5 (by omega) hC.t.r.c (fun τ6 g6 A6 => po_back A6 hon (fun τ7 g7 A7 => ?_))
  refine K5 V5 τ7 _ ((g6.tr g7).ms _ _ _) ?_ vy
  rw [show P' = P + 1 + (cdB a false (P + 1) 0).length + 1 by omega]
  exact A7.less (by omega)
end EVM

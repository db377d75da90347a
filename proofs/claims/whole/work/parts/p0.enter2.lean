/-! THE CLASS: a method runs -/
/-- what becomes of a method that began -/
def EnQ (Z : zT) (d : Nat) (C : Nat × Nat × Nat × Nat) (W : Wld) (wy a0 ch U : Nat) (f : Fc) (fuel : Nat) (V : Nat × Nat × Nat × Nat) (σ : Sg) (dp : Nat) (stk : List Int64) (on : List Nat) (lt : Int32) (j bk m H i : Nat) (ins : Int64) (r : Rs × Es) (K : kS) : Prop := match r with
  | (.inl v, S) => ∀ V' τ tn P, MFr (dp + 2) (Ne dp) V V' σ τ → FhS (dp + 1) bk m H i ins τ → McA C W wy a0 ch U f fuel V' S 0 P (dp + 1) lt on stk tn (j + 2) τ → VlG W v → C_X4_endMethod_0 Z (d + 8) τ v (yN K fun τ2 => C_X4_perform_257 Z (d + 9) τ2 (Int32.ofNat fuel) (Int32.ofNat tn) K)
  | (.inr q, S) => McQ Z d C W wy a0 ch U f fuel (dp + 2) (Ne dp) V σ dp stk on lt 0 j (.inr q, S) K
/-- beginMethod() follows en -/
def EnM (Z : zT) (d : Nat) (C : Nat × Nat × Nat × Nat) (W : Wld) (wy a0 ch U : Nat) (f : Fc) (fuel dp : Nat) (en : Ef) : Prop := ∀ (V : Nat × Nat × Nat × Nat) (P e role i m c H bk : Nat) (R : Nat → List Nat × Bool) (args : List Int64) (ins : Int32) (on : List Nat) (S : Es) (stk : List Int64) (lt : Int32) (tn j : Nat) (σ : Sg) (K Kx : kS), role < 4 → (R role).1[i]? = some m → RwY W c R → c < W.2.1.length → H ≤ dp + 1 → CcM H R σ → args.length = plW W.2.1 c → (∀ x ∈ args, VlG W x) → (∀ (i : Nat) y, args[i]? = some y → σ.l 95 i = y) → (ins = 0 ∨ ins = 1) → bk ≤ C.1 → McA C W wy a0 ch U f fuel V S 0 P dp lt on stk tn (j + 2) σ → stk.length + 1 ≤ 49 * (dp + 1) → EnQ Z d C W wy a0 ch U f fuel V σ dp stk on lt j bk m H i (if ins = 0 then 0 else 1) (en (c, R) role i args on S) K → (∀ τ, C_X4_perform_257 Z (d + 9) τ (Int32.ofNat fuel) (Int32.ofNat tn) K → Kx (.inl none) τ) → C_X4_beginMethod_0 Z (e + 2) σ (Int32.ofNat H) (Int32.ofNat role) (Int32.ofNat i) (Int32.ofNat bk) ins Kx
/-- the frame of a method that runs -/
def FmX (F m H i : Nat) (R : Nat → List Nat × Bool) (σ : Sg) : Prop := (σ.l 94 (32 * F + 1) = Int32.toInt64 (Int32.ofNat m) ∧ σ.l 94 (32 * F + 2) = Int32.toInt64 (Int32.ofNat H) ∧ σ.l 94 (32 * F + 3) = Int32.toInt64 (Int32.ofNat i)) ∧ CcM H R σ
/-- what a world must be for its methods to run on the machine -/
def RcW (W : Wld) : Prop := WfW W ∧ (∀ x ∈ W.2.2.2, sH x.1.2.2.2.2.2.1 ≤ 49) ∧ 1 ∈ mkW W.1 ∧ 2 ∈ mkW W.1
section ENTM
variable {Z : zT} {d : Nat} {C V V' V2 : Nat × Nat × Nat × Nat} {W : Wld} {wy a0 ch U fuel : Nat} {f : Fc} {S : Es} {k P dp tn j nv hm : Nat} {lt : Int32} {on : List Nat} {stk vs args : List Int64} {σ τ υ : Sg} {K Kx : kS} {N : Nat → Prop} {e H role i m c bk : Nat} {R : Nat → List Nat × Bool}
theorem FmX.cl {F : Nat} (hH : H ≤ F) : FrC F (FmX F m H i R) := fun V V' σ τ g h => ⟨⟨(g.2.2.2.1 _ (show _ < _ by omega)).trans h.1.1, (g.2.2.2.1 _ (show _ < _ by omega)).trans h.1.2.1, (g.2.2.2.1 _ (show _ < _ by omega)).trans h.1.2.2⟩, h.2.mf g (by omega)⟩
theorem en_0 (h2 : 2 ∈ mkW W.1) : EnM Z d C W wy a0 ch U f fuel 24 (enK W wy ch fuel 0) := by
  intro V P e role i m c H bk R args ins on S stk lt tn j σ K Kx hr hi hR hc hH hC ha hav hg hins hbk A hs hK hx
  refine T_X4_beginMethod_0 A.fx ⟨fun z => absurd z ?_, fun _ => hx _ ?_⟩
  · rw [A.2.2.1.2.2.1.1]
    decide
  · have A' : McA C W wy a0 ch U f fuel V S 0 P 24 lt on (stk ++ []) tn (j + 1 + 1) σ := by
      rw [List.append_nil]
      exact A
    exact pf_fault (q := 4) (dp' := 24) (P' := 0) (on' := on) (A'.less (by omega)) (by decide) h2 hK (MFr.refl _ _ _ _)
theorem en_k {kk : Nat} (hdp : dp + (kk + 1) = 24) (hW : RcW W)
    (hcl : ∀ Fr : Sg → Prop, FrC (dp + 1) Fr → ClM Z d C W wy a0 ch U f fuel (dp + 1) (clR W wy ch (enK W wy ch fuel kk)) Fr)
    (hfu : ∀ H c m i R, H ≤ dp + 1 → c < W.2.1.length → RwY W c R → (1 ≤ m ∧ m ≤ W.2.2.2.length ∧ gnW W.2.2.2 m = 0 ∧ mcW W.2.2.2 m = c) → i < 120 → FuM Z d C W wy a0 ch U f fuel (dp + 1) (plW W.2.1 c) (fuR W (enK W wy ch fuel kk) (c, R) (rlM W.2.2.2 m) i) (FmX (dp + 1) m H i R)) : EnM Z d C W wy a0 ch U f fuel dp (enK W wy ch fuel (kk + 1)) := by
  intro V P e role i m c H bk R args ins on S stk lt tn j σ K Kx hr hi hR hc hH hC ha hav hg hins hbk A hs hK hx
  obtain ⟨hWf, hSk, hmk⟩ := hW
  obtain ⟨r1, r2⟩ := hR.1 role
  have hmem := List.mem_of_getElem? hi
  obtain ⟨⟨m1, m2⟩, m3⟩ := r2 m hmem
  have hgn := hR.2.1 role m hmem
  have hil := (List.getElem?_eq_some_iff.mp hi).1
  obtain ⟨x, hx1, bx, cx⟩ := bdM_x m1 m2
  have hxm := List.mem_of_getElem? hx1
  have hpl := plW_ok hWf.2.1 hc
  have hmg : (R role).1.getD i 0 = m := by rw [List.getD_eq_getElem?_getD, hi]; rfl
  rw [show enK W wy ch fuel (kk + 1) (c, R) role i args on S = ev W fuel (plW W.2.1 c) (clR W wy ch (enK W wy ch fuel kk)) (fuR W (enK W wy ch fuel kk) (c, R) (rlM W.2.2.2 ((R role).1.getD i 0)) i) (bdM W.2.2.2 ((R role).1.getD i 0)) false 0 args on (esB S ((R role).1.getD i 0)) from rfl, hmg, bx] at hK
  refine bm_go A (by omega) (by omega) hr hC hi m1 hx1 (by omega) hins hbk hg (by omega) hx (fun τ Sm x1 hNe Fh hag hln hcd A1 => ?_)
  obtain ⟨kc, w1, w2, -, -, -, -, -, -, wE⟩ := hWf.2.2 x hxm
  have ekk : kc = c := by
    rw [cx, w1] at m3
    omega
  subst ekk
  have g0 : MFr (dp + 2) (Ne dp) V V σ τ := x1.mf _ _ hNe
  have fr : FmX (dp + 1) m H i R τ := ⟨⟨Fh.2.1, Fh.2.2.1, Fh.2.2.2.1⟩, hC.mf g0 (by omega)⟩
  have E := em_all (Z := Z) (d := d) (C := C) (a0 := a0) (U := U) (f := f) (fuel := fuel) (dp := dp + 1) (pl := plW W.2.1 kc) (cl := clR W wy ch (enK W wy ch fuel kk)) (fu := fuR W (enK W wy ch fuel kk) (kc, R) (rlM W.2.2.2 m) i) (FmX.cl (m := m) (i := i) (R := R) hH) hWf.2.1 hmk (own := (kc : Int)) (hcl _ (FmX.cl hH)) (fun _ => ⟨⟨hc, rfl⟩, hfu H kc m i R hH hc hR ⟨m1, m2, hgn, m3⟩ (by omega)⟩) _ false _ wE
  refine E.1 rfl V Sm _ 0 0 args on (esB S m) stk lt (tn + 1) (j + 1) τ K rfl (by omega) hcd.l ha ⟨Nat.le_refl _, by omega⟩ (fun b y hy => ⟨hag b y hy, hav y (List.mem_of_getElem? hy)⟩) fr A1 (by have := hSk x hxm; omega) ?_
  generalize ev W fuel (plW W.2.1 kc) (clR W wy ch (enK W wy ch fuel kk)) (fuR W (enK W wy ch fuel kk) (kc, R) (rlM W.2.2.2 m) i) x.1.2.2.2.2.2.1 false 0 args on (esB S m) = r at hK ⊢
  have sub : ∀ jj, Ne dp jj → Nv (dp + 1) (plW W.2.1 kc) jj := fun jj q => by
    unfold Ne at q
    unfold Nv
    omega
  rcases r with ⟨v | v | v, S'⟩
  · intro V' τ' tn' g A' hv
    refine pf_0 A' (by omega) hcd.r.c (fun τ2 g2 A2 => ⟨fun q => absurd q (show ¬ (25 : Int32) = 20 by decide), fun q => absurd q (show ¬ (25 : Int32) = 22 by decide), fun q => absurd q (show ¬ (25 : Int32) = 23 by decide), fun q => absurd q (show ¬ (25 : Int32) = 24 by decide), fun _ => cl_pop A2.fx A2.skS (fun τ3 g3 s3 _ => ?_), fun _ _ _ _ q => absurd rfl q⟩)
    have gx : MFr (dp + 2) (Nv (dp + 1) (plW W.2.1 kc)) V V' τ τ3 := g.tr ((g2.tr g3.ms).ms _ _ _)
    have w : ∀ q, q < 16 → τ3.l 94 (32 * (dp + 1) + q) = τ.l 94 (32 * (dp + 1) + q) := fun q hq => gx.2.2.2.1 _ (show _ < _ by omega)
    refine hK V' τ3 tn' _ (g0.tr (gx.mono (Nat.le_refl _) sub)) ⟨(w 0 (by decide)).trans Fh.1, (w 1 (by decide)).trans Fh.2.1, (w 2 (by decide)).trans Fh.2.2.1, (w 3 (by decide)).trans Fh.2.2.2.1, (w 4 (by decide)).trans Fh.2.2.2.2⟩ (A2.sk g3 s3) hv
  · intro V' τ' tn' g b M st ⟨t1, t2, t3, t4⟩ hv
    exact hK V' τ' tn' (g0.tr (g.mono (Nat.le_refl _) sub)) b M st ⟨t1, t2, t3, by omega⟩ hv
  · intro V' τ' g
    exact hK V' τ' (g0.tr (g.mono (Nat.le_refl _) sub))
/-- a method, then what is behind it -/
theorem EnQ.bn {r : Rs × Es} {g : Int64 → Es → Rs × Es} {ins : Int64} (hn : nv ≤ 16) (h : McQ Z d C W wy a0 ch U f fuel (dp + 1) (Nv dp nv) V σ dp stk on lt bk j (bnR r g) K)
    (hc : ∀ v S V' τ tn P, MFr (dp + 2) (Ne dp) V V' σ τ → FhS (dp + 1) bk m H i ins τ → McA C W wy a0 ch U f fuel V' S 0 P (dp + 1) lt on stk tn (j + 2) τ → VlG W v → McQ Z d C W wy a0 ch U f fuel (dp + 1) (Nv dp nv) V' τ dp stk on lt bk j (g v S) K → C_X4_endMethod_0 Z (d + 8) τ v (yN K fun τ2 => C_X4_perform_257 Z (d + 9) τ2 (Int32.ofNat fuel) (Int32.ofNat tn) K)) : EnQ Z d C W wy a0 ch U f fuel V σ dp stk on lt j bk m H i ins r K := by
  have sub : ∀ jj, Nv dp nv jj → Ne dp jj := fun jj q => by
    unfold Nv at q
    unfold Ne
    omega
  rcases r with ⟨v | v | v, S⟩
  · exact fun V' τ tn P q1 q2 q3 q4 => hc v S V' τ tn P q1 q2 q3 q4 (McQ.fr h (q1.mono (by omega) sub))
  · exact fun V' τ tn q => h V' τ tn (q.mono (by omega) sub)
  · exact fun V' τ q => h V' τ (q.mono (by omega) sub)
theorem McA.up {x : Int32} {dp' : Nat} (A : McA C W wy a0 ch U f fuel V S k P dp lt on stk tn j σ) (hx : x = Int32.ofNat dp') (hd : dp' ≤ 24) : McA C W wy a0 ch U f fuel V S k P dp' lt on stk tn j (σ.wi 83 6 x) := by
  obtain ⟨-, -, ⟨a3, a4, ⟨a5, a5'⟩, a7, a8, a9, b1, b2, b3⟩, -⟩ := id A
  refine A.mv ((XF.refl _ _).wi (Or.inl rfl)) (wi_ne (by decide)) (wi_ne (by decide)) (wi_row (by decide)) (wi_row (by decide)) ((wi_ne (by decide)).trans a3) (wi_ne (by decide)) (by rw [wi_at, hx]) hd ((wi_ne (by decide)).trans a7) ((wi_ne (by decide)).trans a8) ((wi_ne (by decide)).trans a9) b1 b2 ?_
  exact ⟨⟨(wi_ne (by decide)).trans b3.1.1, b3.1.2⟩, b3.2⟩
/-- a method that nobody joins: back to the caller -/
theorem em_ret {v : Int64} (A : McA C W wy a0 ch U f fuel V S 0 P (dp + 1) lt on stk tn (j + 2) σ) (Fh : FhS (dp + 1) bk m H i 0 σ) (hs : stk.length < 2048) (hv : VlG W v) (hK : McQ Z d C W wy a0 ch U f fuel hm N V σ dp stk on lt bk j (.inl v, S) K) : C_X4_endMethod_0 Z (d + 8) σ v (yN K fun τ2 => C_X4_perform_257 Z (d + 9) τ2 (Int32.ofNat fuel) (Int32.ofNat tn) K) := by
  have a6 := A.2.2.1.2.2.1
  refine T_X4_endMethod_0 A.fx ?_
  rw [a6.1]
  refine ⟨fun _ => ?_, fun z => absurd z ?_⟩
  · rw [oN_p1 (by omega), Nat.add_sub_cancel]
    have A1 := A.up (dp' := dp) rfl (by omega)
    have x1 : XF mS σ (σ.wi 83 6 (Int32.ofNat dp)) := (XF.refl _ _).wi (Or.inl rfl)
    refine cl_inFrame (q := 4) A1.fx (by omega) (by decide) Fh.2.2.2.2 ⟨fun z => absurd rfl z, fun _ => cl_inFrame (q := 0) A1.fx (by omega) (by decide) Fh.1 ?_⟩
    show C_X4_push_0 Z _ ((σ.wi 83 6 (Int32.ofNat dp)).wi 83 7 (nmV (Int32.toInt64 (Int32.ofNat bk)))) v _
    rw [nm_64]
    have A2 := A1.go (P' := bk) rfl
    exact pf_push A2 hs (fun _ w => w) (fun τ g3 A3 => hK V τ _ ((x1.tr (((XF.refl _ _).wi (Or.inl rfl)).tr g3)).ms _ _ _) A3 hv)
  · rw [show (0 : Int32) = Int32.ofNat 0 from rfl, oN_eq (by omega) (by decide)]
    omega
end ENTM

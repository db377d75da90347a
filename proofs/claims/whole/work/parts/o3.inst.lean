/-! THE CLASS: instructions of the machine -/
/-- what small instructions write -/
def mS (a : Nat) : Prop := a = 83 ∨ a = 93 ∨ a = 96
def jtV (op x y : Int32) : Int32 := if op = 5 then x + y else if op = 6 then x - y else if op = 7 then x * y else if op = 8 then x / y else if op = 9 then (if x < y then 1 else 0) else if op = 10 then (if x ≤ y then 1 else 0) else if x = y then 1 else 0
section INST
variable {Z : zT} {d : Nat} {C V V' V2 : Nat × Nat × Nat × Nat} {W : Wld} {wy a0 ch U fuel : Nat} {f : Fc} {S : Es} {k P dp tn j nv hm : Nat} {lt : Int32} {on : List Nat} {stk vs args : List Int64} {σ τ υ : Sg} {K Kx : kS} {N : Nat → Prop} {op arg : Int32} {n m : Nat} {x y : Int64}
theorem XF.ms (hm : Nat) (N : Nat → Prop) (V : Nat × Nat × Nat × Nat) (h : XF mS σ τ) : MFr hm N V V σ τ := (h.mono (fun a q => by unfold mS at q; unfold mE; omega)).mf hm V (fun j _ => by rw [(h.2.2 94 (fun q => by unfold mS at q; omega)).2])
theorem SkM.ms (g : SkM σ τ) : XF mS σ τ := g.1.mono (fun a q => by unfold mS; omega)
theorem McA.skS (A : McA C W wy a0 ch U f fuel V S k P dp lt on stk tn j σ) : StkS stk σ := A.2.2.1.2.2.2.2.2.2.2.2
theorem McA.end (A : McA C W wy a0 ch U f fuel V S 0 P dp lt on stk tn (j + 1) σ) (h : McA C W wy a0 ch U f fuel V S 0 P dp lt on stk (tn + 1) j σ → C_X4_perform_16 Z (d + 9) σ (Int32.ofNat fuel) (Int32.ofNat (tn + 1)) K) : C_X4_perform_257 Z (d + 9) σ (Int32.ofNat fuel) (Int32.ofNat tn) K := pf_257 A.fx A.2.2.1.2.2.2.2.1 (h A.tk)
theorem pf_0 (A : McA C W wy a0 ch U f fuel V S 0 P dp lt on stk tn j σ) (hP : P < C.1) (hf : f.1 P = op ∧ f.2.1 P = arg ∧ f.2.2 P = Int32.ofNat 0) (h0 : ∀ τ, XF mS σ τ → McA C W wy a0 ch U f fuel V S 0 (P + 1) dp lt on stk tn j τ → PfO Z d K fuel tn op arg τ) : C_X4_perform_16 Z (d + 9) σ (Int32.ofNat fuel) (Int32.ofNat tn) K := by
  refine pf_go (m := 0) A hP hf rfl (Nat.zero_le _) (fun z => ?_) (fun _ τ g A1 => h0 τ (g.mono (fun a q => Or.inl q)) A1)
  have := A.2.2.2.1.1
  omega
theorem pf_1 {g : Es → Rs × Es} {dp' P' j' : Nat} {on' : List Nat} {stk' : List Int64} {lt' : Int32} (A : McA C W wy a0 ch U f fuel V S k P dp lt on stk tn j σ) (hP : P < C.1) (hf : f.1 P = op ∧ f.2.1 P = arg ∧ f.2.2 P = Int32.ofNat (k + 1)) (hK : McQ Z d C W wy a0 ch U f fuel hm N V σ dp' stk' on' lt' P' j' (stR fuel S g) K)
    (h0 : ∀ τ, XF mS σ τ → McA C W wy a0 ch U f fuel V (S.1 + 1, S.2) 0 (P + 1) dp lt on stk tn (j + 3) τ → McQ Z d C W wy a0 ch U f fuel hm N V τ dp' stk' on' lt' P' j' (g (S.1 + 1, S.2)) K → PfO Z d K fuel tn op arg τ) : C_X4_perform_16 Z (d + 9) σ (Int32.ofNat fuel) (Int32.ofNat tn) K := by
  have hle := A.2.2.2.1.1
  refine pf_go (m := 1) A hP hf rfl (Nat.le_refl _) (fun z τ g1 g2 g3 => ?_) (fun z τ g1 A1 => ?_)
  · have q : S.1 = fuel := by omega
    unfold stR at hK
    rw [if_pos q] at hK
    have x := g1.mono (E' := mS) (fun a q => Or.inl q)
    have e84 : τ.i 84 = σ.i 84 := (g1.2.2 84 (by decide)).1
    refine hK V τ (x.ms _ _ _) (A.1.xf (g1.mono (fun a q => Or.inl q))) (A.2.1.keep (by rw [e84]) g3.1 g3.2 (g1.2.2 96 (by decide)).1 (g1.2.2 97 (by decide)).1) ⟨by rw [q]; exact g2.1, g2.2.1, g2.2.2, Or.inl rfl⟩ ⟨hle, ?_⟩
    have := A.2.2.2.2
    omega
  · unfold stR at hK
    rw [if_neg (by omega)] at hK
    have x := g1.mono (E' := mS) (fun a q => Or.inl q)
    exact h0 τ x A1 (hK.fr (x.ms _ _ _))
theorem PfO.ob (h : op ≠ 20 ∧ op ≠ 22 ∧ op ≠ 23 ∧ op ≠ 24 ∧ op ≠ 25) (w : C_X4_obey_0 Z (d + 8) σ op arg (yN K fun τ1 => C_X4_perform_257 Z (d + 9) τ1 (Int32.ofNat fuel) (Int32.ofNat tn) K)) : PfO Z d K fuel tn op arg σ := ⟨fun q => absurd q h.1, fun q => absurd q h.2.1, fun q => absurd q h.2.2.1, fun q => absurd q h.2.2.2.1, fun q => absurd q h.2.2.2.2, fun _ _ _ _ _ => w⟩
theorem PfO.rk (F : FX ΦC σ.sh σ.r) (h : op.toInt < 12) (w : C_X4_reckon_0 Z (d + 7) σ op arg (yN (yN K fun τ1 => C_X4_perform_257 Z (d + 9) τ1 (Int32.ofNat fuel) (Int32.ofNat tn) K) fun τ => C_X4_perform_257 Z (d + 9) τ (Int32.ofNat fuel) (Int32.ofNat tn) K)) : PfO Z d K fuel tn op arg σ := by
  have ne : ∀ c : Int32, 12 ≤ c.toInt → op ≠ c := fun c hc q => by
    rw [q] at h
    omega
  refine PfO.ob ⟨ne 20 (by decide), ne 22 (by decide), ne 23 (by decide), ne 24 (by decide), ne 25 (by decide)⟩ (T_X4_obey_0 F ⟨fun q => absurd q (ne 12 (by decide)), fun q => absurd q (ne 13 (by decide)), fun q => absurd q (ne 14 (by decide)), fun q => absurd q (ne 15 (by decide)), fun q => absurd q (ne 16 (by decide)), fun q => absurd q (ne 17 (by decide)), fun q => absurd q (ne 18 (by decide)), fun q => absurd q (ne 19 (by decide)), fun q => absurd q (ne 21 (by decide)), fun _ _ _ _ _ _ _ _ _ => w⟩)
/-- a value is put on the stack, the turn is over -/
theorem pf_push {e : Nat} {Ka : kS} {R : Sg → Prop} (A : McA C W wy a0 ch U f fuel V S 0 P dp lt on stk tn (j + 1) σ) (hl : stk.length < 2048) (hR : ∀ τ, C_X4_perform_257 Z (d + 9) τ (Int32.ofNat fuel) (Int32.ofNat tn) K → R τ) (kk : ∀ τ, XF mS σ τ → McA C W wy a0 ch U f fuel V S 0 P dp lt on (stk ++ [x]) (tn + 1) j τ → C_X4_perform_16 Z (d + 9) τ (Int32.ofNat fuel) (Int32.ofNat (tn + 1)) K) : C_X4_push_0 Z (e + 1) σ x (yN Ka R) := cl_push A.fx A.skS hl (fun τ g s _ => hR τ (McA.end (A.sk g s) (kk τ g.ms)))
theorem po_num (A : McA C W wy a0 ch U f fuel V S 0 P dp lt on stk tn (j + 1) σ) (hl : stk.length < 2048) (kk : ∀ τ, XF mS σ τ → McA C W wy a0 ch U f fuel V S 0 P dp lt on (stk ++ [vlX 1 arg]) (tn + 1) j τ → C_X4_perform_16 Z (d + 9) τ (Int32.ofNat fuel) (Int32.ofNat (tn + 1)) K) : PfO Z d K fuel tn 0 arg σ := by
  refine PfO.rk A.fx (by decide) (T_X4_reckon_0 A.fx ⟨fun _ => T_X4_valueOf_0 A.fx ?_, fun q => absurd q (by decide), fun q => absurd q (by decide), fun q => absurd q (by decide), fun q => absurd q (by decide), fun q => absurd rfl q⟩)
  exact pf_push A hl (fun _ w => w) kk
theorem fr_ix {dp i : Nat} (hd : dp ≤ 25) (hi : i ≤ 15) : (Int32.ofNat dp * 32 + 16) + Int32.ofNat i = Int32.ofNat (32 * dp + 16 + i) ∧ ib (Int32.ofNat (32 * dp + 16 + i)) 832 ∧ (Int32.ofNat (32 * dp + 16 + i)).toNatClampNeg = 32 * dp + 16 + i := by
  refine ⟨?_, ib_oN (by omega) (by decide), oN_t (by omega)⟩
  rw [show (32 : Int32) = Int32.ofNat 32 from rfl, show (16 : Int32) = Int32.ofNat 16 from rfl, oN_mul, oN_add, oN_add, Nat.mul_comm]
theorem po_var {i : Nat} (A : McA C W wy a0 ch U f fuel V S 0 P dp lt on stk tn (j + 1) σ) (hl : stk.length < 2048) (hi : i ≤ 15) (hx : σ.l 94 (32 * dp + 16 + i) = x) (kk : ∀ τ, XF mS σ τ → McA C W wy a0 ch U f fuel V S 0 P dp lt on (stk ++ [x]) (tn + 1) j τ → C_X4_perform_16 Z (d + 9) τ (Int32.ofNat fuel) (Int32.ofNat (tn + 1)) K) : PfO Z d K fuel tn 1 (Int32.ofNat i) σ := by
  have a6 := A.2.2.1.2.2.1
  obtain ⟨e1, e2, e3⟩ := fr_ix (dp := dp) (i := i) (by omega) hi
  refine PfO.rk A.fx (by decide) (T_X4_reckon_0 A.fx ⟨fun q => absurd q (by decide), fun _ => ?_, fun q => absurd q (by decide), fun q => absurd q (by decide), fun q => absurd q (by decide), fun _ q => absurd rfl q⟩)
  rw [a6.1, e1, e3, hx]
  exact ⟨e2, pf_push A hl (fun _ w => w) kk⟩
theorem po_make (A : McA C W wy a0 ch U f fuel V S 0 P dp lt on (stk ++ [x]) tn (j + 1) σ) (kk : ∀ τ, XF mS σ τ → McA C W wy a0 ch U f fuel V S 0 P dp lt on (stk ++ [vlX arg (nmV x)]) (tn + 1) j τ → C_X4_perform_16 Z (d + 9) τ (Int32.ofNat fuel) (Int32.ofNat (tn + 1)) K) : PfO Z d K fuel tn 2 arg σ := by
  refine PfO.rk A.fx (by decide) (T_X4_reckon_0 A.fx ⟨fun q => absurd q (by decide), fun q => absurd q (by decide), fun _ => ?_, fun q => absurd q (by decide), fun q => absurd q (by decide), fun _ _ q => absurd rfl q⟩)
  refine cl_pop A.fx A.skS (fun τ g s _ => T_X4_valueOf_0 (g.1.fx A.fx) ?_)
  refine pf_push (A.sk g s) ?_ (fun _ w => w) (fun υ g2 => kk υ (g.ms.tr g2))
  have := A.skS.1.2
  rw [List.length_append, List.length_singleton] at this
  omega
theorem po_hash (A : McA C W wy a0 ch U f fuel V S 0 P dp lt on (stk ++ [x]) tn (j + 1) σ) (kk : ∀ τ, XF mS σ τ → McA C W wy a0 ch U f fuel V S 0 P dp lt on (stk ++ [vlX 1 (nmV x)]) (tn + 1) j τ → C_X4_perform_16 Z (d + 9) τ (Int32.ofNat fuel) (Int32.ofNat (tn + 1)) K) : PfO Z d K fuel tn 3 arg σ := by
  refine PfO.rk A.fx (by decide) (T_X4_reckon_0 A.fx ⟨fun q => absurd q (by decide), fun q => absurd q (by decide), fun q => absurd q (by decide), fun _ => ?_, fun q => absurd q (by decide), fun _ _ _ q => absurd rfl q⟩)
  refine cl_pop A.fx A.skS (fun τ g s _ => T_X4_valueOf_0 (g.1.fx A.fx) ?_)
  refine pf_push (A.sk g s) ?_ (fun _ w => w) (fun υ g2 => kk υ (g.ms.tr g2))
  have := A.skS.1.2
  rw [List.length_append, List.length_singleton] at this
  omega
theorem VlG.kd (h : VlG W x) : ∃ k, kdV x = Int32.ofNat k ∧ k ∈ mkW W.1 ∧ k < W.1.length := by
  obtain ⟨k, n, rfl, hk⟩ := h
  exact ⟨k, kd_vl _ _, hk, List.mem_range.mp (List.mem_filter.mp hk).1⟩
theorem McA.sk24 (A : McA C W wy a0 ch U f fuel V S k P dp lt on stk tn j σ) : SkR C W a0 σ := by
  obtain ⟨⟨⟨u, h, -⟩, -⟩, -⟩ := A
  exact h.1.1
theorem po_is {i : Nat} (A : McA C W wy a0 ch U f fuel V S 0 P dp lt on (stk ++ [x]) tn (j + 1) σ) (hv : VlG W x) (hi : i < 24) (kk : ∀ τ, XF mS σ τ → McA C W wy a0 ch U f fuel V S 0 P dp lt on (stk ++ [vlX 1 (if blW W.1 (kdV x).toNatClampNeg i = true then 1 else 0)]) (tn + 1) j τ → C_X4_perform_16 Z (d + 9) τ (Int32.ofNat fuel) (Int32.ofNat (tn + 1)) K) : PfO Z d K fuel tn 4 (Int32.ofNat i) σ := by
  obtain ⟨k, hk, -, hkl⟩ := hv.kd
  have h24 := A.sk24.2.1.2.1
  refine PfO.rk A.fx (by decide) (T_X4_reckon_0 A.fx ⟨fun q => absurd q (by decide), fun q => absurd q (by decide), fun q => absurd q (by decide), fun q => absurd q (by decide), fun _ => ?_, fun _ _ _ _ q => absurd rfl q⟩)
  refine cl_pop A.fx A.skS (fun τ g s _ => T_X4_kindOf_0 (g.1.fx A.fx) ?_)
  have A1 := A.sk g s
  have F1 := A1.fx
  have hl : stk.length < 2048 := by
    have := A.skS.1.2
    rw [List.length_append, List.length_singleton] at this
    omega
  show C_X2_isBelow_0 Z _ τ (kdV x) _ _
  rw [hk]
  refine cl_below A1.sk24 hkl hi ?_
  rw [hk, oN_t (by omega)] at kk
  unfold blW at kk
  by_cases q : i ∈ rwW W.1 1 k
  · rw [if_pos q]
    refine ⟨fun z => absurd z (by decide), fun _ => T_X4_valueOf_0 F1 (pf_push A1 hl (fun _ w => w) (fun υ g2 A2 => kk υ (g.ms.tr g2) ?_))⟩
    rw [if_pos (decide_eq_true q)]
    exact A2
  · rw [if_neg q]
    refine ⟨fun _ => T_X4_valueOf_0 F1 (pf_push A1 hl (fun _ w => w) (fun υ g2 A2 => kk υ (g.ms.tr g2) ?_)), fun z => absurd rfl z⟩
    rw [if_neg (by rw [decide_eq_true_iff]; exact q)]
    exact A2
theorem jt_ok {e : Nat} {o : Nat} (F : FX ΦC σ.sh σ.r) (ho : 5 ≤ o ∧ o ≤ 11) {a b : Int32} (hb : o = 8 → b ≠ 0) (kk : Kx (.inl (some (.int (jtV (Int32.ofNat o) a b)))) σ) : C_X4_joinTwo_0 Z (e + 1) σ (Int32.ofNat o) a b Kx := by
  have ho : o = 5 ∨ o = 6 ∨ o = 7 ∨ o = 8 ∨ o = 9 ∨ o = 10 ∨ o = 11 := by omega
  refine T_X4_joinTwo_0 F ?_
  rcases ho with rfl | rfl | rfl | rfl | rfl | rfl | rfl
  · exact ⟨fun _ => kk, fun q => absurd q (by decide), fun q => absurd q (by decide), fun q => absurd q (by decide), fun q => absurd q (by decide), fun q => absurd q (by decide), fun q => absurd rfl q⟩
  · exact ⟨fun q => absurd q (by decide), fun _ => kk, fun q => absurd q (by decide), fun q => absurd q (by decide), fun q => absurd q (by decide), fun q => absurd q (by decide), fun _ q => absurd rfl q⟩
  · exact ⟨fun q => absurd q (by decide), fun q => absurd q (by decide), fun _ => kk, fun q => absurd q (by decide), fun q => absurd q (by decide), fun q => absurd q (by decide), fun _ _ q => absurd rfl q⟩
  · exact ⟨fun q => absurd q (by decide), fun q => absurd q (by decide), fun q => absurd q (by decide), fun _ => ⟨fun z => ⟨z, kk⟩, fun z => absurd z (hb rfl)⟩, fun q => absurd q (by decide), fun q => absurd q (by decide), fun _ _ _ q => absurd rfl q⟩
  · refine ⟨fun q => absurd q (by decide), fun q => absurd q (by decide), fun q => absurd q (by decide), fun q => absurd q (by decide), fun _ => ?_, fun q => absurd q (by decide), fun _ _ _ _ q => absurd rfl q⟩
    have e : jtV (Int32.ofNat 9) a b = if a < b then 1 else 0 := rfl
    rw [e] at kk
    refine ⟨fun z => ?_, fun z => ?_⟩
    · rw [if_neg (Int32.not_lt.mpr z)] at kk
      exact kk
    · rw [if_pos (Int32.not_le.mp z)] at kk
      exact kk
  · refine ⟨fun q => absurd q (by decide), fun q => absurd q (by decide), fun q => absurd q (by decide), fun q => absurd q (by decide), fun q => absurd q (by decide), fun _ => ?_, fun _ _ _ _ _ q => absurd rfl q⟩
    have e : jtV (Int32.ofNat 10) a b = if a ≤ b then 1 else 0 := rfl
    rw [e] at kk
    refine ⟨fun z => ?_, fun z => ?_⟩
    · rw [if_neg (Int32.not_le.mpr z)] at kk
      exact kk
    · rw [if_pos (Int32.not_lt.mp z)] at kk
      exact kk
  · refine ⟨fun q => absurd q (by decide), fun q => absurd q (by decide), fun q => absurd q (by decide), fun q => absurd q (by decide), fun q => absurd q (by decide), fun q => absurd q (by decide), fun _ _ _ _ _ _ => ?_⟩
    have e : jtV (Int32.ofNat 11) a b = if a = b then 1 else 0 := rfl
    rw [e] at kk
    refine ⟨fun z => ?_, fun z => ?_⟩
    · rw [if_neg z] at kk
      exact kk
    · rw [if_pos z] at kk
      exact kk
/-- two numbers become one -/
theorem po_two {o : Nat} (A : McA C W wy a0 ch U f fuel V S 0 P dp lt on (stk ++ [x, y]) tn (j + 1) σ) (ho : 5 ≤ o ∧ o ≤ 11)
    (kf : o = 8 → nmV y = 0 → ∀ τ, XF mS σ τ → McA C W wy a0 ch U f fuel V S 0 P dp lt on stk tn (j + 1) τ → C_X4_perform_257 Z (d + 9) (τ.wi 83 9 3) (Int32.ofNat fuel) (Int32.ofNat tn) K)
    (kk : ¬ (o = 8 ∧ nmV y = 0) → ∀ τ, XF mS σ τ → McA C W wy a0 ch U f fuel V S 0 P dp lt on (stk ++ [vlX 1 (jtV (Int32.ofNat o) (nmV x) (nmV y))]) (tn + 1) j τ → C_X4_perform_16 Z (d + 9) τ (Int32.ofNat fuel) (Int32.ofNat (tn + 1)) K) : PfO Z d K fuel tn (Int32.ofNat o) arg σ := by
  have ne : ∀ c : Nat, c < 5 → ¬ Int32.ofNat o = Int32.ofNat c := fun c hc q => by
    rw [oN_eq (by omega) (by omega)] at q
    omega
  have hs := A.skS
  rw [show stk ++ [x, y] = (stk ++ [x]) ++ [y] by rw [List.append_assoc]; rfl] at hs
  have hl : stk.length < 2048 := by
    have := A.skS.1.2
    rw [List.length_append, List.length_cons, List.length_singleton] at this
    omega
  refine PfO.rk A.fx (by rw [oN_i (by omega)]; omega) (T_X4_reckon_0 A.fx ⟨fun q => absurd q (ne 0 (by decide)), fun q => absurd q (ne 1 (by decide)), fun q => absurd q (ne 2 (by decide)), fun q => absurd q (ne 3 (by decide)), fun q => absurd q (ne 4 (by decide)), fun _ _ _ _ _ => ?_⟩)
  refine cl_pop A.fx hs (fun τ g s _ => cl_pop (g.1.fx A.fx) s (fun τ2 g2 s2 _ => ?_))
  have A2 := A.sk (g.tr g2) s2
  have gg := (g.tr g2).ms
  have F2 := A2.fx
  have e8 : Int32.ofNat o = 8 ↔ o = 8 := oN_eq (b := 8) (by omega) (by decide)
  have go : ¬ (o = 8 ∧ nmV y = 0) → C_X4_joinTwo_0 Z (d + 6) τ2 (Int32.ofNat o) (nmV x) (nmV y) (yI (yN (yN K fun τ1 => C_X4_perform_257 Z (d + 9) τ1 (Int32.ofNat fuel) (Int32.ofNat tn) K) fun τ => C_X4_perform_257 Z (d + 9) τ (Int32.ofNat fuel) (Int32.ofNat tn) K) fun v52 τ50 => C_X4_valueOf_0 Z (d + 6) τ50 1 v52 (yL (yN (yN K fun τ1 => C_X4_perform_257 Z (d + 9) τ1 (Int32.ofNat fuel) (Int32.ofNat tn) K) fun τ => C_X4_perform_257 Z (d + 9) τ (Int32.ofNat fuel) (Int32.ofNat tn) K) fun v55 τ53 => C_X4_push_0 Z (d + 6) τ53 v55 (yN (yN (yN K fun τ1 => C_X4_perform_257 Z (d + 9) τ1 (Int32.ofNat fuel) (Int32.ofNat tn) K) fun τ => C_X4_perform_257 Z (d + 9) τ (Int32.ofNat fuel) (Int32.ofNat tn) K) fun τ56 => C_X4_perform_257 Z (d + 9) τ56 (Int32.ofNat fuel) (Int32.ofNat tn) K))) := fun q => by
    refine jt_ok F2 ho (fun z1 z2 => q ⟨z1, z2⟩) (T_X4_valueOf_0 F2 ?_)
    exact pf_push A2 hl (fun _ w => w) (fun υ g3 A3 => kk q υ (gg.tr g3) A3)
  refine ⟨fun q => go (fun z => q (e8.mpr z.1)), fun q => ⟨fun q2 => go (fun z => q2 z.2), fun q2 => ?_⟩⟩
  exact kf (e8.mp q) q2 τ2 gg A2
end INST

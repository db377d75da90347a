/-! THE REFERENCE: called(); methods inside each other -/
section CALLED
variable {Z : zT} {W : Wld} {lst : List Nat} {b wy ch fuel dp cn nv D : Nat} {en : Ef} {σ τ : Sg} {K : kS}
/-- a choice made -/
def UpC (dp cn nv : Nat) (σ τ : Sg) : Prop := τ.sh = σ.sh ∧ (∀ a k, ¬ (a = 0 ∧ k = 51) → τ.r a k = σ.r a k) ∧ (∀ a k, ¬ evE dp cn a k → ¬ (a = 0 ∧ k = 70) → τ.i a k = σ.i a k) ∧ ∀ a k, ¬ evL dp nv a k → τ.l a k = σ.l a k
theorem EvT.cup {on : List Nat} {σ2 : Sg} {r : Rs × Es} (h70 : σ.i 0 70 = Int32.ofNat cn) (hcn : cn ≤ dp) (U : UpC dp cn nv σ σ2) (h : EvT W lst b wy ch fuel dp (cn + 1) nv on σ2 τ r) : EvT W lst b wy ch fuel dp cn nv on σ (τ.wi 0 70 (τ.i 0 70 - (1 : Int32))) r := by
  obtain ⟨g, h2, h3, h4, h5⟩ := h
  obtain ⟨g1, g2, g3, g4⟩ := g.fewer (Nat.le_succ cn)
  obtain ⟨u1, u2, u3, u4⟩ := U
  have e70 : τ.i 0 70 - 1 = Int32.ofNat cn := by
    rw [h3.2.1.1, oN_p1 (by omega)]
    rfl
  rw [e70]
  refine ⟨⟨g1.trans u1, fun a k q1 q2 => (g2 a k q1 q2).trans (u2 a k q1), fun a k q => ?_, fun a k q => (g4 a k q).trans (u4 a k q)⟩, h2.sm (SmW.wi0 (by decide)) h2.1.1, ?_, h4, ?_⟩
  · by_cases z : a = 0 ∧ k = 70
    · obtain ⟨rfl, rfl⟩ := z
      rw [wi_eq, h70]
    · rw [wi_ne z]
      exact (g3 a k q).trans (u3 a k q z)
  · obtain ⟨a1, a2, a3, a4, a5, ⟨a6, a7, a8⟩, a9, b1, b2⟩ := h3
    exact ⟨⟨(wi_ne (by decide)).trans a1.1, a1.2⟩, ⟨wi_eq, by omega⟩, a3, (wi_ne (by decide)).trans a4, (wi_ne (by decide)).trans a5, ⟨(wi_ne (by decide)).trans a6, a7, fun i x hx => (wi_ne (by omega)).trans (a8 i x hx)⟩, (wi_ne (by decide)).trans a9, b1, fun i x hx => (wi_ne (by omega)).trans (b2 i x hx)⟩
  · rcases r with ⟨v | v | v, S⟩
    · exact h5
    · exact h5
    · exact ⟨⟨(wi_ne (by decide)).trans h5.1.1, h5.1.2⟩, h5.2⟩
theorem ca_c184 {d X q pc : Nat} {l1 : Int32} {l2 l4 l6 : Int64} {y : String} (hpc : pc = 101 ∨ pc = 166 ∨ pc = 157 ∨ pc = 124) (hy : y = "DispatchHouseModel$Failed" ∨ y = "DispatchHouseModel$Ended") (w : B_X23_called_184 Z (d + 1) σ q K) : bS ΦR (hb_Gz Z.1 (some Z.2)) hb_GT d (mX23_called, [(97, 129, 184, 0), (142, 171, 184, 0), (184, 186, 184, 0)]) pc [(8, .ref X), (0, .ref 0), (1, .int l1), (2, .long l2), (4, .long l4), (6, .long l6)] K (.inr (y, q)) σ := by
  refine bS_c (hp := 184) (by rcases hy with rfl | rfl <;> rcases hpc with rfl | rfl | rfl | rfl <;> decide +kernel) (ab_fin.lv ⟨?_, by show ([8, 0, 1, 2, 4, 6] : List Nat).Nodup; decide⟩ w)
  intro x hx
  simp only [List.mem_cons, List.not_mem_nil, or_false] at hx ⊢
  rcases hx with rfl
  simp
theorem ca_fin {d X pc : Nat} {l1 : Int32} {l2 l4 l6 : Int64} {on : List Nat} {σ2 : Sg} {r : Rs × Es} (hpc : pc = 101 ∨ pc = 166 ∨ pc = 157 ∨ pc = 124) (h70 : σ.i 0 70 = Int32.ofNat cn) (hcn : cn ≤ dp) (U : UpC dp cn nv σ σ2) (hK : EvK W lst b wy ch fuel dp cn nv on σ r K) : EvK W lst b wy ch fuel dp (cn + 1) nv on σ2 r (yL (bS ΦR (hb_Gz Z.1 (some Z.2)) hb_GT d (mX23_called, [(97, 129, 184, 0), (142, 171, 184, 0), (184, 186, 184, 0)]) pc [(8, .ref X), (0, .ref 0), (1, .int l1), (2, .long l2), (4, .long l4), (6, .long l6)] K) fun v τ => K (.inl (some (.long v))) (τ.wi 0 70 ((τ.i 0 70) - (1 : Int32)))) := by
  intro τ q
  have F := q.2.1.1.1
  have hq := hK _ (q.cup h70 hcn U)
  rcases r with ⟨v | v | v, S⟩
  · exact hq
  · exact ca_c184 hpc (Or.inl rfl) (S_X23_called_184 F ⟨_, (fx_at F).1, hq⟩)
  · exact ca_c184 hpc (Or.inr rfl) (S_X23_called_184 F ⟨_, (fx_at F).2, hq⟩)
theorem vl_kd {x : Int64} (h24 : W.1.length ≤ 24) (h : VlG W x) : (kdV x).toNatClampNeg < W.1.length ∧ kdV x = Int32.ofNat (kdV x).toNatClampNeg := by
  obtain ⟨k, n, rfl, hk⟩ := h
  have := mkW_b hk
  rw [kd_vl, oN_t (by omega)]
  exact ⟨by omega, rfl⟩
theorem WrS.lt (h : WrS W lst b wy ch fuel σ) (g : LtF σ τ) (hO : OrR W τ) : WrS W lst b wy ch fuel τ := by
  have z0 : τ.i 0 = σ.i 0 := g.2.2.1 0 (by decide) (by decide) (by decide)
  exact ⟨h.1.ev (dp := 0) (cn := 0) (nv := 0) g.ev (by decide) (g.fx h.1.1), (h.wk.lt g).2.2.1, h.2.2.1.same (g.2.2.1 _ (by decide) (by decide) (by decide)) (g.2.2.1 _ (by decide) (by decide) (by decide)), hO, ⟨by rw [z0]; exact h.2.2.2.2.1.1, h.2.2.2.2.1.2⟩, by rw [z0]; exact h.2.2.2.2.2.1, h.2.2.2.2.2.2⟩
theorem WrS.gf {E : Nat → Nat → Prop} (h : WrS W lst b wy ch fuel σ) (g : GF E σ τ) (hE : ∀ a k, E a k → chE a k) (hF : FX ΦR τ.sh τ.r) (hM : MmR W wy τ) : WrS W lst b wy ch fuel τ := by
  have hk := h.1.2.1.1.2.1
  have hc := h.1.2.1.2.1.2.1
  have nE : ∀ a k, ¬ chE a k → ¬ E a k := fun a k q z => q (hE a k z)
  refine ⟨h.1.gf g hE hF, h.2.1.mono hk.2 hc (fun a a1 a2 a3 => ⟨g.row (fun k => nE a k (fun z => by unfold chE at z; omega)) (by omega) (by omega) (by omega), g.2.2.2 a (by omega)⟩) (g.2.2.1 0 41 (nE _ _ (fun z => by unfold chE at z; omega)) (by decide) (by decide) (by decide)), hM, h.2.2.2.1.same (g.row (fun k => nE _ k (fun z => by unfold chE at z; omega)) (by decide) (by decide) (by decide)), ⟨?_, h.2.2.2.2.1.2⟩, ?_, h.2.2.2.2.2.2⟩
  · exact (g.2.2.1 0 81 (nE _ _ (fun z => by unfold chE at z; omega)) (by decide) (by decide) (by decide)).trans h.2.2.2.2.1.1
  · exact (g.2.2.1 0 82 (nE _ _ (fun z => by unfold chE at z; omega)) (by decide) (by decide) (by decide)).trans h.2.2.2.2.2.1
theorem rf_called (hW : RnW W) {Fr : Sg → Prop} (hFr : ∀ nv σ τ, EvF dp cn nv σ τ → Fr σ → Fr τ) (hE : EnH Z W lst b wy ch fuel dp (cn + 1) D en) (hcn : cn ≤ dp) (hD : 300 ≤ D) : ClH Z W lst b wy ch fuel dp cn (D + 7) (clR W wy ch en) Fr := by
  intro d nv c args l1 l2 l3 on vs S σ K hd hn hc ha hav hG A hb hK
  obtain ⟨d, rfl⟩ : ∃ e, d = e + 7 := ⟨d - 7, by omega⟩
  have hdp := A.2.1.1.2
  have hpl := plW_ok hW.1.2.1 hc
  have hk24 := A.1.1.2.1.1.2.1
  have hc24 := A.1.1.2.1.2.1.2.1
  have h120 := A.1.1.2.2.1.2
  have hfl := A.2.2.2.2
  have F := A.fx
  obtain ⟨r87, r70, r68, r80, r84, r85, r86⟩ := A.2.1
  refine S_X23_called_0 F (S_X23_kindIn_0 F ?_)
  show B_X23_kindIn_0 Z (d + 6) (σ.wi 2182 0 (kdV l1)) l2 (yI K _)
  refine S_X23_kindIn_0 (σ := σ.wi 2182 0 (kdV l1)) F ?_
  show B_X23_kindIn_0 Z (d + 6) ((σ.wi 2182 0 (kdV l1)).wi 2182 1 (kdV l2)) l3 (yI K _)
  refine S_X23_kindIn_0 (σ := (σ.wi 2182 0 (kdV l1)).wi 2182 1 (kdV l2)) F ?_
  obtain ⟨σ3, hσ3⟩ : ∃ x, x = (((((((σ.wi 2182 0 (kdV l1)).wi 2182 1 (kdV l2)).wi 2182 2 (kdV l3)).wi 2183 0 (nmV l1)).wi 2183 1 (nmV l2)).wi 2183 2 (nmV l3)) : Sg) := ⟨_, rfl⟩
  have F3 : FX ΦR σ3.sh σ3.r := by rw [hσ3]; exact F
  have w3 : SmW σ σ3 := by
    rw [hσ3]
    exact (((((SmW.wi (by decide)).tr (SmW.wi (by decide))).tr (SmW.wi (by decide))).tr (SmW.wi (by decide))).tr (SmW.wi (by decide))).tr (SmW.wi (by decide))
  have l3' : σ3.l = σ.l := by rw [hσ3]; rfl
  have r3' : σ3.r = σ.r := by rw [hσ3]; rfl
  have i3 : ∀ a k, a ≠ 2182 → a ≠ 2183 → σ3.i a k = σ.i a k := fun a k q1 q2 => by
    rw [hσ3, wi_ne (fun z => q2 z.1), wi_ne (fun z => q2 z.1), wi_ne (fun z => q2 z.1), wi_ne (fun z => q1 z.1), wi_ne (fun z => q1 z.1), wi_ne (fun z => q1 z.1)]
  have W3 := A.1.sm w3 F3
  have key : ∀ i, i < plW W.2.1 c → ∃ x, args[i]? = some x ∧ VlG W x ∧ σ3.i 2182 i = kdV x ∧ σ3.i 2183 i = nmV x := fun i hi => by
    have hi' : i < args.length := by omega
    have e1 : args[i]? = some args[i] := List.getElem?_eq_getElem hi'
    have e2 : args[i]? = [l1, l2, l3][i]? := by rw [hG, List.getElem?_take, if_pos hi']
    refine ⟨args[i], e1, hav _ (List.getElem_mem hi'), ?_⟩
    rw [e1] at e2
    have : i = 0 ∨ i = 1 ∨ i = 2 := by omega
    rcases this with rfl | rfl | rfl
    · have e2 : some args[0] = some l1 := e2
      rw [Option.some.inj e2, hσ3]
      refine ⟨?_, ?_⟩
      · rw [wi_ne (by decide), wi_ne (by decide), wi_ne (by decide), wi_ne (by decide), wi_ne (by decide), wi_eq]
      · rw [wi_ne (by decide), wi_ne (by decide), wi_eq]
    · have e2 : some args[1] = some l2 := e2
      rw [Option.some.inj e2, hσ3]
      refine ⟨?_, ?_⟩
      · rw [wi_ne (by decide), wi_ne (by decide), wi_ne (by decide), wi_ne (by decide), wi_eq]
      · rw [wi_ne (by decide), wi_eq]
    · have e2 : some args[2] = some l3 := e2
      rw [Option.some.inj e2, hσ3]
      refine ⟨?_, ?_⟩
      · rw [wi_ne (by decide), wi_ne (by decide), wi_ne (by decide), wi_eq]
      · exact wi_eq
  have kdk : ∀ i, i < plW W.2.1 c → (σ3.i 2182 i = Int32.ofNat (kdA' args i) ∧ kdA' args i < W.1.length) ∧ σ3.i 2183 i = Int32.ofInt (nmA args i) ∧ (-2147483648 ≤ nmA args i ∧ nmA args i ≤ 2147483647) := fun i hi => by
    obtain ⟨x, x1, x2, x3, x4⟩ := key i hi
    obtain ⟨y1, y2⟩ := vl_kd hk24.2 x2
    have e1 : kdA' args i = (kdV x).toNatClampNeg := by
      unfold kdA'
      rw [x1]
    have e2 : nmA args i = (nmV x).toInt := by
      unfold nmA
      rw [x1]
    rw [e1, e2, x3, x4]
    exact ⟨⟨y2, y1⟩, (Int32.ofInt_toInt _).symm, i32_le _⟩
  have kz : ∀ i, plW W.2.1 c ≤ i → kdA' args i = 0 := fun i hi => by
    unfold kdA'
    rw [List.getElem?_eq_none (by omega)]
  have s82 : ∀ {υ : Sg}, FX ΦR υ.sh υ.r → υ.sh[2182]? = some (Sh.arr 0 3) ∧ υ.sh[2183]? = some (Sh.arr 0 3) := fun {υ} Fυ => ⟨Fυ.s (by decide +kernel), Fυ.s (by decide +kernel)⟩
  have goal : B_X23_looks_0 Z (d + 6) σ3 (Int32.ofNat c) 2182 (yI K fun v12 τ10 => ib (τ10.i 0 70) 48 ∧ (B_X23_choose_0 Z (d + 6) ((τ10.wi 0 84 ((((σ.wi 2182 0 (kdV l1)).wi 2182 1 (kdV l2)).i 0 84) + v12)).wi 0 70 ((τ10.i 0 70) + (1 : Int32))) (2981 + 8 * ((τ10.i 0 70).toNatClampNeg)) (Int32.ofNat c) (yN (bS ΦR (hb_Gz Z.1 (some Z.2)) hb_GT (d + 6) (mX23_called, [(97, 129, 184, 0), (142, 171, 184, 0), (184, 186, 184, 0)]) 101 [(8, .ref (2981 + 8 * ((τ10.i 0 70).toNatClampNeg))), (0, .ref 0), (1, .int (Int32.ofNat c)), (2, .long l1), (4, .long l2), (6, .long l3)] K) fun τ14 => ((τ14.i ((2981 + 8 * ((τ10.i 0 70).toNatClampNeg)) + 6) 1) ≤ 0 → ((τ14.i ((2981 + 8 * ((τ10.i 0 70).toNatClampNeg)) + 7) 1) = 0 → B_X23_inside_0 Z (d + 6) τ14 (2981 + 8 * ((τ10.i 0 70).toNatClampNeg)) l1 l2 l3 (yL (bS ΦR (hb_Gz Z.1 (some Z.2)) hb_GT (d + 6) (mX23_called, [(97, 129, 184, 0), (142, 171, 184, 0), (184, 186, 184, 0)]) 166 [(8, .ref (2981 + 8 * ((τ10.i 0 70).toNatClampNeg))), (0, .ref 0), (1, .int (Int32.ofNat c)), (2, .long l1), (4, .long l2), (6, .long l3)] K) fun v18 τ16 => K (.inl (some (.long v18))) (τ16.wi 0 70 ((τ16.i 0 70) - (1 : Int32))))) ∧ (¬ (τ14.i ((2981 + 8 * ((τ10.i 0 70).toNatClampNeg)) + 7) 1) = 0 → B_X23_fault_0 Z (d + 6) τ14 2 (yR (bS ΦR (hb_Gz Z.1 (some Z.2)) hb_GT (d + 6) (mX23_called, [(97, 129, 184, 0), (142, 171, 184, 0), (184, 186, 184, 0)]) 154 [(8, .ref (2981 + 8 * ((τ10.i 0 70).toNatClampNeg))), (0, .ref 0), (1, .int (Int32.ofNat c)), (2, .long l1), (4, .long l2), (6, .long l3)] K) fun v21 τ19 => ∃ x23, aT τ19 v21 x23 ∧ (bS ΦR (hb_Gz Z.1 (some Z.2)) hb_GT (d + 6) (mX23_called, [(97, 129, 184, 0), (142, 171, 184, 0), (184, 186, 184, 0)]) 157 [(8, .ref (2981 + 8 * ((τ10.i 0 70).toNatClampNeg))), (0, .ref 0), (1, .int (Int32.ofNat c)), (2, .long l1), (4, .long l2), (6, .long l3)] K) (.inr (x23, v21)) τ19))) ∧ (¬ (τ14.i ((2981 + 8 * ((τ10.i 0 70).toNatClampNeg)) + 6) 1) ≤ 0 → B_X23_enter_0 Z (d + 6) τ14 (2981 + 8 * ((τ10.i 0 70).toNatClampNeg)) 1 0 l1 l2 l3 (yL (bS ΦR (hb_Gz Z.1 (some Z.2)) hb_GT (d + 6) (mX23_called, [(97, 129, 184, 0), (142, 171, 184, 0), (184, 186, 184, 0)]) 124 [(8, .ref (2981 + 8 * ((τ10.i 0 70).toNatClampNeg))), (0, .ref 0), (1, .int (Int32.ofNat c)), (2, .long l1), (4, .long l2), (6, .long l3)] K) fun v26 τ24 => K (.inl (some (.long v26))) (τ24.wi 0 70 ((τ24.i 0 70) - (1 : Int32)))))))) := by
    refine rf_looks (ch := ch) (k := kdA' args) W3.wk hc (List.length_pos_of_mem hW.2.2.2.1) W3.2.2.2.1 W3.2.2.2.2.2 (by decide) (s82 F3).1 (fun i hi => (kdk i hi).1) (fun τ10 g10 hO => ?_)
    show ib (τ10.i 0 70) 48 ∧ _
    have z10 : τ10.i 0 = σ3.i 0 := g10.2.2.1 0 (by decide) (by decide) (by decide)
    have e70 : τ10.i 0 70 = Int32.ofNat cn := by rw [z10, i3 _ _ (by decide) (by decide)]; exact r70.1
    have e84 : ((σ.wi 2182 0 (kdV l1)).wi 2182 1 (kdV l2)).i 0 84 = Int32.ofNat S.2.1 := by
      rw [wi_ne (by decide), wi_ne (by decide)]
      exact r84
    rw [e70, e84, oN_add, oN_1, oN_t (by omega)]
    refine ⟨ib_oN (by omega) (by decide), ?_⟩
    obtain ⟨σ4, hσ4⟩ : ∃ x, x = ((τ10.wi 0 84 (Int32.ofNat (S.2.1 + loN W c ch (kdA' args)))).wi 0 70 (Int32.ofNat (cn + 1)) : Sg) := ⟨_, rfl⟩
    rw [← hσ4]
    have F10 := g10.fx F3
    have F4 : FX ΦR σ4.sh σ4.r := by rw [hσ4]; exact F10
    have W4 : WrS W lst b wy ch fuel σ4 := by
      rw [hσ4]
      exact (W3.lt g10 hO).sm ((SmW.wi0 (by decide)).tr (SmW.wi0 (by decide))) F10
    have i4 : ∀ a k, ¬ (a = 0 ∧ (k = 84 ∨ k = 70)) → σ4.i a k = τ10.i a k := fun a k q => by
      rw [hσ4, wi_ne (fun z => q ⟨z.1, Or.inr z.2⟩), wi_ne (fun z => q ⟨z.1, Or.inl z.2⟩)]
    have l4 : σ4.l = τ10.l := by rw [hσ4]; rfl
    have r4 : σ4.r = τ10.r := by rw [hσ4]; rfl
    have sh4 : σ4.sh = τ10.sh := by rw [hσ4]; rfl
    have U4 : UpC dp cn nv σ σ4 := by
      refine ⟨?_, fun a k q => ?_, fun a k q1 q2 => ?_, fun a k q => ?_⟩
      · rw [sh4, g10.1, w3.1]
      · rw [r4, g10.2.1, r3']
      · rw [i4 a k (fun z => by unfold evE at q1; omega), g10.2.2.1 a (fun z => q1 (by unfold evE; omega)) (fun z => q1 (by unfold evE; omega)) (fun z => q1 (by unfold evE; omega))]
        exact i3 a k (fun z => q1 (by unfold evE; omega)) (fun z => q1 (by unfold evE; omega))
      · rw [l4, g10.2.2.2 a k (fun z => q (by unfold evL; omega)) (fun z => q (by unfold evL; omega)) (fun z => q (by unfold evL; omega)), l3']
    have i82 : ∀ a k, (a = 2182 ∨ a = 2183) → σ4.i a k = σ3.i a k := fun a k q => (i4 a k (by omega)).trans (by rw [g10.2.2.1 a (by omega) (by omega) (by omega)])
    have l68 : σ4.l 0 68 = Int64.ofNat (enL on) := by
      rw [l4, g10.2.2.2 0 68 (by decide) (by decide) (by decide), l3']
      exact r68.1
    have R4 : RnS dp (cn + 1) on (S.1, S.2.1 + loN W c ch (kdA' args), S.2.2) σ4 := by
      have ii : ∀ k, k ≠ 84 → k ≠ 70 → σ4.i 0 k = σ.i 0 k := fun k q1 q2 => by
        rw [i4 0 k (by omega), z10, i3 _ _ (by decide) (by decide)]
      have i5 : ∀ a k, (a = 2134 ∨ a = 2135) → σ4.i a k = σ.i a k := fun a k q => by
        rw [i4 a k (by omega), g10.2.2.1 a (by omega) (by omega) (by omega), i3 _ _ (by omega) (by omega)]
      refine ⟨⟨(ii 87 (by decide) (by decide)).trans r87.1, r87.2⟩, ⟨by rw [hσ4]; exact wi_eq, by omega⟩, ⟨l68, r68.2⟩, (ii 80 (by decide) (by decide)).trans r80, ?_, ⟨(ii 85 (by decide) (by decide)).trans r85.1, r85.2.1, fun i x hx => (i5 _ _ (Or.inl rfl)).trans (r85.2.2 i x hx)⟩, (ii 86 (by decide) (by decide)).trans r86.1, r86.2.1, fun i x hx => (i5 _ _ (Or.inr rfl)).trans (r86.2.2 i x hx)⟩
      rw [hσ4]
      exact (wi_ne (by decide)).trans wi_eq
    have hX : coE (2981 + 8 * cn) = coE (2981 + 8 * cn) := rfl
    have hEc : ∀ a k, coE (2981 + 8 * cn) a k → chE a k := fun a k q => by
      unfold coE at q
      unfold chE
      omega
    have aft : ∀ {υ : Sg}, GF (coE (2981 + 8 * cn)) σ4 υ → FX ΦR υ.sh υ.r → MmR W wy υ → WrS W lst b wy ch fuel υ ∧ UpC dp cn nv σ υ ∧ RnS dp (cn + 1) on (S.1, S.2.1 + loN W c ch (kdA' args), S.2.2) υ := fun {υ} g Fυ Mυ => by
      have ne : ∀ a k, ¬ coE (2981 + 8 * cn) a k → ¬ (a = 0 ∧ (k = 47 ∨ k = 48 ∨ k = 50 ∨ k = 53 ∨ k = 54)) → ¬ (1933 ≤ a ∧ a ≤ 1935) → ¬ (2067 ≤ a ∧ a ≤ 2070) → υ.i a k = σ4.i a k := g.2.2.1
      refine ⟨W4.gf g hEc Fυ Mυ, ⟨g.1.trans U4.1, fun a k q => (g.2.1 a k q).trans (U4.2.1 a k q), fun a k q1 q2 => (ne a k (fun z => q1 (by unfold coE at z; unfold evE; omega)) (fun z => q1 (by unfold evE; omega)) (fun z => q1 (by unfold evE; omega)) (fun z => q1 (by unfold evE; omega))).trans (U4.2.2.1 a k q1 q2), fun a k q => (by rw [g.2.2.2 a (fun z => q (by unfold evL; omega))]; exact U4.2.2.2 a k q)⟩, ?_⟩
      have ii : ∀ k, (k = 87 ∨ k = 70 ∨ k = 80 ∨ k = 84 ∨ k = 85 ∨ k = 86) → υ.i 0 k = σ4.i 0 k := fun k q => ne 0 k (fun z => by unfold coE at z; omega) (by omega) (by decide) (by decide)
      have i5 : ∀ a, (a = 2134 ∨ a = 2135) → υ.i a = σ4.i a := fun a q => funext fun k => ne a k (fun z => by unfold coE at z; omega) (by omega) (by omega) (by omega)
      exact R4.keep (ii 87 (by decide)) (ii 70 (by decide)) (by rw [g.2.2.2 0 (by decide)]) ((ii 80 (by decide)).trans R4.2.2.2.1) ((ii 84 (by decide)).trans R4.2.2.2.2.1) rfl (ii 85 (by decide)) (ii 86 (by decide)) (i5 _ (Or.inl rfl)) (i5 _ (Or.inr rfl))
    refine rf_choose (k := kdA' args) (v := nmA args) (on := on) hW.1 (by omega) W4.1 W4.2.2.1 W4.2.1.2.2.1 hc ⟨cn, by omega, rfl⟩ ⟨⟨(s82 F4).1, by decide, by decide, by decide⟩, fun i hi => by rw [i82 _ _ (Or.inl rfl)]; exact (kdk i hi).1, kz⟩ ⟨s82 F4, fun i hi => by rw [i82 _ _ (Or.inl rfl), i82 _ _ (Or.inr rfl)]; exact kdk i hi⟩ l68 r68.2.1 (on_len r68.2.1 r68.2.2) r68.2.2 (fun hany υ Fυ g Mυ Cυ => ?_) (fun hany υ Fυ g Mυ => ?_)
    · obtain ⟨W5, U5, R5⟩ := aft g Fυ Mυ
      have A5 : EvA W lst b wy ch fuel dp (cn + 1) (fun σ => CcS σ (2981 + 8 * cn) c (rowW W wy on c (kdA' args) (apL W on c (kdA' args) (nmA args) W.2.2.2.length))) on [] (S.1, S.2.1 + loN W c ch (kdA' args), S.2.2) υ := ⟨W5, R5, fun i x hx => (by cases hx), Cυ, hfl⟩
      have hRw : RwG W c (rowW W wy on c (kdA' args) (apL W on c (kdA' args) (nmA args) W.2.2.2.length)) := rowW_ok r68.2.2 h120
      have h1120 := (hRw 1).1
      unfold clR at hK
      rw [if_pos hany] at hK
      show (_ → _) ∧ (_ → _)
      rw [(Cυ.2 1 (by decide)).1, show (0 : Int32) = Int32.ofNat 0 from rfl, oN_le (by omega) (by decide), (Cυ.2 1 (by decide)).2.2]
      have sv : ∀ bb : Bool, ((if bb = true then (1 : Int32) else 0) = Int32.ofNat 0) ↔ bb = false := by decide
      rw [sv]
      refine ⟨fun q => ⟨fun qs => ?_, fun qs => ?_⟩, fun q => ?_⟩
      · rw [if_neg (by omega), qs, if_neg (by decide)] at hK
        exact rf_inside (d := d + 4) hE (by omega) hRw hc (Nat.lt_succ_self cn) (by omega) ha hav hG hW.2.2.2 (by omega) A5 hb (ca_fin (by decide) r70.1 hcn U5 hK)
      · rw [if_neg (by omega), bl_T qs, if_pos rfl] at hK
        refine EvK.flt2 (nv := nv) A5 hb hW.2.2.2.2 (fun ω q2 => ?_)
        have F6 := q2.2.1.1.1
        exact ca_c184 (by decide) (Or.inl rfl) (S_X23_called_184 F6 ⟨_, (fx_at F6).1, hK _ (q2.cup r70.1 hcn U5)⟩)
      · rw [if_pos (by omega)] at hK
        exact hE (d + 6) nv 1 0 cn c _ args l1 l2 l3 on _ υ _ (by omega) (by decide) (by omega) hRw hc (Nat.lt_succ_self cn) ha hav hG A5 hb (ca_fin (by decide) r70.1 hcn U5 hK)
    · obtain ⟨W5, U5, R5⟩ := aft g Fυ Mυ
      unfold clR at hK
      rw [if_neg (by rw [hany]; decide)] at hK
      have q2 : EvT W lst b wy ch fuel dp (cn + 1) nv on υ (υ.wl 0 78 (vlX 2 1)) (faR 1 (S.1, S.2.1 + loN W c ch (kdA' args), S.2.2)) := ⟨EvF.wl (by unfold evL; omega), W5.sm (SmW.wl (Or.inl rfl)) W5.1.1, R5.keep rfl rfl (wl_ne (by decide)) R5.2.2.2.1 R5.2.2.2.2.1 rfl rfl rfl rfl rfl, hfl, ⟨⟨2, 1, rfl, hW.2.2.2.2⟩, wl_eq⟩, hb⟩
      have F6 := q2.2.1.1.1
      exact ca_c184 (pc := 101) (by decide) (Or.inl rfl) (S_X23_called_184 F6 ⟨_, (fx_at F6).1, hK _ (q2.cup r70.1 hcn U5)⟩)
  rw [hσ3] at goal
  exact goal
theorem EnH.le {D' : Nat} (h : EnH Z W lst b wy ch fuel dp cn D en) (hD : D ≤ D') : EnH Z W lst b wy ch fuel dp cn D' en := fun d nv role i j c R args l1 l2 l3 on S σ K hd => h d nv role i j c R args l1 l2 l3 on S σ K (Nat.le_trans hD hd)
/-- enter(), however many may still be inside each other -/
theorem rf_ens (hW : RnW W) : ∀ k dp cn, dp + k = 24 → EnH Z W lst b wy ch fuel dp cn (300 + 60 * k) (enK W wy ch fuel k)
  | 0, dp, cn, h => rf_enter0 (by omega) hW (by omega)
  | k + 1, dp, cn, h => by
    by_cases hcn : cn ≤ dp + 1
    · refine EnH.le (rf_enter (D := 300 + 60 * k + 7) h hW (by omega) (fun Fr hFr => ?_) (fun j c m i R hj hc hR hm hi => ?_)) (by omega)
      · exact rf_called (D := 300 + 60 * k) hW hFr (rf_ens hW k (dp + 1) (cn + 1) (by omega)) hcn (by omega)
      · have := rf_further hW (rf_ens hW k (dp + 1) cn (by omega)) (by omega) hj hc hR hm (i := i) (by omega)
        exact fun d nv args l1 l2 l3 on vs S σ K hd => this d nv args l1 l2 l3 on vs S σ K (by omega)
    · intro d nv role i j c R args l1 l2 l3 on S σ K hd hr hi hR hc hj ha hav hG A hb hK
      exact absurd A.2.1.2.1.2 hcn
end CALLED

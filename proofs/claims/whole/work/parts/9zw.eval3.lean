/-! THE REFERENCE: eval(): layers, try, chains -/
theorem wl_id (σ : Sg) (a k : Nat) : σ.wl a k (σ.l a k) = σ := by
  show Prod.mk _ _ = σ
  rw [show up σ.l a k (σ.l a k) = σ.l from up_id _ _ _]
section EVAL3
variable {Z : zT} {W : Wld} {lst : List Nat} {b wy ch fuel dp cn D : Nat} {E : Wev} {pl : Nat} {cl : Cf} {fu : Nf} {Fr : Sg → Prop} {B : Nat → Prop}
theorem ev_c211 {d : Nat} {σ : Sg} {l1 q : Nat} {l2 : Int64} {K : kS} {y : String} (hy : y = "DispatchHouseModel$Failed" ∨ y = "DispatchHouseModel$Ended") (w : B_X23_eval_211 Z (d + 1) σ l2 q K) : bS ΦR (hb_Gz Z.1 (some Z.2)) hb_GT d (mX23_eval, [(193, 203, 211, 0), (211, 213, 211, 0), (242, 250, 251, 790)]) 198 [(0, .ref 0), (1, .ref l1), (2, .long l2)] K (.inr (y, q)) σ := by
  refine bS_c (hp := 211) (by rcases hy with rfl | rfl <;> decide +kernel) (ab_fin.lv ⟨?_, by show ([0, 1, 2] : List Nat).Nodup; decide⟩ w)
  intro x hx
  simp only [List.mem_cons, List.not_mem_nil, or_false] at hx ⊢
  rcases hx with rfl | rfl <;> simp
/-- with other layers on -/
theorem eh_lay (hFl : ∀ σ v, Fr σ → Fr (σ.wl 0 68 v)) {a : Ast} {nv : Nat} (ia : EvH Z W lst b wy ch fuel dp cn D pl cl fu Fr B a false nv) {d x : Nat} {vs : List Int64} {on on' : List Nat} {S : Es} {τ : Sg} {K : kS} (hd : eH a + D ≤ d) (hl : vs.length = nv) (hpl : pl ≤ nv ∧ nv ≤ 15) (A : EvA W lst b wy ch fuel dp cn Fr on vs S τ) (hs : τ.sh[x]? = some (Sh.obj 21)) (T : TrN τ B a (τ.r x 5)) (hb : S.2.2.2.1 ≤ S.1 + 1) (ho : (∀ y ∈ on', y < 8) ∧ on'.Nodup) (hK : EvK W lst b wy ch fuel dp cn nv on τ (ev W fuel pl cl fu a false 0 vs on' S) K) : B_X23_eval_190 Z (d + 1) τ x (τ.l 0 68) (Int64.ofNat (enL on')) K := by
  have hd24 := A.2.1.1.2
  have F := A.fx
  have F' : FX ΦR (τ.wl 0 68 (Int64.ofNat (enL on'))).sh (τ.wl 0 68 (Int64.ofNat (enL on'))).r := F
  have T' : TrN (τ.wl 0 68 (Int64.ofNat (enL on'))) B a (τ.r x 5) := TrN.mono (σ := τ) (τ := τ.wl 0 68 (Int64.ofNat (enL on'))) (fun y hy hys => ⟨hy, hys, rfl, funext fun k => wl_ne (by have := nd_ge F hys; omega), rfl⟩) _ _ T
  have R := A.2.1
  refine S_X23_eval_190 F ⟨hs, ia.1 rfl _ 0 vs on' S _ _ _ hd hl hpl ⟨A.1.sm (SmW.wl (Or.inl rfl)) F, ⟨R.1, R.2.1, ⟨wl_eq, ho⟩, R.2.2.2⟩, fun i y hy => ?_, hFl _ _ A.2.2.2.1, A.2.2.2.2⟩ T' hb ?_⟩
  · obtain ⟨z1, z2⟩ := A.2.2.1 i y hy
    exact ⟨(wl_ne (by omega)).trans z1, z2⟩
  · intro υ q
    obtain ⟨q1, q2, q3, q4, q5⟩ := q
    have G : EvF dp cn nv τ (υ.wl 0 68 (τ.l 0 68)) := ⟨q1.1, q1.2.1, q1.2.2.1, fun y k z => by
      by_cases e : y = 0 ∧ k = 68
      · rw [e.1, e.2, wl_eq]
      · rw [wl_ne e, q1.2.2.2 y k z, wl_ne e]⟩
    have G2 : RnS dp cn on (ev W fuel pl cl fu a false 0 vs on' S).2 (υ.wl 0 68 (τ.l 0 68)) := ⟨q3.1, q3.2.1, ⟨wl_eq.trans R.2.2.1.1, R.2.2.1.2⟩, q3.2.2.2⟩
    have G3 : WrS W lst b wy ch fuel (υ.wl 0 68 (τ.l 0 68)) := q2.sm (SmW.wl (Or.inl rfl)) q2.1.1
    generalize ev W fuel pl cl fu a false 0 vs on' S = r at hK q3 q4 q5 G2
    rcases r with ⟨v | v | v, S'⟩
    · exact hK _ ⟨G, G3, G2, q4, q5⟩
    · refine ev_c211 (Or.inl rfl) (S_X23_eval_211 q2.1.1 ⟨_, (fx_at q2.1.1).1, hK _ ⟨G, G3, G2, q4, ⟨q5.1.1, ?_⟩, q5.2⟩⟩)
      rw [wl_ne (by decide)]
      exact q5.1.2
    · exact ev_c211 (Or.inr rfl) (S_X23_eval_211 q2.1.1 ⟨_, (fx_at q2.1.1).2, hK _ ⟨G, G3, G2, q4, q5⟩⟩)
theorem eh_3 (hFr : ∀ nv σ τ, EvF dp cn nv σ τ → Fr σ → Fr τ) (hFl : ∀ σ v, Fr σ → Fr (σ.wl 0 68 v)) (hD : 10 ≤ D) (v w : Int) (a : Ast) (nv : Nat) (hv : 0 ≤ v ∧ v < (W.2.2.1.length : Int)) (ia : EvH Z W lst b wy ch fuel dp cn D pl cl fu Fr B a false nv) : EvH Z W lst b wy ch fuel dp cn D pl cl fu Fr B (aN 3 v w a .nil .nil) false nv := by
  refine ⟨fun _ => ?_, fun z => by cases z⟩
  intro d acc vs on S σ r K hd hl hpl A T hb hK
  have hd24 := A.2.1.1.2
  rw [eH_2, if_neg (by decide), if_neg (by decide)] at hd
  have T0 := T
  rw [TrN_aN] at T0
  obtain ⟨x, rfl, -⟩ := T0
  obtain ⟨hs, hF, Ta, -⟩ := T.at
  have h0 : σ.i x 0 = 3 := hF.1 (by decide)
  obtain ⟨d, rfl⟩ : ∃ e, d = e + 3 := ⟨d - 3, by omega⟩
  rw [ev_3] at hK
  refine S_X23_eval_0 A.fx ⟨x, rfl, hs, fun q => absurd (h0.symm.trans q) (by decide), fun q => absurd (h0.symm.trans q) (by decide), fun _ => ?_, fun q => absurd (h0.symm.trans q) (by decide), fun q => absurd (h0.symm.trans q) (by decide), fun q => absurd (h0.symm.trans q) (by decide), fun q => absurd (h0.symm.trans q) (by decide), fun q => absurd (h0.symm.trans q) (by decide), fun q => absurd (h0.symm.trans q) (by decide), fun q => absurd (h0.symm.trans q) (by decide), fun q => absurd (h0.symm.trans q) (by decide), fun q => absurd (h0.symm.trans q) (by decide), fun q => absurd (h0.symm.trans q) (by decide), fun q => absurd (h0.symm.trans q) (by decide), fun q1 q2 q3 q4 q5 q6 q7 q8 q9 q10 q11 q12 q13 q16 => absurd h0 q3⟩
  refine EvK.st A hFr (by omega) hb hK (fun hq τ g A1 K1 => ?_)
  have T1 := TrN.ev A.fx T g hd24
  obtain ⟨hs1, hF1, Ta1, -⟩ := T1.at
  have e1 : τ.i x 1 = Int32.ofNat v.toNat := (hF1.2.2.1 (by decide)).trans (oI_nn hv.1)
  have h8 := A1.1.1.2.1.2.2.2.1
  have R := A1.2.1.2.2.1
  refine ⟨hs1, fun q => absurd (hF1.1 (by decide)) q, fun _ => ?_⟩
  rw [e1]
  have L := on_len R.2.1 R.2.2
  have c1 : τ.l 0 68 = Int64.ofNat (enL on) := R.1
  have fl := List.length_filter_le (fun y => decide (y ≠ v.toNat)) on
  have key : B_X23_with_0 Z (d + 2) τ (Int64.ofNat (enL on)) (Int32.ofNat v.toNat) (yL K fun v38 τ36 => B_X23_eval_190 Z (d + 2 + 1) τ36 x (τ.l 0 68) v38 K) := rf_with A1.fx (by omega) R.2.1 (by omega) L (eh_lay hFl ia (by omega) hl hpl A1 hs1 Ta1 (by show S.2.2.2.1 ≤ S.1 + 1 + 1; omega) ⟨fun y hy => ?_, ?_⟩ K1)
  · rw [← c1] at key
    exact key
  · rcases List.mem_append.mp hy with hy | hy
    · exact R.2.1 y (List.mem_filter.mp hy).1
    · obtain rfl := List.mem_singleton.mp hy
      omega
  · refine List.nodup_append.mpr ⟨List.Pairwise.filter _ R.2.2, by simp, fun y hy z hz => ?_⟩
    obtain rfl := List.mem_singleton.mp hz
    have := (List.mem_filter.mp hy).2
    exact of_decide_eq_true this
theorem eh_4 (hFr : ∀ nv σ τ, EvF dp cn nv σ τ → Fr σ → Fr τ) (hFl : ∀ σ v, Fr σ → Fr (σ.wl 0 68 v)) (hD : 10 ≤ D) (v w : Int) (a : Ast) (nv : Nat) (hv : 0 ≤ v ∧ v < (W.2.2.1.length : Int)) (ia : EvH Z W lst b wy ch fuel dp cn D pl cl fu Fr B a false nv) : EvH Z W lst b wy ch fuel dp cn D pl cl fu Fr B (aN 4 v w a .nil .nil) false nv := by
  refine ⟨fun _ => ?_, fun z => by cases z⟩
  intro d acc vs on S σ r K hd hl hpl A T hb hK
  have hd24 := A.2.1.1.2
  rw [eH_2, if_neg (by decide), if_neg (by decide)] at hd
  have T0 := T
  rw [TrN_aN] at T0
  obtain ⟨x, rfl, -⟩ := T0
  obtain ⟨hs, hF, Ta, -⟩ := T.at
  have h0 : σ.i x 0 = 4 := hF.1 (by decide)
  obtain ⟨d, rfl⟩ : ∃ e, d = e + 3 := ⟨d - 3, by omega⟩
  rw [ev_4] at hK
  refine S_X23_eval_0 A.fx ⟨x, rfl, hs, fun q => absurd (h0.symm.trans q) (by decide), fun q => absurd (h0.symm.trans q) (by decide), fun q => absurd (h0.symm.trans q) (by decide), fun _ => ?_, fun q => absurd (h0.symm.trans q) (by decide), fun q => absurd (h0.symm.trans q) (by decide), fun q => absurd (h0.symm.trans q) (by decide), fun q => absurd (h0.symm.trans q) (by decide), fun q => absurd (h0.symm.trans q) (by decide), fun q => absurd (h0.symm.trans q) (by decide), fun q => absurd (h0.symm.trans q) (by decide), fun q => absurd (h0.symm.trans q) (by decide), fun q => absurd (h0.symm.trans q) (by decide), fun q => absurd (h0.symm.trans q) (by decide), fun q1 q2 q3 q4 q5 q6 q7 q8 q9 q10 q11 q12 q13 q16 => absurd h0 q4⟩
  refine EvK.st A hFr (by omega) hb hK (fun hq τ g A1 K1 => ?_)
  have T1 := TrN.ev A.fx T g hd24
  obtain ⟨hs1, hF1, Ta1, -⟩ := T1.at
  have e1 : τ.i x 1 = Int32.ofNat v.toNat := (hF1.2.2.1 (by decide)).trans (oI_nn hv.1)
  have h8 := A1.1.1.2.1.2.2.2.1
  have R := A1.2.1.2.2.1
  refine ⟨hs1, fun _ => ?_, fun q => absurd ((hF1.1 (by decide) : τ.i x 0 = Int32.ofNat 4).symm.trans q) (by decide)⟩
  rw [e1]
  have L := on_len R.2.1 R.2.2
  have c1 : τ.l 0 68 = Int64.ofNat (enL on) := R.1
  have key : B_X23_without_0 Z (d + 2) τ (Int64.ofNat (enL on)) (Int32.ofNat v.toNat) (yL K fun v38 τ36 => B_X23_eval_190 Z (d + 2 + 1) τ36 x (τ.l 0 68) v38 K) := rf_without A1.fx (by omega) R.2.1 L (eh_lay hFl ia (by omega) hl hpl A1 hs1 Ta1 (by show S.2.2.2.1 ≤ S.1 + 1 + 1; omega) ⟨fun y hy => R.2.1 y (List.mem_filter.mp hy).1, List.Pairwise.filter _ R.2.2⟩ K1)
  rw [← c1] at key
  exact key
theorem eh_5 (hFr : ∀ nv σ τ, EvF dp cn nv σ τ → Fr σ → Fr τ) (hD : 10 ≤ D) (v w : Int) (a b' : Ast) (nv : Nat) (hv : v = (nv : Int)) (h14 : nv ≤ 14) (ia : EvH Z W lst b wy ch fuel dp cn D pl cl fu Fr B a false nv) (ib : EvH Z W lst b wy ch fuel dp cn D pl cl fu Fr B b' false (nv + 1)) : EvH Z W lst b wy ch fuel dp cn D pl cl fu Fr B (aN 5 v w a b' .nil) false nv := by
  refine ⟨fun _ => ?_, fun z => by cases z⟩
  intro d acc vs on S σ r K hd hl hpl A T hb hK
  have hd24 := A.2.1.1.2
  rw [eH_2, if_neg (by decide), if_neg (by decide)] at hd
  have T0 := T
  rw [TrN_aN] at T0
  obtain ⟨x, rfl, -⟩ := T0
  obtain ⟨hs, hF, Ta, -⟩ := T.at
  have h0 : σ.i x 0 = 5 := hF.1 (by decide)
  obtain ⟨d, rfl⟩ : ∃ e, d = e + 3 := ⟨d - 3, by omega⟩
  rw [ev_5] at hK
  refine S_X23_eval_0 A.fx ⟨x, rfl, hs, fun q => absurd (h0.symm.trans q) (by decide), fun q => absurd (h0.symm.trans q) (by decide), fun q => absurd (h0.symm.trans q) (by decide), fun q => absurd (h0.symm.trans q) (by decide), fun _ => ?_, fun q => absurd (h0.symm.trans q) (by decide), fun q => absurd (h0.symm.trans q) (by decide), fun q => absurd (h0.symm.trans q) (by decide), fun q => absurd (h0.symm.trans q) (by decide), fun q => absurd (h0.symm.trans q) (by decide), fun q => absurd (h0.symm.trans q) (by decide), fun q => absurd (h0.symm.trans q) (by decide), fun q => absurd (h0.symm.trans q) (by decide), fun q => absurd (h0.symm.trans q) (by decide), fun q1 q2 q3 q4 q5 q6 q7 q8 q9 q10 q11 q12 q13 q16 => absurd h0 q5⟩
  refine EvK.st A hFr (by omega) hb hK (fun hq τ g A1 K1 => ?_)
  have T1 := TrN.ev A.fx T g hd24
  obtain ⟨hs1, hF1, Ta1, -⟩ := T1.at
  refine ⟨hs1, ia.1 rfl _ 0 vs on _ τ _ _ (by omega) hl hpl A1 Ta1 (by show S.2.2.2.1 ≤ S.1 + 1 + 1; omega) ?_⟩
  intro τ2 g2
  generalize ev W fuel pl cl fu a false 0 vs on (S.1 + 1, S.2) = r at K1 g2
  rcases r with ⟨v2 | v2 | v2, S2⟩
  · exact K1 _ g2
  · show bS ΦR (hb_Gz Z.1 (some Z.2)) hb_GT (d + 2) (mX23_eval, [(193, 203, 211, 0), (211, 213, 211, 0), (242, 250, 251, 790)]) 247 [(5, .int (τ.i 0 70)), (4, .int (τ.i 0 87)), (2, .long (τ.l 0 68)), (0, .ref 0), (1, .ref x)] K (.inr ("DispatchHouseModel$Failed", 2132)) τ2
    refine bS_c (hp := 251) (by decide +kernel) (ab_fin.lv (lv' := [(0, .ref 0), (1, .ref x), (2, .long (τ.l 0 68)), (4, .int (τ.i 0 87)), (5, .int (τ.i 0 70))]) ⟨?_, by show ([5, 4, 2, 0, 1] : List Nat).Nodup; decide⟩ ?_)
    · intro y hy
      simp only [List.mem_cons, List.not_mem_nil, or_false] at hy ⊢
      rcases hy with rfl | rfl | rfl | rfl | rfl <;> simp
    have K1 : EvK W lst b wy ch fuel dp cn nv on τ (ev W fuel pl cl fu b' false 0 (vs ++ [v2]) on S2) K := K1
    have A2 : EvA W lst b wy ch fuel dp cn Fr on vs S2 τ2 := g2.a A1 hFr (by omega)
    have T2 := TrN.ev A1.fx T1 g2.1 hd24
    obtain ⟨hs2, hF2, -, Tb2, -⟩ := T2.at
    obtain ⟨g3, A3⟩ := A2.push hFr g2.2.2.2.2.1.1
    have e2 : τ2.i x 2 = Int32.ofNat nv := (hF2.2.1 (Or.inr (Or.inl rfl))).trans (by rw [hv, oI_nn (by omega)]; rfl)
    have e68 : τ2.l 0 68 = τ.l 0 68 := g2.1.2.2.2 0 68 (by unfold evL; omega)
    have e87 : τ2.i 0 87 = τ.i 0 87 := g2.1.2.2.1 0 87 (by unfold evE; omega)
    have e70 : τ2.i 0 70 = τ.i 0 70 := g2.1.2.2.1 0 70 (by unfold evE; omega)
    have e78 : τ2.l 0 78 = v2 := g2.2.2.2.2.1.2
    have W1 : B_X23_eval_251 Z (d + 2 + 1) τ2 x (τ.l 0 68) (τ.i 0 87) (τ.i 0 70) 2132 K := by
      refine S_X23_eval_251 A2.fx ?_
      rw [← e68, wl_id, ← e87, wi_id, ← e70, wi_id, A2.2.1.1.1, e2, e78]
      refine ⟨ib_oN (by omega) (by decide), hs2, ib_oN (by omega) (by decide), ?_⟩
      rw [oN_t (by omega), oN_t (by omega), ← hl]
      refine ib.1 rfl _ 0 (vs ++ [v2]) on S2 _ _ _ (by omega) (by rw [List.length_append]; show vs.length + 1 = nv + 1; omega) (by omega) A3 (TrN.ev A2.fx Tb2 g3 hd24) (Nat.le_succ_of_le g2.2.2.2.2.2) (((K1.fr g2.1).fr (by rw [← hl]; exact g3)).more (Nat.le_succ _)).tl
    exact W1
  · show bS ΦR (hb_Gz Z.1 (some Z.2)) hb_GT (d + 2) (mX23_eval, [(193, 203, 211, 0), (211, 213, 211, 0), (242, 250, 251, 790)]) 247 [(5, .int (τ.i 0 70)), (4, .int (τ.i 0 87)), (2, .long (τ.l 0 68)), (0, .ref 0), (1, .ref x)] K (.inr ("DispatchHouseModel$Ended", 2133)) τ2
    exact bS_p (by decide +kernel) (K1 _ g2)
end EVAL3

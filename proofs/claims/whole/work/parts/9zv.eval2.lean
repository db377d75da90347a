/-! THE REFERENCE: eval(), the other cases -/
theorem mkW_b {ks : List Knd} {k : Nat} (h : k ∈ mkW ks) : k < ks.length := List.mem_range.mp (List.mem_filter.mp h).1
section EVAL2
variable {Z : zT} {W : Wld} {lst : List Nat} {b wy ch fuel dp cn D : Nat} {E : Wev} {pl : Nat} {cl : Cf} {fu : Nf} {Fr : Sg → Prop} {B : Nat → Prop}
theorem eh_13 (hFr : ∀ nv σ τ, EvF dp cn nv σ τ → Fr σ → Fr τ) (hD : 10 ≤ D) (v : Int) (a : Ast) (nv : Nat) (hv : 0 ≤ v ∧ v.toNat ∈ mkW W.1) (ia : EvH Z W lst b wy ch fuel dp cn D pl cl fu Fr B a false nv) : EvH Z W lst b wy ch fuel dp cn D pl cl fu Fr B (aN 13 v 1 a .nil .nil) false nv := by
  refine ⟨fun _ => ?_, fun z => by cases z⟩
  intro d acc vs on S σ r K hd hl hpl A T hb hK
  have hd24 := A.2.1.1.2
  rw [eH_2, if_neg (by decide), if_neg (by decide)] at hd
  have T0 := T
  rw [TrN_aN] at T0
  obtain ⟨x, rfl, -⟩ := T0
  obtain ⟨hs, hF, Ta, -⟩ := T.at
  have h0 : σ.i x 0 = 13 := hF.1 (by decide)
  obtain ⟨d, rfl⟩ : ∃ e, d = e + 3 := ⟨d - 3, by omega⟩
  rw [ev_13] at hK
  refine S_X23_eval_0 A.fx ⟨x, rfl, hs, fun q => absurd (h0.symm.trans q) (by decide), fun q => absurd (h0.symm.trans q) (by decide), fun q => absurd (h0.symm.trans q) (by decide), fun q => absurd (h0.symm.trans q) (by decide), fun q => absurd (h0.symm.trans q) (by decide), fun q => absurd (h0.symm.trans q) (by decide), fun q => absurd (h0.symm.trans q) (by decide), fun q => absurd (h0.symm.trans q) (by decide), fun q => absurd (h0.symm.trans q) (by decide), fun q => absurd (h0.symm.trans q) (by decide), fun q => absurd (h0.symm.trans q) (by decide), fun q => absurd (h0.symm.trans q) (by decide), fun _ => ?_, fun q => absurd (h0.symm.trans q) (by decide), fun q1 q2 q3 q4 q5 q6 q7 q8 q9 q10 q11 q12 q13 q16 => absurd h0 q13⟩
  refine EvK.st A hFr (by omega) hb hK (fun hq τ g A1 K1 => ?_)
  have T1 := TrN.ev A.fx T g hd24
  obtain ⟨hs1, hF1, Ta1, -⟩ := T1.at
  refine ⟨hs1, ia.1 rfl _ 0 vs on _ τ _ _ (by omega) hl hpl A1 Ta1 (by show S.2.2.2.1 ≤ S.1 + 1 + 1; omega) (EvK.bn K1 fun v2 S2 τ2 g2 K2 => ?_)⟩
  have A2 : EvA W lst b wy ch fuel dp cn Fr on vs S2 τ2 := g2.a A1 hFr (by omega)
  have T2 := TrN.ev A1.fx T1 g2.1 hd24
  refine rf_value A2.fx ?_
  rw [show τ.i x 1 = Int32.ofInt v from hF1.2.2.1 (by decide)]
  exact K2.vl (EvF.refl _ _ _ _) A2.1 A2.2.1 A2.2.2.2.2 ⟨v.toNat, _, by rw [oI_nn hv.1], hv.2⟩ g2.2.2.2.2.2
theorem eh_11 (hFr : ∀ nv σ τ, EvF dp cn nv σ τ → Fr σ → Fr τ) (hD : 10 ≤ D) (hmk : 1 ∈ mkW W.1) (v w : Int) (nv : Nat) : EvH Z W lst b wy ch fuel dp cn D pl cl fu Fr B (aN 11 v w .nil .nil .nil) false nv := by
  refine ⟨fun _ => ?_, fun z => by cases z⟩
  intro d acc vs on S σ r K hd hl hpl A T hb hK
  have hd24 := A.2.1.1.2
  rw [eH_2, if_neg (by decide), if_neg (by decide)] at hd
  have T0 := T
  rw [TrN_aN] at T0
  obtain ⟨x, rfl, -⟩ := T0
  obtain ⟨hs, hF, Ta, -⟩ := T.at
  have h0 : σ.i x 0 = 11 := hF.1 (by decide)
  obtain ⟨d, rfl⟩ : ∃ e, d = e + 3 := ⟨d - 3, by omega⟩
  rw [ev_11] at hK
  refine S_X23_eval_0 A.fx ⟨x, rfl, hs, fun q => absurd (h0.symm.trans q) (by decide), fun q => absurd (h0.symm.trans q) (by decide), fun q => absurd (h0.symm.trans q) (by decide), fun q => absurd (h0.symm.trans q) (by decide), fun q => absurd (h0.symm.trans q) (by decide), fun q => absurd (h0.symm.trans q) (by decide), fun q => absurd (h0.symm.trans q) (by decide), fun q => absurd (h0.symm.trans q) (by decide), fun q => absurd (h0.symm.trans q) (by decide), fun q => absurd (h0.symm.trans q) (by decide), fun _ => ?_, fun q => absurd (h0.symm.trans q) (by decide), fun q => absurd (h0.symm.trans q) (by decide), fun q => absurd (h0.symm.trans q) (by decide), fun q1 q2 q3 q4 q5 q6 q7 q8 q9 q10 q11 q12 q13 q16 => absurd h0 q11⟩
  refine EvK.st A hFr (by omega) hb hK (fun hq τ g A1 K1 => ?_)
  have T1 := TrN.ev A.fx T g hd24
  obtain ⟨hs1, hF1, Ta1, -⟩ := T1.at
  rw [show τ.i x 1 = Int32.ofInt v from hF1.2.2.1 (by decide)]
  refine ⟨hs1, rf_value A1.fx ?_⟩
  exact K1.vl (EvF.refl _ _ _ _) A1.1 A1.2.1 A1.2.2.2.2 ⟨1, _, rfl, hmk⟩ (by show S.2.2.2.1 ≤ S.1 + 1; omega)
theorem eh_12 (hFr : ∀ nv σ τ, EvF dp cn nv σ τ → Fr σ → Fr τ) (hD : 10 ≤ D) (v w : Int) (nv : Nat) (hv : 0 ≤ v ∧ v < (nv : Int)) : EvH Z W lst b wy ch fuel dp cn D pl cl fu Fr B (aN 12 v w .nil .nil .nil) false nv := by
  refine ⟨fun _ => ?_, fun z => by cases z⟩
  intro d acc vs on S σ r K hd hl hpl A T hb hK
  have hd24 := A.2.1.1.2
  rw [eH_2, if_neg (by decide), if_neg (by decide)] at hd
  have T0 := T
  rw [TrN_aN] at T0
  obtain ⟨x, rfl, -⟩ := T0
  obtain ⟨hs, hF, Ta, -⟩ := T.at
  have h0 : σ.i x 0 = 12 := hF.1 (by decide)
  obtain ⟨d, rfl⟩ : ∃ e, d = e + 3 := ⟨d - 3, by omega⟩
  rw [ev_12] at hK
  refine S_X23_eval_0 A.fx ⟨x, rfl, hs, fun q => absurd (h0.symm.trans q) (by decide), fun q => absurd (h0.symm.trans q) (by decide), fun q => absurd (h0.symm.trans q) (by decide), fun q => absurd (h0.symm.trans q) (by decide), fun q => absurd (h0.symm.trans q) (by decide), fun q => absurd (h0.symm.trans q) (by decide), fun q => absurd (h0.symm.trans q) (by decide), fun q => absurd (h0.symm.trans q) (by decide), fun q => absurd (h0.symm.trans q) (by decide), fun q => absurd (h0.symm.trans q) (by decide), fun q => absurd (h0.symm.trans q) (by decide), fun _ => ?_, fun q => absurd (h0.symm.trans q) (by decide), fun q => absurd (h0.symm.trans q) (by decide), fun q1 q2 q3 q4 q5 q6 q7 q8 q9 q10 q11 q12 q13 q16 => absurd h0 q12⟩
  refine EvK.st A hFr (by omega) hb hK (fun hq τ g A1 K1 => ?_)
  have T1 := TrN.ev A.fx T g hd24
  obtain ⟨hs1, hF1, Ta1, -⟩ := T1.at
  have e2 : τ.i x 2 = Int32.ofNat v.toNat := (hF1.2.1 (Or.inr (Or.inr rfl))).trans (oI_nn hv.1)
  rw [A1.2.1.1.1, e2]
  refine ⟨ib_oN (by omega) (by decide), hs1, ib_oN (by omega) (by decide), ?_⟩
  rw [oN_t (by omega), oN_t (by omega)]
  have hx : vs[v.toNat]? = some (vs.getD v.toNat 0) := by
    rw [List.getD_eq_getElem?_getD, List.getElem?_eq_getElem (by omega)]
    rfl
  obtain ⟨e3, e4⟩ := A1.2.2.1 _ _ hx
  rw [e3]
  exact K1.vl (EvF.refl _ _ _ _) A1.1 A1.2.1 A1.2.2.2.2 e4 (by show S.2.2.2.1 ≤ S.1 + 1; omega)
theorem eh_7 (hFr : ∀ nv σ τ, EvF dp cn nv σ τ → Fr σ → Fr τ) (hD : 10 ≤ D) (v w : Int) (a : Ast) (nv : Nat) (ia : EvH Z W lst b wy ch fuel dp cn D pl cl fu Fr B a false nv) : EvH Z W lst b wy ch fuel dp cn D pl cl fu Fr B (aN 7 v w a .nil .nil) false nv := by
  refine ⟨fun _ => ?_, fun z => by cases z⟩
  intro d acc vs on S σ r K hd hl hpl A T hb hK
  have hd24 := A.2.1.1.2
  rw [eH_2, if_neg (by decide), if_neg (by decide)] at hd
  have T0 := T
  rw [TrN_aN] at T0
  obtain ⟨x, rfl, -⟩ := T0
  obtain ⟨hs, hF, Ta, -⟩ := T.at
  have h0 : σ.i x 0 = 7 := hF.1 (by decide)
  obtain ⟨d, rfl⟩ : ∃ e, d = e + 3 := ⟨d - 3, by omega⟩
  rw [ev_7] at hK
  refine S_X23_eval_0 A.fx ⟨x, rfl, hs, fun q => absurd (h0.symm.trans q) (by decide), fun q => absurd (h0.symm.trans q) (by decide), fun q => absurd (h0.symm.trans q) (by decide), fun q => absurd (h0.symm.trans q) (by decide), fun q => absurd (h0.symm.trans q) (by decide), fun q => absurd (h0.symm.trans q) (by decide), fun _ => ?_, fun q => absurd (h0.symm.trans q) (by decide), fun q => absurd (h0.symm.trans q) (by decide), fun q => absurd (h0.symm.trans q) (by decide), fun q => absurd (h0.symm.trans q) (by decide), fun q => absurd (h0.symm.trans q) (by decide), fun q => absurd (h0.symm.trans q) (by decide), fun q => absurd (h0.symm.trans q) (by decide), fun q1 q2 q3 q4 q5 q6 q7 q8 q9 q10 q11 q12 q13 q16 => absurd h0 q7⟩
  refine EvK.st A hFr (by omega) hb hK (fun hq τ g A1 K1 => ?_)
  have T1 := TrN.ev A.fx T g hd24
  obtain ⟨hs1, hF1, Ta1, -⟩ := T1.at
  refine ⟨hs1, ia.1 rfl _ 0 vs on _ τ _ _ (by omega) hl hpl A1 Ta1 (by show S.2.2.2.1 ≤ S.1 + 1 + 1; omega) (EvK.bn K1 fun v2 S2 τ2 g2 K2 => ?_)⟩
  have A2 : EvA W lst b wy ch fuel dp cn Fr on vs S2 τ2 := g2.a A1 hFr (by omega)
  have T2 := TrN.ev A1.fx T1 g2.1 hd24
  have R2 := A2.2.1
  have e85 := R2.2.2.2.2.2.1.1
  have l85 := R2.2.2.2.2.2.1.2.1
  rw [e85]
  refine ⟨fun q => ?_, fun q => ?_⟩
  · rw [show (512 : Int32) = Int32.ofNat 512 from rfl, oN_eq (by omega) (by decide)] at q
    refine ⟨ib_oN (by omega) (by decide), ?_⟩
    rw [oN_t (by omega), oN_1]
    rw [if_neg q] at K2
    have g3 : EvF dp cn nv τ2 (τ2.wi 2134 S2.2.2.1.length (Int64.toInt32 v2)) := EvF.wi (by unfold evE; omega)
    have g4 : EvF dp cn nv (τ2.wi 2134 S2.2.2.1.length (Int64.toInt32 v2)) ((τ2.wi 2134 S2.2.2.1.length (Int64.toInt32 v2)).wi 0 85 (Int32.ofNat (S2.2.2.1.length + 1))) := EvF.wi (by unfold evE; omega)
    refine K2.vl (g3.tr g4) (A2.1.sm ((SmW.wi (by omega)).tr (SmW.wi0 (by decide))) A2.fx) ?_ A2.2.2.2.2 g2.2.2.2.2.1 g2.2.2.2.2.2
    obtain ⟨⟨a1, a2⟩, ⟨a3, a4⟩, ⟨a5, a6⟩, a7, a8, ⟨a9, b1, b2⟩, b3, b4, b5⟩ := R2
    refine ⟨⟨a1, a2⟩, ⟨a3, a4⟩, ⟨a5, a6⟩, a7, a8, ⟨?_, ?_, fun i y hy => ?_⟩, b3, b4, fun i y hy => ?_⟩
    · show _ = Int32.ofNat (S2.2.2.1 ++ [nmV v2]).length
      rw [List.length_append]
      rfl
    · show (S2.2.2.1 ++ [nmV v2]).length ≤ 512
      rw [List.length_append]
      show S2.2.2.1.length + 1 ≤ 512
      omega
    · have hy : (S2.2.2.1 ++ [nmV v2])[i]? = some y := hy
      rw [wi_ne (by omega)]
      by_cases z : i < S2.2.2.1.length
      · rw [List.getElem?_append_left z] at hy
        rw [wi_ne (by omega)]
        exact b2 i y hy
      · rw [List.getElem?_append_right (by omega)] at hy
        have z0 : i = S2.2.2.1.length := by
          have := (List.getElem?_eq_some_iff.mp hy).1
          have : i - S2.2.2.1.length < 1 := this
          omega
        subst z0
        rw [Nat.sub_self] at hy
        have hy : some (nmV v2) = some y := hy
        obtain rfl := Option.some.inj hy
        exact wi_eq
    · rw [wi_ne (by omega), wi_ne (by omega)]
      exact b5 i y hy
  · rw [show (512 : Int32) = Int32.ofNat 512 from rfl, oN_eq (by omega) (by decide)] at q
    rw [if_pos q] at K2
    refine rf_ends A2.fx ?_
    have g3 : EvF dp cn nv τ2 (τ2.wi 0 79 5) := EvF.wi (by unfold evE; omega)
    exact K2 _ ⟨g3, A2.1.sm (SmW.wi0 (by decide)) A2.fx, R2.keep (wi_ne (by decide)) (wi_ne (by decide)) rfl ((wi_ne (by decide)).trans R2.2.2.2.1) ((wi_ne (by decide)).trans R2.2.2.2.2.1) rfl (wi_ne (by decide)) (wi_ne (by decide)) (funext fun y => wi_ne (by omega)) (funext fun y => wi_ne (by omega)), A2.2.2.2.2, ⟨wi_eq, Or.inr rfl⟩, Nat.le_succ_of_le g2.2.2.2.2.2⟩
theorem eh_9 (hFr : ∀ nv σ τ, EvF dp cn nv σ τ → Fr σ → Fr τ) (hD : 10 ≤ D) (hmk : 1 ∈ mkW W.1) (v w : Int) (a : Ast) (nv : Nat) (hv : 0 ≤ v ∧ v < (W.1.length : Int)) (ia : EvH Z W lst b wy ch fuel dp cn D pl cl fu Fr B a false nv) : EvH Z W lst b wy ch fuel dp cn D pl cl fu Fr B (aN 9 v w a .nil .nil) false nv := by
  refine ⟨fun _ => ?_, fun z => by cases z⟩
  intro d acc vs on S σ r K hd hl hpl A T hb hK
  have hd24 := A.2.1.1.2
  rw [eH_2, if_neg (by decide), if_neg (by decide)] at hd
  have T0 := T
  rw [TrN_aN] at T0
  obtain ⟨x, rfl, -⟩ := T0
  obtain ⟨hs, hF, Ta, -⟩ := T.at
  have h0 : σ.i x 0 = 9 := hF.1 (by decide)
  obtain ⟨d, rfl⟩ : ∃ e, d = e + 3 := ⟨d - 3, by omega⟩
  rw [ev_9] at hK
  refine S_X23_eval_0 A.fx ⟨x, rfl, hs, fun q => absurd (h0.symm.trans q) (by decide), fun q => absurd (h0.symm.trans q) (by decide), fun q => absurd (h0.symm.trans q) (by decide), fun q => absurd (h0.symm.trans q) (by decide), fun q => absurd (h0.symm.trans q) (by decide), fun q => absurd (h0.symm.trans q) (by decide), fun q => absurd (h0.symm.trans q) (by decide), fun q => absurd (h0.symm.trans q) (by decide), fun _ => ?_, fun q => absurd (h0.symm.trans q) (by decide), fun q => absurd (h0.symm.trans q) (by decide), fun q => absurd (h0.symm.trans q) (by decide), fun q => absurd (h0.symm.trans q) (by decide), fun q => absurd (h0.symm.trans q) (by decide), fun q1 q2 q3 q4 q5 q6 q7 q8 q9 q10 q11 q12 q13 q16 => absurd h0 q9⟩
  refine EvK.st A hFr (by omega) hb hK (fun hq τ g A1 K1 => ?_)
  have T1 := TrN.ev A.fx T g hd24
  obtain ⟨hs1, hF1, Ta1, -⟩ := T1.at
  refine ⟨hs1, ia.1 rfl _ 0 vs on _ τ _ _ (by omega) hl hpl A1 Ta1 (by show S.2.2.2.1 ≤ S.1 + 1 + 1; omega) (EvK.bn K1 fun v2 S2 τ2 g2 K2 => ?_)⟩
  have A2 : EvA W lst b wy ch fuel dp cn Fr on vs S2 τ2 := g2.a A1 hFr (by omega)
  have T2 := TrN.ev A1.fx T1 g2.1 hd24
  obtain ⟨hs2, hF2, -⟩ := T2.at
  refine S_X23_kindIn_0 A2.fx ?_
  show ib (kdV v2) 24 ∧ _
  obtain ⟨kk, nn, rfl, hk⟩ := g2.2.2.2.2.1
  have hk2 := mkW_b hk
  have h24 := A2.1.1.2.1.1.2.1.2
  rw [show τ2.i x 1 = Int32.ofNat v.toNat from (hF2.2.2.1 (by decide)).trans (oI_nn hv.1)]
  rw [show (Int64.toInt32 (vlX (Int32.ofNat kk) nn >>> (Int32.toInt64 (32 : Int32) &&& 63))) = Int32.ofNat kk from kd_vl _ _, kd_vl]
  have K2 : EvK W lst b wy ch fuel dp cn nv on τ2 (.inl (vlX 1 (if blW W.1 kk v.toNat = true then 1 else 0)), S2) K := by
    have := K2
    rw [kd_vl, oN_t (by omega)] at this
    exact this
  refine ⟨ib_oN (by omega) (by decide), hs2, ib_oN (by omega) (by decide), ?_⟩
  rw [oN_t (by omega), oN_t (by omega), A2.1.1.2.2.2.2.1 kk v.toNat hk2 (by omega)]
  refine ⟨fun q => ?_, fun q => ?_⟩
  · by_cases z : blW W.1 kk v.toNat = true
    · rw [if_pos z] at q
      exact absurd q (by decide)
    · rw [if_neg z] at K2
      exact rf_value A2.fx (K2.vl (EvF.refl _ _ _ _) A2.1 A2.2.1 A2.2.2.2.2 ⟨1, _, rfl, hmk⟩ g2.2.2.2.2.2)
  · by_cases z : blW W.1 kk v.toNat = true
    · rw [if_pos z] at K2
      exact rf_value A2.fx (K2.vl (EvF.refl _ _ _ _) A2.1 A2.2.1 A2.2.2.2.2 ⟨1, _, rfl, hmk⟩ g2.2.2.2.2.2)
    · rw [if_neg z] at q
      exact absurd rfl q
theorem eh_8 (hFr : ∀ nv σ τ, EvF dp cn nv σ τ → Fr σ → Fr τ) (hD : 10 ≤ D) (hmk : 1 ∈ mkW W.1) (v w : Int) (a b' : Ast) (nv : Nat) (hv : v = 15 ∨ v = 16 ∨ v = 17) (ia : EvH Z W lst b wy ch fuel dp cn D pl cl fu Fr B a false nv) (ib : EvH Z W lst b wy ch fuel dp cn D pl cl fu Fr B b' false nv) : EvH Z W lst b wy ch fuel dp cn D pl cl fu Fr B (aN 8 v w a b' .nil) false nv := by
  refine ⟨fun _ => ?_, fun z => by cases z⟩
  intro d acc vs on S σ r K hd hl hpl A T hb hK
  have hd24 := A.2.1.1.2
  rw [eH_2, if_neg (by decide), if_neg (by decide)] at hd
  have T0 := T
  rw [TrN_aN] at T0
  obtain ⟨x, rfl, -⟩ := T0
  obtain ⟨hs, hF, Ta, -⟩ := T.at
  have h0 : σ.i x 0 = 8 := hF.1 (by decide)
  obtain ⟨d, rfl⟩ : ∃ e, d = e + 3 := ⟨d - 3, by omega⟩
  rw [ev_8] at hK
  refine S_X23_eval_0 A.fx ⟨x, rfl, hs, fun q => absurd (h0.symm.trans q) (by decide), fun q => absurd (h0.symm.trans q) (by decide), fun q => absurd (h0.symm.trans q) (by decide), fun q => absurd (h0.symm.trans q) (by decide), fun q => absurd (h0.symm.trans q) (by decide), fun q => absurd (h0.symm.trans q) (by decide), fun q => absurd (h0.symm.trans q) (by decide), fun _ => ?_, fun q => absurd (h0.symm.trans q) (by decide), fun q => absurd (h0.symm.trans q) (by decide), fun q => absurd (h0.symm.trans q) (by decide), fun q => absurd (h0.symm.trans q) (by decide), fun q => absurd (h0.symm.trans q) (by decide), fun q => absurd (h0.symm.trans q) (by decide), fun q1 q2 q3 q4 q5 q6 q7 q8 q9 q10 q11 q12 q13 q16 => absurd h0 q8⟩
  refine EvK.st A hFr (by omega) hb hK (fun hq τ g A1 K1 => ?_)
  have T1 := TrN.ev A.fx T g hd24
  obtain ⟨hs1, hF1, Ta1, -⟩ := T1.at
  refine ⟨hs1, ia.1 rfl _ 0 vs on _ τ _ _ (by omega) hl hpl A1 Ta1 (by show S.2.2.2.1 ≤ S.1 + 1 + 1; omega) (EvK.bn K1 fun v2 S2 τ2 g2 K2 => ?_)⟩
  have A2 : EvA W lst b wy ch fuel dp cn Fr on vs S2 τ2 := g2.a A1 hFr (by omega)
  have T2 := TrN.ev A1.fx T1 g2.1 hd24
  obtain ⟨hs2, hF2, -, Tb2, -⟩ := T2.at
  refine ⟨hs2, ib.1 rfl _ 0 vs on S2 τ2 _ _ (by omega) hl hpl A2 Tb2 (Nat.le_succ_of_le g2.2.2.2.2.2) (EvK.bn K2 fun v3 S3 τ3 g3 K3 => ?_)⟩
  have A3 : EvA W lst b wy ch fuel dp cn Fr on vs S3 τ3 := g3.a A2 hFr (by omega)
  have T3 := TrN.ev A2.fx T2 g3.1 hd24
  obtain ⟨hs3, hF3, -⟩ := T3.at
  refine ⟨hs3, ?_⟩
  rw [show τ3.i x 3 = chV v.toNat from hF3.2.2.2.1 rfl]
  have fin : ∀ y : Int32, y = (if cmV v (nmV v2) (nmV v3) = true then 1 else 0) → B_X23_value_0 Z (d + 2) τ3 1 y (yL K fun v τ => K (.inl (some (.long v))) τ) := fun y hy => by
    rw [hy]
    exact rf_value A3.fx (K3.vl (EvF.refl _ _ _ _) A3.1 A3.2.1 A3.2.2.2.2 ⟨1, _, rfl, hmk⟩ g3.2.2.2.2.2)
  have n1 : Int64.toInt32 v2 = nmV v2 := rfl
  have n2 : Int64.toInt32 v3 = nmV v3 := rfl
  rw [n1, n2]
  rcases hv with rfl | rfl | rfl
  · have e : cmV 15 (nmV v2) (nmV v3) = decide (nmV v2 < nmV v3) := rfl
    rw [e] at fin
    refine ⟨fun _ => ⟨fun _ => ⟨fun q => fin _ ?_, fun q => fin _ ?_⟩, fun q => absurd q (by decide)⟩, fun q => absurd q (by decide)⟩
    · rw [if_neg (fun z => absurd (of_decide_eq_true z) (Int32.not_lt.mpr q))]
    · rw [if_pos (decide_eq_true (Int32.not_le.mp q))]
  · have e : cmV 16 (nmV v2) (nmV v3) = decide (nmV v2 = nmV v3) := rfl
    rw [e] at fin
    refine ⟨fun q => absurd (show chV (16 : Int).toNat = 317 by decide) q, fun _ => ⟨fun q => fin _ ?_, fun q => fin _ ?_⟩⟩
    · rw [if_neg (fun z => absurd (of_decide_eq_true z) q)]
    · rw [if_pos (decide_eq_true q)]
  · have e : cmV 17 (nmV v2) (nmV v3) = decide (nmV v2 ≤ nmV v3) := rfl
    rw [e] at fin
    refine ⟨fun _ => ⟨fun q => absurd (show chV (17 : Int).toNat = 316 by decide) q, fun _ => ⟨fun q => fin _ ?_, fun q => fin _ ?_⟩⟩, fun q => absurd q (by decide)⟩
    · rw [if_neg (fun z => absurd (of_decide_eq_true z) (Int32.not_le.mpr q))]
    · rw [if_pos (decide_eq_true (Int32.not_lt.mp q))]
end EVAL2

/-! THE REFERENCE: eval(): chains, calls; eval() whole -/
section EVAL4
variable {Z : zT} {W : Wld} {lst : List Nat} {b wy ch fuel dp cn D : Nat} {E : Wev} {pl : Nat} {cl : Cf} {fu : Nf} {Fr : Sg → Prop} {B : Nat → Prop}
/-- called() follows cl -/
def ClH (Z : zT) (W : Wld) (lst : List Nat) (b wy ch fuel dp cn D : Nat) (cl : Cf) (Fr : Sg → Prop) : Prop := ∀ (d nv c : Nat) (args : List Int64) (l1 l2 l3 : Int64) (on : List Nat) (vs : List Int64) (S : Es) (σ : Sg) (K : kS), D ≤ d → vs.length ≤ nv → c < W.2.1.length → args.length = plW W.2.1 c → (∀ x ∈ args, VlG W x) → ArG args l1 l2 l3 → EvA W lst b wy ch fuel dp cn Fr on vs S σ → S.2.2.2.1 ≤ S.1 → EvK W lst b wy ch fuel dp cn nv on σ (cl c args on S) K → B_X23_called_0 Z d σ (Int32.ofNat c) l1 l2 l3 K
/-- further() follows fu -/
def FuH (Z : zT) (W : Wld) (lst : List Nat) (b wy ch fuel dp cn D pl : Nat) (fu : Nf) (Fr : Sg → Prop) : Prop := ∀ (d nv : Nat) (args : List Int64) (l1 l2 l3 : Int64) (on : List Nat) (vs : List Int64) (S : Es) (σ : Sg) (K : kS), D ≤ d → vs.length ≤ nv → args.length = pl → (∀ x ∈ args, VlG W x) → ArG args l1 l2 l3 → EvA W lst b wy ch fuel dp cn Fr on vs S σ → S.2.2.2.1 ≤ S.1 → EvK W lst b wy ch fuel dp cn nv on σ (fu args on S) K → B_X23_further_0 Z d σ l1 l2 l3 K
theorem lk_pos {b' : Ast} {nv : Nat} (h : exW E b' true nv) : 1 ≤ lkN b' ∧ b' ≠ .nil := by
  refine ex_ind (P := fun x lk nv => lk = true → 1 ≤ lkN x ∧ x ≠ .nil) ?_ ?_ ?_ ?_ ?_ ?_ ?_ ?_ ?_ ?_ ?_ ?_ ?_ ?_ b' true nv h rfl
  all_goals intros
  all_goals first | contradiction | (refine ⟨?_, ?_⟩; (show 1 ≤ lkN _ + 1; omega); (intro z; cases z))
/-- the steps of a chain, then its first -/
theorem eh_ch (hFr : ∀ nv σ τ, EvF dp cn nv σ τ → Fr σ → Fr τ) (hD : 10 ≤ D) {v w : Int} {a b' : Ast} {nv x : Nat} {d : Nat} {vs : List Int64} {on : List Nat} {K : kS} (ia : EvH Z W lst b wy ch fuel dp cn D pl cl fu Fr B a false nv) (ib : EvH Z W lst b wy ch fuel dp cn D pl cl fu Fr B b' true nv) (h1 : 1 ≤ w ∧ w ≤ 100000) (hda : eH a + D ≤ d) (hdb : eH b' + D ≤ d) (hl : vs.length = nv) (hpl : pl ≤ nv ∧ nv ≤ 15) : ∀ (n i : Nat) (S : Es) (σ : Sg), (i : Int) + n = w → EvA W lst b wy ch fuel dp cn Fr on vs S σ → TrN σ B (aN 10 v w a b' .nil) (Rf.ptr x) → S.2.2.2.1 ≤ S.1 + 1 → (1 ≤ i → S.2.2.2.1 ≤ S.1) → EvK W lst b wy ch fuel dp cn nv on σ (stN fuel n S fun S => bnR (ev W fuel pl cl fu a false 0 vs on S) fun x S => ev W fuel pl cl fu b' true (nmV x) vs on S) K → B_X23_chained_2 Z (d + 1) σ (Rf.ptr x) (Int32.ofNat i) K
  | 0, i, S, σ, hi, A, T, hb, hb1, hK => by
    have hd24 := A.2.1.1.2
    obtain ⟨hs, hF, Ta, -⟩ := T.at
    refine S_X23_chained_2 A.fx ⟨x, rfl, hs, fun _ => ?_, fun q => absurd ?_ q⟩
    · refine ia.1 rfl _ 0 vs on _ σ _ _ hda hl hpl A Ta hb (EvK.bn hK fun v2 S2 τ2 g2 K2 => ?_)
      have A2 : EvA W lst b wy ch fuel dp cn Fr on vs S2 τ2 := g2.a A hFr (by omega)
      have T2 := TrN.ev A.fx T g2.1 hd24
      obtain ⟨hs2, hF2, -, Tb2, -⟩ := T2.at
      exact ⟨hs2, ib.2 rfl _ _ vs on S2 τ2 _ _ (by omega) hl hpl A2 Tb2 g2.2.2.2.2.2 K2⟩
    · rw [hF.2.2.2.2.1 (Or.inl rfl), oI_nn (by omega), oN_le (by omega) (by omega)]
      omega
  | n + 1, i, S, σ, hi, A, T, hb, hb1, hK => by
    have hd24 := A.2.1.1.2
    obtain ⟨hs, hF, Ta, -⟩ := T.at
    obtain ⟨d, rfl⟩ : ∃ e, d = e + 2 := ⟨d - 2, by omega⟩
    refine S_X23_chained_2 A.fx ⟨x, rfl, hs, fun q => absurd q ?_, fun _ => ?_⟩
    · rw [hF.2.2.2.2.1 (Or.inl rfl), oI_nn (by omega), oN_le (by omega) (by omega)]
      omega
    · refine EvK.st A hFr (by omega) hb hK (fun hq τ g A1 K1 => ?_)
      rw [show Int32.ofNat i + 1 = Int32.ofNat (i + 1) from oN_1 _]
      refine eh_ch hFr hD ia ib h1 hda hdb hl hpl n (i + 1) _ τ (by omega) A1 (TrN.ev A.fx T g hd24) (by show S.2.2.2.1 ≤ S.1 + 1 + 1; omega) (fun _ => hb) K1
theorem eh_10 (hFr : ∀ nv σ τ, EvF dp cn nv σ τ → Fr σ → Fr τ) (hD : 10 ≤ D) (v w : Int) (a b' : Ast) (nv : Nat) (hw : w = (lkN b' : Int)) (h1 : 1 ≤ w ∧ w ≤ 100000) (ia : EvH Z W lst b wy ch fuel dp cn D pl cl fu Fr B a false nv) (ib : EvH Z W lst b wy ch fuel dp cn D pl cl fu Fr B b' true nv) : EvH Z W lst b wy ch fuel dp cn D pl cl fu Fr B (aN 10 v w a b' .nil) false nv := by
  refine ⟨fun _ => ?_, fun z => by cases z⟩
  intro d acc vs on S σ r K hd hl hpl A T hb hK
  rw [eH_2, if_pos rfl] at hd
  have T0 := T
  rw [TrN_aN] at T0
  obtain ⟨x, rfl, -⟩ := T0
  obtain ⟨hs, hF, Ta, -⟩ := T.at
  have h0 : σ.i x 0 = 10 := hF.1 (by decide)
  obtain ⟨d, rfl⟩ : ∃ e, d = e + 2 := ⟨d - 2, by omega⟩
  rw [ev_10] at hK
  refine S_X23_eval_0 A.fx ⟨x, rfl, hs, fun q => absurd (h0.symm.trans q) (by decide), fun q => absurd (h0.symm.trans q) (by decide), fun q => absurd (h0.symm.trans q) (by decide), fun q => absurd (h0.symm.trans q) (by decide), fun q => absurd (h0.symm.trans q) (by decide), fun q => absurd (h0.symm.trans q) (by decide), fun q => absurd (h0.symm.trans q) (by decide), fun q => absurd (h0.symm.trans q) (by decide), fun q => absurd (h0.symm.trans q) (by decide), fun _ => ?_, fun q => absurd (h0.symm.trans q) (by decide), fun q => absurd (h0.symm.trans q) (by decide), fun q => absurd (h0.symm.trans q) (by decide), fun q => absurd (h0.symm.trans q) (by decide), fun q1 q2 q3 q4 q5 q6 q7 q8 q9 q10 q11 q12 q13 q16 => absurd h0 q10⟩
  exact S_X23_chained_0 A.fx (eh_ch hFr hD ia ib h1 (by omega) (by omega) hl hpl w.toNat 0 S σ (by omega) A T hb (fun z => absurd z (by decide)) hK.tl)
/-- a link -/
theorem eh_lk (hFr : ∀ nv σ τ, EvF dp cn nv σ τ → Fr σ → Fr τ) (hD : 10 ≤ D) (hmk : 1 ∈ mkW W.1 ∧ 2 ∈ mkW W.1) (op : Nat) (v w : Int) (a b' : Ast) (nv : Nat) (hop : 39 ≤ op ∧ op ≤ 42) (ia : EvH Z W lst b wy ch fuel dp cn D pl cl fu Fr B a false nv) (ib : b' = .nil ∨ (b' ≠ .nil ∧ EvH Z W lst b wy ch fuel dp cn D pl cl fu Fr B b' true nv)) : EvH Z W lst b wy ch fuel dp cn D pl cl fu Fr B (aN op v w a b' .nil) true nv := by
  refine ⟨fun z => (by cases z), fun _ => ?_⟩
  intro d acc vs on S σ r K hd hl hpl A T hb hK
  have hd24 := A.2.1.1.2
  rw [eH_2, if_neg (by omega), if_pos hop.1] at hd
  have T0 := T
  rw [TrN_aN] at T0
  obtain ⟨x, rfl, -⟩ := T0
  obtain ⟨hs, hF, Ta, -⟩ := T.at
  obtain ⟨d, rfl⟩ : ∃ e, d = e + 3 := ⟨d - 3, by omega⟩
  obtain ⟨G, hG, hG2⟩ : ∃ G : Int64 → Es → Rs × Es, EvK W lst b wy ch fuel dp cn nv on σ (bnR (ev W fuel pl cl fu a false 0 vs on S) fun x S => if op = 42 ∧ nmV x = 0 then faR 3 S else G x S) K ∧ ∀ v2 S2 τ2, EvA W lst b wy ch fuel dp cn Fr on vs S2 τ2 → TrN τ2 B b' (τ2.r x 8) → S2.2.2.2.1 ≤ S2.1 → EvK W lst b wy ch fuel dp cn nv on τ2 (G v2 S2) K → B_X23_chained_40 Z (d + 2 + 1) τ2 (opV op acc (nmV v2)) (τ2.r x 8) K := by
    rcases ib with rfl | ⟨hn, ib⟩
    · rw [ev_l0] at hK
      refine ⟨fun x S => (.inl (vlX 1 (opV op acc (nmV x))), S), hK, fun v2 S2 τ2 A2 Tb2 hb2 K2 => ?_⟩
      have e : τ2.r x 8 = Rf.nul := Tb2
      rw [e]
      exact S_X23_chained_40 A2.fx ⟨fun _ => rf_value A2.fx (K2.vl (EvF.refl _ _ _ _) A2.1 A2.2.1 A2.2.2.2.2 ⟨1, _, rfl, hmk.1⟩ hb2), fun q => absurd rfl q⟩
    · rw [ev_l1 _ _ _ _ _ _ _ _ _ _ _ _ _ _ _ hn] at hK
      exact ⟨_, hK, fun v2 S2 τ2 A2 Tb2 hb2 K2 => ib.2 rfl _ _ vs on S2 τ2 _ _ (by omega) hl hpl A2 Tb2 hb2 K2⟩
  refine S_X23_chained_40 A.fx ⟨fun z => (by cases z), fun _ => ⟨x, rfl, hs, ia.1 rfl _ 0 vs on S σ _ _ (by omega) hl hpl A Ta (by omega) (EvK.bn hG fun v2 S2 τ2 g2 K2 => ?_)⟩⟩
  have A2 : EvA W lst b wy ch fuel dp cn Fr on vs S2 τ2 := g2.a A hFr (by omega)
  have T2 := TrN.ev A.fx T g2.1 hd24
  obtain ⟨hs2, hF2, -, Tb2, -⟩ := T2.at
  rw [if_pos (Or.inr hop.1)] at Tb2
  have K3 := hG2 v2 S2 τ2 A2 Tb2 g2.2.2.2.2.2
  refine ⟨hs2, ?_⟩
  rw [hF2.2.2.2.2.2 hop.1]
  have n1 : Int64.toInt32 v2 = nmV v2 := rfl
  rw [n1]
  have h4 : op = 39 ∨ op = 40 ∨ op = 41 ∨ op = 42 := by omega
  rcases h4 with rfl | rfl | rfl | rfl
  · refine ⟨fun q => absurd q (by decide), fun _ => ?_, fun q => absurd q (by decide), fun _ q => absurd (show chV (39 - 30) = 43 by decide) q⟩
    rw [if_neg (by omega)] at K2
    exact K3 K2
  · refine ⟨fun q => absurd q (by decide), fun q => absurd q (by decide), fun _ => ?_, fun _ _ q => absurd (show chV (40 - 30) = 45 by decide) q⟩
    rw [if_neg (by omega)] at K2
    exact K3 K2
  · refine ⟨fun _ => ?_, fun q => absurd q (by decide), fun q => absurd q (by decide), fun q => absurd (show chV (41 - 30) = 42 by decide) q⟩
    rw [if_neg (by omega)] at K2
    exact K3 K2
  · refine ⟨fun q => absurd q (by decide), fun q => absurd q (by decide), fun q => absurd q (by decide), fun _ _ _ => ⟨fun q => ⟨q, ?_⟩, fun q => ?_⟩⟩
    · rw [if_neg (fun z => q z.2)] at K2
      exact K3 K2
    · rw [if_pos ⟨rfl, q⟩] at K2
      exact EvK.flt A2 g2.2.2.2.2.2 hmk.2 K2
/-- one to three arguments, then what is called -/
theorem eh_ar (hFr : ∀ nv σ τ, EvF dp cn nv σ τ → Fr σ → Fr τ) {op : Nat} (hop : op = 14 ∨ op = 15) {v w : Int} {a b' c : Ast} {nv x : Nat} {d : Nat} {vs : List Int64} {on : List Nat} {S : Es} {τ : Sg} {K : kS} (k : List Int64 → Es → Rs × Es) (hw : 1 ≤ w ∧ w ≤ 3) (ia : EvH Z W lst b wy ch fuel dp cn D pl cl fu Fr B a false nv) (ib : 2 ≤ w → EvH Z W lst b wy ch fuel dp cn D pl cl fu Fr B b' false nv) (ic : 3 ≤ w → EvH Z W lst b wy ch fuel dp cn D pl cl fu Fr B c false nv) (hd : eH a + D ≤ d ∧ eH b' + D ≤ d ∧ eH c + D ≤ d) (hl : vs.length = nv) (hpl : pl ≤ nv ∧ nv ≤ 15) (A : EvA W lst b wy ch fuel dp cn Fr on vs S τ) (T : TrN τ B (aN op v w a b' c) (Rf.ptr x)) (hb : S.2.2.2.1 ≤ S.1 + 1)
    (hk : ∀ args l1 l2 l3 S2 τ2, (args.length : Int) = w → (∀ y ∈ args, VlG W y) → ArG args l1 l2 l3 → EvA W lst b wy ch fuel dp cn Fr on vs S2 τ2 → TrN τ2 B (aN op v w a b' c) (Rf.ptr x) → S2.2.2.2.1 ≤ S2.1 → EvK W lst b wy ch fuel dp cn nv on τ2 (k args S2) K → B_X23_eval_626 Z (d + 1) τ2 x l1 l2 l3 K)
    (hK : EvK W lst b wy ch fuel dp cn nv on τ (bnR (ev W fuel pl cl fu a false 0 vs on S) fun x S => if w = 1 then k [x] S else bnR (ev W fuel pl cl fu b' false 0 vs on S) fun y S => if w = 2 then k [x, y] S else bnR (ev W fuel pl cl fu c false 0 vs on S) fun z S => k [x, y, z] S) K) : B_X23_eval_0 Z d τ (τ.r x 5) (yL K fun v2 τ2 => B_X23_eval_583 Z (d + 1) τ2 x v2 K) := by
  have hd24 := A.2.1.1.2
  obtain ⟨hs, hF, Ta, -⟩ := T.at
  refine ia.1 rfl _ 0 vs on _ τ _ _ hd.1 hl hpl A Ta hb (EvK.bn hK fun v2 S2 τ2 g2 K2 => ?_)
  have A2 : EvA W lst b wy ch fuel dp cn Fr on vs S2 τ2 := g2.a A hFr (by omega)
  have T2 := TrN.ev A.fx T g2.1 hd24
  obtain ⟨hs2, hF2, -, Tb2, -⟩ := T2.at
  rw [if_neg (by omega)] at Tb2
  have e2 : τ2.i x 4 = Int32.ofNat w.toNat := (hF2.2.2.2.2.1 (by omega)).trans (oI_nn (by omega))
  have G2 : VlG W v2 := g2.2.2.2.2.1
  refine S_X23_eval_583 A2.fx ⟨hs2, fun q => ?_, fun q => ?_⟩
  · rw [e2, show (1 : Int32) = Int32.ofNat 1 from rfl, oN_le (by omega) (by decide)] at q
    rw [if_pos (by omega)] at K2
    refine S_X23_eval_604 A2.fx ⟨hs2, fun _ => ?_, fun q2 => absurd ?_ q2⟩
    · refine hk [v2] v2 0 0 S2 τ2 (by show (1 : Int) = w; omega) (fun y hy => ?_) rfl A2 T2 g2.2.2.2.2.2 K2
      obtain rfl := List.mem_singleton.mp hy
      exact G2
    · rw [e2, show (2 : Int32) = Int32.ofNat 2 from rfl, oN_le (by omega) (by decide)]
      omega
  · rw [e2, show (1 : Int32) = Int32.ofNat 1 from rfl, oN_le (by omega) (by decide)] at q
    rw [if_neg (by omega)] at K2
    refine (ib (by omega)).1 rfl _ 0 vs on _ τ2 _ _ hd.2.1 hl hpl A2 Tb2 (Nat.le_succ_of_le g2.2.2.2.2.2) (EvK.bn K2 fun v3 S3 τ3 g3 K3 => ?_)
    have A3 : EvA W lst b wy ch fuel dp cn Fr on vs S3 τ3 := g3.a A2 hFr (by omega)
    have T3 := TrN.ev A2.fx T2 g3.1 hd24
    obtain ⟨hs3, hF3, -, -, Tc3⟩ := T3.at
    have e3 : τ3.i x 4 = Int32.ofNat w.toNat := (hF3.2.2.2.2.1 (by omega)).trans (oI_nn (by omega))
    have G3 : VlG W v3 := g3.2.2.2.2.1
    refine S_X23_eval_604 A3.fx ⟨hs3, fun q2 => ?_, fun q2 => ?_⟩
    · rw [e3, show (2 : Int32) = Int32.ofNat 2 from rfl, oN_le (by omega) (by decide)] at q2
      rw [if_pos (by omega)] at K3
      refine hk [v2, v3] v2 v3 0 S3 τ3 (by show (2 : Int) = w; omega) (fun y hy => ?_) rfl A3 T3 g3.2.2.2.2.2 K3
      rcases List.mem_cons.mp hy with rfl | hy
      · exact G2
      · obtain rfl := List.mem_singleton.mp hy
        exact G3
    · rw [e3, show (2 : Int32) = Int32.ofNat 2 from rfl, oN_le (by omega) (by decide)] at q2
      rw [if_neg (by omega)] at K3
      refine (ic (by omega)).1 rfl _ 0 vs on _ τ3 _ _ hd.2.2 hl hpl A3 Tc3 (Nat.le_succ_of_le g3.2.2.2.2.2) (EvK.bn K3 fun v4 S4 τ4 g4 K4 => ?_)
      have A4 : EvA W lst b wy ch fuel dp cn Fr on vs S4 τ4 := g4.a A3 hFr (by omega)
      have T4 := TrN.ev A3.fx T3 g4.1 hd24
      have G4 : VlG W v4 := g4.2.2.2.2.1
      refine hk [v2, v3, v4] v2 v3 v4 S4 τ4 (by show (3 : Int) = w; omega) (fun y hy => ?_) rfl A4 T4 g4.2.2.2.2.2 K4
      rcases List.mem_cons.mp hy with rfl | hy
      · exact G2
      · rcases List.mem_cons.mp hy with rfl | hy
        · exact G3
        · obtain rfl := List.mem_singleton.mp hy
          exact G4
theorem eh_14 (hFr : ∀ nv σ τ, EvF dp cn nv σ τ → Fr σ → Fr τ) (hD : 10 ≤ D) (hcl : ClH Z W lst b wy ch fuel dp cn D cl Fr) (v w : Int) (a b' c : Ast) (nv : Nat) (hv : 0 ≤ v ∧ v < (W.2.1.length : Int)) (hw : w = (plW W.2.1 v.toNat : Int)) (hp : 1 ≤ w ∧ w ≤ 3) (ia : EvH Z W lst b wy ch fuel dp cn D pl cl fu Fr B a false nv) (ib : 2 ≤ w → EvH Z W lst b wy ch fuel dp cn D pl cl fu Fr B b' false nv) (ic : 3 ≤ w → EvH Z W lst b wy ch fuel dp cn D pl cl fu Fr B c false nv) : EvH Z W lst b wy ch fuel dp cn D pl cl fu Fr B (aN 14 v w a b' c) false nv := by
  refine ⟨fun _ => ?_, fun z => by cases z⟩
  intro d acc vs on S σ r K hd hl hpl A T hb hK
  have hd24 := A.2.1.1.2
  rw [eH_2, if_neg (by decide), if_neg (by decide)] at hd
  have T0 := T
  rw [TrN_aN] at T0
  obtain ⟨x, rfl, -⟩ := T0
  obtain ⟨hs, hF, Ta, -⟩ := T.at
  have h0 : σ.i x 0 = 14 := hF.1 (by decide)
  obtain ⟨d, rfl⟩ : ∃ e, d = e + 3 := ⟨d - 3, by omega⟩
  rw [ev_14] at hK
  refine S_X23_eval_0 A.fx ⟨x, rfl, hs, fun q => absurd (h0.symm.trans q) (by decide), fun q => absurd (h0.symm.trans q) (by decide), fun q => absurd (h0.symm.trans q) (by decide), fun q => absurd (h0.symm.trans q) (by decide), fun q => absurd (h0.symm.trans q) (by decide), fun q => absurd (h0.symm.trans q) (by decide), fun q => absurd (h0.symm.trans q) (by decide), fun q => absurd (h0.symm.trans q) (by decide), fun q => absurd (h0.symm.trans q) (by decide), fun q => absurd (h0.symm.trans q) (by decide), fun q => absurd (h0.symm.trans q) (by decide), fun q => absurd (h0.symm.trans q) (by decide), fun q => absurd (h0.symm.trans q) (by decide), fun q => absurd (h0.symm.trans q) (by decide), fun _ _ _ _ _ _ _ _ _ _ _ _ _ _ => ?_⟩
  refine EvK.st A hFr (by omega) hb hK (fun hq τ g A1 K1 => ?_)
  have T1 := TrN.ev A.fx T g hd24
  obtain ⟨hs1, hF1, Ta1, -⟩ := T1.at
  have K1 : EvK W lst b wy ch fuel dp cn nv on τ (if w = 0 then fu (vs.take pl) on (S.1 + 1, S.2) else bnR (ev W fuel pl cl fu a false 0 vs on (S.1 + 1, S.2)) fun x S => if w = 1 then cl v.toNat [x] on S else bnR (ev W fuel pl cl fu b' false 0 vs on S) fun y S => if w = 2 then cl v.toNat [x, y] on S else bnR (ev W fuel pl cl fu c false 0 vs on S) fun z S => cl v.toNat [x, y, z] on S) K := K1
  rw [if_neg (by omega)] at K1
  have e1 : τ.i x 4 = Int32.ofNat w.toNat := (hF1.2.2.2.2.1 (by omega)).trans (oI_nn (by omega))
  refine ⟨hs1, fun q => absurd q ?_, fun _ => eh_ar hFr (Or.inl rfl) (fun args S => cl v.toNat args on S) hp ia ib ic ⟨by omega, by omega, by omega⟩ hl hpl A1 T1 (by show S.2.2.2.1 ≤ S.1 + 1 + 1; omega) (fun args l1 l2 l3 S2 τ2 h1 h2 h3 A2 T2 hb2 K2 => ?_) K1⟩
  · rw [e1, show (0 : Int32) = Int32.ofNat 0 from rfl, oN_le (by omega) (by decide)]
    omega
  · obtain ⟨hs2, hF2, -⟩ := T2.at
    refine S_X23_eval_626 A2.fx ⟨hs2, fun q => absurd (hF2.1 (by decide)) q, fun _ => ?_⟩
    rw [show τ2.i x 1 = Int32.ofNat v.toNat from (hF2.2.2.1 (by decide)).trans (oI_nn hv.1)]
    exact hcl _ nv v.toNat args l1 l2 l3 on vs S2 τ2 _ (by omega) (by omega) (by omega) (by omega) h2 h3 A2 hb2 K2.tl
theorem eh_15 (hFr : ∀ nv σ τ, EvF dp cn nv σ τ → Fr σ → Fr τ) (hD : 10 ≤ D) (hfu : FuH Z W lst b wy ch fuel dp cn D pl fu Fr) (v w : Int) (a b' c : Ast) (nv : Nat) (hw : w = (pl : Int)) (hp : 1 ≤ w ∧ w ≤ 3) (ia : EvH Z W lst b wy ch fuel dp cn D pl cl fu Fr B a false nv) (ib : 2 ≤ w → EvH Z W lst b wy ch fuel dp cn D pl cl fu Fr B b' false nv) (ic : 3 ≤ w → EvH Z W lst b wy ch fuel dp cn D pl cl fu Fr B c false nv) : EvH Z W lst b wy ch fuel dp cn D pl cl fu Fr B (aN 15 v w a b' c) false nv := by
  refine ⟨fun _ => ?_, fun z => by cases z⟩
  intro d acc vs on S σ r K hd hl hpl A T hb hK
  have hd24 := A.2.1.1.2
  rw [eH_2, if_neg (by decide), if_neg (by decide)] at hd
  have T0 := T
  rw [TrN_aN] at T0
  obtain ⟨x, rfl, -⟩ := T0
  obtain ⟨hs, hF, Ta, -⟩ := T.at
  have h0 : σ.i x 0 = 15 := hF.1 (by decide)
  obtain ⟨d, rfl⟩ : ∃ e, d = e + 3 := ⟨d - 3, by omega⟩
  rw [ev_15] at hK
  refine S_X23_eval_0 A.fx ⟨x, rfl, hs, fun q => absurd (h0.symm.trans q) (by decide), fun q => absurd (h0.symm.trans q) (by decide), fun q => absurd (h0.symm.trans q) (by decide), fun q => absurd (h0.symm.trans q) (by decide), fun q => absurd (h0.symm.trans q) (by decide), fun q => absurd (h0.symm.trans q) (by decide), fun q => absurd (h0.symm.trans q) (by decide), fun q => absurd (h0.symm.trans q) (by decide), fun q => absurd (h0.symm.trans q) (by decide), fun q => absurd (h0.symm.trans q) (by decide), fun q => absurd (h0.symm.trans q) (by decide), fun q => absurd (h0.symm.trans q) (by decide), fun q => absurd (h0.symm.trans q) (by decide), fun q => absurd (h0.symm.trans q) (by decide), fun _ _ _ _ _ _ _ _ _ _ _ _ _ _ => ?_⟩
  refine EvK.st A hFr (by omega) hb hK (fun hq τ g A1 K1 => ?_)
  have T1 := TrN.ev A.fx T g hd24
  obtain ⟨hs1, hF1, Ta1, -⟩ := T1.at
  have K1 : EvK W lst b wy ch fuel dp cn nv on τ (if w = 0 then fu (vs.take pl) on (S.1 + 1, S.2) else bnR (ev W fuel pl cl fu a false 0 vs on (S.1 + 1, S.2)) fun x S => if w = 1 then fu [x] on S else bnR (ev W fuel pl cl fu b' false 0 vs on S) fun y S => if w = 2 then fu [x, y] on S else bnR (ev W fuel pl cl fu c false 0 vs on S) fun z S => fu [x, y, z] on S) K := K1
  rw [if_neg (by omega)] at K1
  have e1 : τ.i x 4 = Int32.ofNat w.toNat := (hF1.2.2.2.2.1 (by omega)).trans (oI_nn (by omega))
  refine ⟨hs1, fun q => absurd q ?_, fun _ => eh_ar hFr (Or.inr rfl) (fun args S => fu args on S) hp ia ib ic ⟨by omega, by omega, by omega⟩ hl hpl A1 T1 (by show S.2.2.2.1 ≤ S.1 + 1 + 1; omega) (fun args l1 l2 l3 S2 τ2 h1 h2 h3 A2 T2 hb2 K2 => ?_) K1⟩
  · rw [e1, show (0 : Int32) = Int32.ofNat 0 from rfl, oN_le (by omega) (by decide)]
    omega
  · obtain ⟨hs2, hF2, -⟩ := T2.at
    refine S_X23_eval_626 A2.fx ⟨hs2, fun _ => ⟨fun q => absurd q ?_, fun _ => ?_⟩, fun q => absurd ((hF2.1 (by decide) : τ2.i x 0 = Int32.ofNat 15).symm.trans q) (by decide)⟩
    · rw [show τ2.i x 4 = Int32.ofNat w.toNat from (hF2.2.2.2.2.1 (by omega)).trans (oI_nn (by omega)), show (0 : Int32) = Int32.ofNat 0 from rfl, oN_le (by omega) (by decide)]
      omega
    · exact hfu _ nv args l1 l2 l3 on vs S2 τ2 _ (by omega) (by omega) (by omega) h2 h3 A2 hb2 K2.tl
theorem eh_nx (hFr : ∀ nv σ τ, EvF dp cn nv σ τ → Fr σ → Fr τ) (hD : 10 ≤ D) (hfu : FuH Z W lst b wy ch fuel dp cn D pl fu Fr) (h3 : 1 ≤ pl ∧ pl ≤ 3) (v : Int) (nv : Nat) : EvH Z W lst b wy ch fuel dp cn D pl cl fu Fr B (aN 15 v 0 .nil .nil .nil) false nv := by
  refine ⟨fun _ => ?_, fun z => by cases z⟩
  intro d acc vs on S σ r K hd hl hpl A T hb hK
  have hd24 := A.2.1.1.2
  rw [eH_2, if_neg (by decide), if_neg (by decide)] at hd
  have T0 := T
  rw [TrN_aN] at T0
  obtain ⟨x, rfl, -⟩ := T0
  obtain ⟨hs, hF, Ta, -⟩ := T.at
  have h0 : σ.i x 0 = 15 := hF.1 (by decide)
  obtain ⟨d, rfl⟩ : ∃ e, d = e + 3 := ⟨d - 3, by omega⟩
  rw [ev_15] at hK
  refine S_X23_eval_0 A.fx ⟨x, rfl, hs, fun q => absurd (h0.symm.trans q) (by decide), fun q => absurd (h0.symm.trans q) (by decide), fun q => absurd (h0.symm.trans q) (by decide), fun q => absurd (h0.symm.trans q) (by decide), fun q => absurd (h0.symm.trans q) (by decide), fun q => absurd (h0.symm.trans q) (by decide), fun q => absurd (h0.symm.trans q) (by decide), fun q => absurd (h0.symm.trans q) (by decide), fun q => absurd (h0.symm.trans q) (by decide), fun q => absurd (h0.symm.trans q) (by decide), fun q => absurd (h0.symm.trans q) (by decide), fun q => absurd (h0.symm.trans q) (by decide), fun q => absurd (h0.symm.trans q) (by decide), fun q => absurd (h0.symm.trans q) (by decide), fun _ _ _ _ _ _ _ _ _ _ _ _ _ _ => ?_⟩
  refine EvK.st A hFr (by omega) hb hK (fun hq τ g A1 K1 => ?_)
  have T1 := TrN.ev A.fx T g hd24
  obtain ⟨hs1, hF1, Ta1, -⟩ := T1.at
  have K1 : EvK W lst b wy ch fuel dp cn nv on τ (fu (vs.take pl) on (S.1 + 1, S.2)) K := K1
  have e1 : τ.i x 4 = 0 := hF1.2.2.2.2.1 (by omega)
  refine ⟨hs1, fun _ => ?_, fun q => absurd (by rw [e1]; decide) q⟩
  refine S_X23_eval_583 A1.fx ⟨hs1, fun _ => ?_, fun q => absurd (by rw [e1]; decide) q⟩
  refine S_X23_eval_604 A1.fx ⟨hs1, fun _ => ?_, fun q => absurd (by rw [e1]; decide) q⟩
  refine S_X23_eval_626 A1.fx ⟨hs1, fun _ => ⟨fun _ => ?_, fun q => absurd (by rw [e1]; decide) q⟩, fun q => absurd ((hF1.1 (by decide) : τ.i x 0 = Int32.ofNat 15).symm.trans q) (by decide)⟩
  rw [A1.2.1.1.1]
  refine ⟨ib_oN (by omega) (by decide), ib_oN (by omega) (by decide), ib_oN (by omega) (by decide), ?_⟩
  rw [oN_t (by omega)]
  have V := A1.2.2.1
  refine hfu _ nv (vs.take pl) _ _ _ on vs _ τ _ (by omega) (by omega) (by rw [List.length_take]; omega) (fun y hy => ?_) ?_ A1 (by show S.2.2.2.1 ≤ S.1 + 1; omega) K1.tl
  · obtain ⟨i, hi, e⟩ := List.mem_iff_getElem.mp (List.mem_of_mem_take hy)
    exact (V i y (by rw [List.getElem?_eq_getElem hi, e])).2
  · unfold ArG
    have h0 : ∀ i (h : i < vs.length), τ.l (2136 + 1 + dp) i = vs[i] := fun i h => (V i _ (List.getElem?_eq_getElem h)).1
    apply List.ext_getElem
    · rw [List.length_take, List.length_take]
      show _ = min (min pl vs.length) 3
      omega
    · intro i i1 i2
      rw [List.length_take] at i1
      rw [List.getElem_take, List.getElem_take, ← h0 i (by omega)]
      have : i = 0 ∨ i = 1 ∨ i = 2 := by omega
      rcases this with rfl | rfl | rfl <;> rfl
end EVAL4

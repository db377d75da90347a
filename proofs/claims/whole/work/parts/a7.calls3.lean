/-! THE REFERENCE: nearer, call, run, drop -/
section CALLS3
variable {Z : zT} {d : Nat} {W : Wld} {pg : Ast} {t : Nat → Int32} {n wy ch fuel rs : Nat} {rn : Option (Rs × Es)} {res : List Nat} {q : Nat} {σ τ : Sg} {K : kS}
/-- judging, nearness: what they may write -/
def caE (a k : Nat) : Prop := jdE a k ∨ a = 2192
theorem RfA.gf (h : RfA W pg t n wy ch fuel rs rn res q σ) (g : GF caE σ τ) (F : FX ΦR τ.sh τ.r) (M : MmR W wy τ) : RfA W pg t n wy ch fuel rs rn res q τ := by
  obtain ⟨m, lst, cap, m7, lst7, cap7, R, h1, h2, h3, h4, h5, h6, h7, h8, h9⟩ := h
  have hk := R.w3.1.2.1
  have hc := R.w3.2.1.2.1
  have nE : ∀ a k, ((1 ≤ a ∧ a < 1933) ∨ (2071 ≤ a ∧ a < 2131) ∨ (2132 ≤ a ∧ a < 2184) ∨ a = 2191 ∨ 2193 ≤ a ∨ (a = 0 ∧ (k < 47 ∨ (79 ≤ k ∧ k ≤ 97) ∨ 109 ≤ k))) → τ.i a k = σ.i a k := fun a k z => g.2.2.1 a k (fun y => by unfold caE jdE at y; omega) (by omega) (by omega) (by omega)
  have e : ∀ a, ((1 ≤ a ∧ a < 1933) ∨ (2071 ≤ a ∧ a < 2131) ∨ (2132 ≤ a ∧ a < 2184) ∨ a = 2191 ∨ 2193 ≤ a) → τ.i a = σ.i a := fun a z => funext fun k => nE a k (by omega)
  have N1 : NwS W lst m wy τ := (R.nw h1).ge g (fun a k z => by
    unfold caE at z
    rcases z with z | z
    · exact jd_nw a k z
    · unfold nwE
      omega) F
  have B1 : RbR W.1 W.2.1 W.2.2.2 τ := R.rb.mono hk.2 hc (fun a a1 a2 a3 => ⟨e a (by omega), g.2.2.2 a (by omega)⟩) (nE 0 41 (by omega))
  exact ⟨m, lst, cap, m7, lst7, cap7, R.gen g.1 (fun a k z => g.2.1 a k (by omega)) (fun a k z => nE a k (by omega)) (fun a k z => by rw [g.2.2.2 a (by omega)]) N1 B1, ⟨(nE 0 83 (by omega)).trans h1.1, h1.2⟩, ⟨(nE 0 82 (by omega)).trans h2.1, h2.2⟩, ⟨(nE 0 81 (by omega)).trans h3.1, h3.2⟩, M, h5.same (e _ (by omega)), (nE 0 112 (by omega)).trans h6, h7.keep (fun k z => nE 0 k (by omega)) (e _ (by omega)) (e _ (by omega)) (by rw [g.2.2.2 0 (by decide)]), h8.keep (nE 0 111 (by omega)) (e _ (by omega)), by rw [g.1]; exact h9⟩
theorem RfA.lt (h : RfA W pg t n wy ch fuel rs rn res q σ) (g : LtF σ τ) (O : OrR W τ) : RfA W pg t n wy ch fuel rs rn res q τ := by
  obtain ⟨m, lst, cap, m7, lst7, cap7, R, h1, h2, h3, h4, h5, h6, h7, h8, h9⟩ := h
  have z0 : τ.i 0 = σ.i 0 := g.2.2.1 0 (by decide) (by decide) (by decide)
  have W1 : WrS W lst m wy ch fuel τ := WrS.lt ⟨R.nw h1, R.rb, h4, h5, ⟨h3.1, h3.2.2⟩, h2⟩ g O
  have e : ∀ a, a = 2134 ∨ a = 2135 ∨ a = 2191 → τ.i a = σ.i a := fun a z => g.2.2.1 a (by omega) (by omega) (by omega)
  exact ⟨m, lst, cap, m7, lst7, cap7, R.gen g.1 (fun a k z => by rw [g.2.1]) (fun a k z => by rw [g.2.2.1 a (by omega) (by omega) (by omega)]) (fun a k z => g.2.2.2 a k (by omega) (by omega) (by omega)) W1.1 W1.2.1, by rw [z0]; exact h1, by rw [z0]; exact h2, by rw [z0]; exact h3, W1.2.2.1, O, by rw [z0]; exact h6, h7.keep (fun k z => by rw [z0]) (e _ (by decide)) (e _ (by decide)) (g.2.2.2 0 97 (by decide) (by decide) (by decide)), h8.keep (by rw [z0]) (e _ (by decide)), by rw [g.1]; exact h9⟩
/-! nearer -/
def kn3 (a b c : Int32) (i : Nat) : Int32 := if i = 0 then a else if i = 1 then b else c
def knN (pl : Nat) (a b c : Int32) (i : Nat) : Nat := if i < pl then (kn3 a b c i).toInt.toNat else 0
def thB (W : Wld) (m : Int32) : Bool := decide (1 ≤ m.toInt) && decide (m.toInt ≤ W.2.2.2.length) && decide (gnW W.2.2.2 m.toInt.toNat = 0)
noncomputable def neA (W : Wld) (wy : Nat) (m n a b c : Int32) : An :=
  if ¬ (thB W m = true ∧ thB W n = true) then .inl 1
  else if ¬ (∀ i, i < plW W.2.1 (mcW W.2.2.2 m.toInt.toNat) → 0 ≤ (kn3 a b c i).toInt ∧ (kn3 a b c i).toInt < W.1.length) then .inl 1
  else if ¬ (mcW W.2.2.2 n.toInt.toNat = mcW W.2.2.2 m.toInt.toNat ∧ ftB W m.toInt.toNat (knN (plW W.2.1 (mcW W.2.2.2 m.toInt.toNat)) a b c) = true ∧ ftB W n.toInt.toNat (knN (plW W.2.1 (mcW W.2.2.2 m.toInt.toNat)) a b c) = true) then .inl 2
  else .inr (Int32.ofInt (nrI W wy m.toInt.toNat n.toInt.toNat (knN (plW W.2.1 (mcW W.2.2.2 m.toInt.toNat)) a b c)))
theorem tn_oN {M : Nat} (h : M < 2147483648) : (Int32.ofNat M).toInt.toNat = M := by
  rw [oN_i h]
  rfl
theorem gn_e {lst : List Nat} {b m : Nat} (H : NwS W lst b wy σ) (h1 : 1 ≤ m) (h2 : m ≤ W.2.2.2.length) : σ.i (2497 + 4 * m) 10 = gnW W.2.2.2 m := by
  have e : W.2.2.2[m - 1]? = some W.2.2.2[m - 1] := List.getElem?_eq_getElem (by omega)
  have Mt := (H.2.2.2.1 (m - 1) _ e).2.2.2.2.2.2.1
  rw [show 2501 + 4 * (m - 1) = 2497 + 4 * m by omega] at Mt
  rw [Mt]
  unfold gnW
  rw [e]
theorem thB_i {M : Nat} (h : M < 2147483648) : thB W (Int32.ofNat M) = true ↔ 1 ≤ M ∧ M ≤ W.2.2.2.length ∧ gnW W.2.2.2 M = 0 := by
  unfold thB
  rw [oN_i h, Bool.and_eq_true, Bool.and_eq_true, decide_eq_true_iff, decide_eq_true_iff, decide_eq_true_iff]
  show ((1 : Int) ≤ (M : Int) ∧ (M : Int) ≤ W.2.2.2.length) ∧ gnW W.2.2.2 M = 0 ↔ _
  exact ⟨fun h => ⟨by omega, by omega, h.2⟩, fun h => ⟨⟨by omega, by omega⟩, h.2.2⟩⟩
theorem rc_nearer {m' n' a b c : Int32} (hW : WfW W) (hd : 240 ≤ d) (h : RfA W pg t n wy ch fuel rs rn res q σ) (hK : RAns K (RfA W pg t n wy ch fuel rs rn res q) (neA W wy m' n' a b c)) : B_X23_nearer__0 Z d σ m' n' a b c K := by
  obtain ⟨d, rfl⟩ : ∃ e, d = e + 2 := ⟨d - 2, by omega⟩
  have h00 := h.w110 (v := 0)
  have F := h.fx
  have hx := h
  obtain ⟨m0, lst, cap, m7, lst7, cap7, R, h1, h2, h3, h4, h5, h6, h7, h8, h9⟩ := hx
  have e6 := R.mn.1
  have h120 := R.mn.2
  have hk24 := R.w3.1.2.1
  have hc24 := R.w3.2.1.2.1
  have N0 := R.nw h1
  unfold neA at hK
  have no1 : ¬ (thB W m' = true ∧ thB W n' = true) → B_X23_no__0 Z (d + 1) (σ.wi 0 110 (0 : Int32)) 1 (yI K fun v τ => K (.inl (some (.int v))) τ) := fun z => by
    rw [if_pos z] at hK
    exact rc_no (th := 1) h00 hK
  have one : ∀ {x : Int32}, x < 1 ↔ x.toInt < 1 := Int32.lt_iff_toInt_lt
  have lt6 : ∀ {x : Int32}, Int32.ofNat W.2.2.2.length < x ↔ (W.2.2.2.length : Int) < x.toInt := fun {x} => by rw [Int32.lt_iff_toInt_lt, oN_i (by omega)]
  have notB : ∀ x : Int32, (x.toInt < 1 ∨ (W.2.2.2.length : Int) < x.toInt) → ¬ thB W x = true := fun x z y => by
    unfold thB at y
    rw [Bool.and_eq_true, Bool.and_eq_true, decide_eq_true_iff, decide_eq_true_iff] at y
    omega
  have gnx : ∀ x : Int32, 1 ≤ x.toInt → x.toInt ≤ W.2.2.2.length → (σ.wi 0 110 (0 : Int32)).i (2497 + 4 * x.toNatClampNeg) 10 = gnW W.2.2.2 x.toInt.toNat := fun x z1 z2 => by
    rw [wi_ne (by omega)]
    exact gn_e N0 (by show 1 ≤ x.toInt.toNat; omega) (by show x.toInt.toNat ≤ _; omega)
  have goneB : ∀ x : Int32, ¬ gnW W.2.2.2 x.toInt.toNat = 0 → ¬ thB W x = true := fun x z y => by
    unfold thB at y
    rw [Bool.and_eq_true, decide_eq_true_iff] at y
    exact z y.2
  refine S_X23_nearer__0 F ?_
  rw [e6]
  refine ⟨fun z => no1 (fun y => notB m' (Or.inl (one.mp z)) y.1), fun zm1 => ⟨fun z => no1 (fun y => notB m' (Or.inr (lt6.mp z)) y.1), fun zm2 => ?_⟩⟩
  rw [one] at zm1
  rw [lt6] at zm2
  rw [gnx m' (by omega) (by omega)]
  refine ⟨ib_i (by omega) (by omega), fun z => no1 (fun y => goneB m' z y.1), fun zm3 => ⟨fun z => no1 (fun y => notB n' (Or.inl (one.mp z)) y.2), fun zn1 => ⟨fun z => no1 (fun y => notB n' (Or.inr (lt6.mp z)) y.2), fun zn2 => ?_⟩⟩⟩
  rw [one] at zn1
  rw [lt6] at zn2
  rw [gnx n' (by omega) (by omega)]
  refine ⟨ib_i (by omega) (by omega), fun zn3 => ?_, fun z => no1 (fun y => goneB n' z y.2)⟩
  -- both are there
  have em : m' = Int32.ofNat m'.toInt.toNat := i_oN (by omega)
  have en : n' = Int32.ofNat n'.toInt.toNat := i_oN (by omega)
  obtain ⟨M, hM⟩ : ∃ M, m'.toInt.toNat = M := ⟨_, rfl⟩
  obtain ⟨N, hN⟩ : ∃ N, n'.toInt.toNat = N := ⟨_, rfl⟩
  rw [hM] at em
  rw [hN] at en
  have hM1 : 1 ≤ M ∧ M ≤ W.2.2.2.length := by omega
  have hN1 : 1 ≤ N ∧ N ≤ W.2.2.2.length := by omega
  clear zm1 zm2 zn1 zn2
  subst em en
  rw [tn_oN (by omega)] at zm3 zn3 hK hM hN
  rw [tn_oN (by omega)] at hK
  rw [if_neg (fun y => y ⟨(thB_i (by omega)).mpr ⟨hM1.1, hM1.2, zm3⟩, (thB_i (by omega)).mpr ⟨hN1.1, hN1.2, zn3⟩⟩)] at hK
  have N00 : NwS W lst m0 wy (σ.wi 0 110 (0 : Int32)) := N0.sm (SmW.wi0 (by decide)) F
  obtain ⟨⟨p1, p2, p3⟩, ⟨p4, p5⟩, p6, -⟩ := N00.mt hW hM1.1 hM1.2
  have hpl : (σ.wi 0 110 (0 : Int32)).i (2409 + 3 * mcW W.2.2.2 M) 1 = Int32.ofNat (plW W.2.1 (mcW W.2.2.2 M)) := (wyW_ok N00.2.1 p1).2.2
  rw [oN_t (by omega), p4, oN_t (by omega), hpl]
  refine ⟨ib_oN (by omega) (by decide), ib_oN (by omega) (by decide), ?_⟩
  obtain ⟨pl, hpl0⟩ : ∃ x, x = plW W.2.1 (mcW W.2.2.2 M) := ⟨_, rfl⟩
  rw [← hpl0] at hK p2 p3 ⊢
  obtain ⟨σ1, hσ1⟩ : ∃ x, x = (((σ.wi 0 110 (0 : Int32)).wi 2192 0 a).wi 2192 1 b).wi 2192 2 c := ⟨_, rfl⟩
  rw [← hσ1]
  have g1 : GF caE (σ.wi 0 110 (0 : Int32)) σ1 := by
    rw [hσ1]
    exact ((GF.wi (Or.inr rfl)).tr (GF.wi (Or.inr rfl))).tr (GF.wi (Or.inr rfl))
  have F1 : FX ΦR σ1.sh σ1.r := by rw [hσ1]; exact F
  have M1 : MmR W wy σ1 := h4.same (by rw [hσ1]; exact funext fun k => (wi_ne (by omega)).trans ((wi_ne (by omega)).trans ((wi_ne (by omega)).trans (wi_ne (by omega))))) (by rw [hσ1]; exact funext fun k => (wi_ne (by omega)).trans ((wi_ne (by omega)).trans ((wi_ne (by omega)).trans (wi_ne (by omega)))))
  have h01 : RfA W pg t n wy ch fuel rs rn res q σ1 := h00.gf g1 F1 M1
  have t1 : σ1.i 0 110 = 0 := by
    rw [hσ1]
    exact (wi_ne (by decide)).trans ((wi_ne (by decide)).trans ((wi_ne (by decide)).trans wi_eq))
  have N1 : NwS W lst m0 wy σ1 := N00.ge g1 (fun x k z => by
    unfold caE at z
    rcases z with z | z
    · exact jd_nw x k z
    · unfold nwE
      omega) F1
  have k3 : ∀ i, i < 3 → σ1.i 2192 i = kn3 a b c i := fun i hi => by
    rw [hσ1]
    unfold kn3
    rcases (by omega : i = 0 ∨ i = 1 ∨ i = 2) with rfl | rfl | rfl
    · exact (wi_ne (by decide)).trans ((wi_ne (by decide)).trans wi_eq)
    · exact (wi_ne (by decide)).trans wi_eq
    · exact wi_eq
  have s1 : σ1.sh[2192]? = some (Sh.arr 0 3) := F1.s (by decide +kernel)
  have loop : ∀ f p, p + f = pl → (∀ i, i < p → 0 ≤ (kn3 a b c i).toInt ∧ (kn3 a b c i).toInt < W.1.length) → B_X23_nearer__106 Z (d + 2) σ1 (Int32.ofNat M) (Int32.ofNat N) (Int32.ofNat pl) (Int32.ofNat p) K := by
    intro f
    induction f with
    | zero =>
      intro p hp hall
      obtain rfl : p = pl := by omega
      refine S_X23_nearer__106 F1 ⟨fun _ => ⟨ib_oN (by omega) (by decide), ib_oN (by omega) (by decide), ?_⟩, fun z => absurd (Int32.le_refl _) z⟩
      obtain ⟨⟨q1, q2, q3⟩, ⟨q4, q5⟩, -⟩ := N1.mt hW hM1.1 hM1.2
      obtain ⟨⟨r1, r2, r3⟩, ⟨r4, r5⟩, -⟩ := N1.mt hW hN1.1 hN1.2
      rw [oN_t (by omega), oN_t (by omega), q4, r4, oN_eq (by omega) (by omega)]
      rw [if_neg (fun y => y hall)] at hK
      have kk : ∀ i, i < p → σ1.i 2192 i = Int32.ofNat (knN p a b c i) ∧ knN p a b c i < W.1.length := fun i hi => by
        have := hall i hi
        unfold knN
        rw [if_pos hi, k3 i (by omega)]
        exact ⟨i_oN this.1, by omega⟩
      refine ⟨fun z => ?_, fun z => ?_⟩
      · rw [if_pos (fun y => z y.1)] at hK
        exact rc_no (th := 2) h01 hK
      · refine rf_fits hW N1 hM1 s1 (fun i hi => kk i (by omega)) ?_
        by_cases y1 : ftB W M (knN p a b c) = true
        · rw [if_pos y1]
          refine ⟨fun y => absurd y (by decide), fun _ => rf_fits hW N1 hN1 s1 (fun i hi => kk i (by rw [z] at hi; omega)) ?_⟩
          by_cases y2 : ftB W N (knN p a b c) = true
          · rw [if_pos y2]
            rw [if_neg (fun y => y ⟨z, y1, y2⟩)] at hK
            refine ⟨fun _ => rf_nearer hW (by omega) N1 M1 hM1 hN1 z ⟨⟨s1, by decide, by decide, by decide⟩, fun i hi => kk i (by omega), fun i hi => if_neg (by omega)⟩ (fun τ Fτ g Mτ => ?_), fun y => absurd y (by decide)⟩
            refine hK _ (h01.gf (g.gf caE) Fτ Mτ) ?_
            rw [g.2.2.1 0 110 (by decide) (by decide) (by decide)]
            exact t1
          · rw [if_neg y2]
            rw [if_pos (fun y => y2 y.2.2)] at hK
            exact ⟨fun y => absurd rfl y, fun _ => rc_no (th := 2) h01 hK⟩
        · rw [if_neg y1]
          rw [if_pos (fun y => y1 y.2.1)] at hK
          exact ⟨fun _ => rc_no (th := 2) h01 hK, fun y => absurd rfl y⟩
    | succ f ih =>
      intro p hp hall
      refine S_X23_nearer__106 F1 ⟨fun z => absurd z ?_, fun _ => ⟨ib_oN (by omega) (by decide), ?_⟩⟩
      · rw [oN_le (by omega) (by omega)]
        omega
      · rw [oN_t (by omega), k3 p (by omega)]
        refine rf_isKind h01 (fun z => ?_) (fun z => ?_)
        · refine ⟨fun _ => ?_, fun y => absurd y (by decide)⟩
          rw [oN_1]
          refine ih (p + 1) (by omega) (fun i hi => ?_)
          by_cases y : i = p
          · rw [y]
            exact z
          · exact hall i (by omega)
        · rw [if_pos (fun y => z (y p (by omega)))] at hK
          exact ⟨fun y => absurd rfl y, fun _ => rc_no (th := 1) h01 hK⟩
  exact loop pl 0 (by omega) (fun i hi => by omega)
/-! call -/
noncomputable def caA (W : Wld) (wy : Nat) (c v : Int32) : An :=
  if ¬ (0 ≤ c.toInt ∧ c.toInt < W.2.1.length) then .inl 1
  else if v = 0 then .inr (Int32.ofNat (thN W c.toInt.toNat))
  else if v = 1 then .inr (Int32.ofNat (lsN W c.toInt.toNat))
  else if v = 2 then .inr (Int32.ofNat (clN W c.toInt.toNat false (plW W.2.1 c.toInt.toNat)))
  else if v = 3 then .inr (Int32.ofNat (clN W c.toInt.toNat true (plW W.2.1 c.toInt.toNat)))
  else if v = 4 then .inr (Int32.ofNat (ndN W c.toInt.toNat (orN W c.toInt.toNat) (plW W.2.1 c.toInt.toNat)))
  else if v = 5 then .inr (Int32.ofInt (jdW W wy c.toInt.toNat).1)
  else if v = 6 then .inr (Int32.ofInt (rwO W (plW W.2.1 c.toInt.toNat) (jdW W wy c.toInt.toNat).2 0))
  else if v = 7 then .inr (Int32.ofInt (rwO W (plW W.2.1 c.toInt.toNat) (jdW W wy c.toInt.toNat).2 1))
  else if v = 8 then .inr (Int32.ofInt (rwO W (plW W.2.1 c.toInt.toNat) (jdW W wy c.toInt.toNat).2 2))
  else .inl 2
theorem rc_call {c' v : Int32} (hW : RnW W) (hd : 280 ≤ d) (h : RfA W pg t n wy ch fuel rs rn res q σ) (hK : RAns K (RfA W pg t n wy ch fuel rs rn res q) (caA W wy c' v)) : B_X23_call__0 Z d σ c' v K := by
  obtain ⟨d, rfl⟩ : ∃ e, d = e + 7 := ⟨d - 7, by omega⟩
  have h00 := h.w110 (v := 0)
  have F := h.fx
  have hx := h00
  obtain ⟨m0, lst, cap, m7, lst7, cap7, R, h1, h2, h3, h4, h5, h6, h7, h8, h9⟩ := hx
  have e5 : σ.i 0 5 = Int32.ofNat W.2.1.length := (wi_ne (by decide)).symm.trans R.w3.2.1.1
  have hc24 := R.w3.2.1.2.1
  have hmk : 1 ≤ (mkW W.1).length := List.length_pos_of_mem hW.2.2.2.1
  have N0 := R.nw h1
  unfold caA at hK
  have no1 : ¬ (0 ≤ c'.toInt ∧ c'.toInt < W.2.1.length) → B_X23_no__0 Z (d + 6) (σ.wi 0 110 (0 : Int32)) 1 (yI K fun v τ => K (.inl (some (.int v))) τ) := fun z => by
    rw [if_pos z] at hK
    exact rc_no (th := 1) h00 hK
  refine S_X23_call__0 F ?_
  rw [e5]
  refine ⟨fun z => no1 ?_, fun z1 => ⟨fun z2 => ?_, fun z => no1 ?_⟩⟩
  · rw [i32_lt0] at z
    omega
  · rw [i32_lt0] at z1
    rw [Int32.lt_iff_toInt_lt, oN_i (by omega)] at z2
    rw [if_neg (fun y => y ⟨by omega, z2⟩)] at hK
    have ec : c' = Int32.ofNat c'.toInt.toNat := i_oN (by omega)
    obtain ⟨c, hc'⟩ : ∃ c, c'.toInt.toNat = c := ⟨_, rfl⟩
    rw [hc'] at ec hK
    have hc : c < W.2.1.length := by omega
    subst ec
    have t0 : (σ.wi 0 110 (0 : Int32)).i 0 110 = 0 := wi_eq
    have lt0 : ∀ {τ : Sg}, LtF (σ.wi 0 110 (0 : Int32)) τ → τ.i 0 110 = 0 := fun {τ} g => by
      rw [g.2.2.1 0 (by decide) (by decide) (by decide)]
      exact t0
    have jd : ∀ {K' : kS}, (∀ τ, RfA W pg t n wy ch fuel rs rn res q τ → τ.i 0 110 = 0 → τ.i 0 98 = Int32.ofInt (jdW W wy c).1 → (∀ i, i < 3 → τ.i 2184 i = Int32.ofInt (rwO W (plW W.2.1 c) (jdW W wy c).2 i)) → K' (.inl none) τ) → B_X23_judge_0 Z (d + 6) (σ.wi 0 110 (0 : Int32)) (Int32.ofNat c) K' := fun {K'} k' => rf_judge hW.1 (by omega) N0 h4 R.rb hmk hc (fun τ Fτ g Mτ e1 e2 => k' τ (h00.gf (g.le (fun a k z => Or.inl z)) Fτ Mτ) ((g.2.2.1 0 110 (fun y => by unfold jdE at y; omega) (by decide) (by decide) (by decide)).trans t0) e1 e2)
    refine ⟨fun z => ⟨ib_oN (by omega) (by decide), ?_⟩, fun z => ?_, fun z => ?_, fun z => ?_, fun z => ?_, fun z => ?_, fun z => ?_, fun z => ?_, fun z => ?_, fun n0 n1 n2 n3 n4 n5 n6 n7 n8 => ?_⟩
    · rw [if_pos z] at hK
      have e := R.rb.2.2.2.2.1 c hc
      rw [oN_t (by omega), show σ.i 1930 c = (σ.wi 0 110 (0 : Int32)).i 1930 c from (wi_ne (by omega)).symm, e]
      exact hK _ h00 wi_eq
    · rw [if_neg (by rw [z]; decide), if_pos z] at hK
      exact rf_lists R.wk hc (fun τ g eo => hK _ (h00.lt g (h5.same eo)) (lt0 g))
    · rw [if_neg (by rw [z]; decide), if_neg (by rw [z]; decide), if_pos z] at hK
      exact rf_cells (pr := false) R.wk hc (fun τ g eo _ => hK _ (h00.lt g (h5.same eo)) (lt0 g))
    · rw [if_neg (by rw [z]; decide), if_neg (by rw [z]; decide), if_neg (by rw [z]; decide), if_pos z] at hK
      exact rf_cells (pr := true) R.wk hc (fun τ g eo _ => hK _ (h00.lt g (h5.same eo)) (lt0 g))
    · rw [if_neg (by rw [z]; decide), if_neg (by rw [z]; decide), if_neg (by rw [z]; decide), if_neg (by rw [z]; decide), if_pos z] at hK
      refine rf_order R.wk hc hmk h5 (fun τ g O => ?_)
      have A1 := h00.lt g O
      have K1 := R.wk.lt g
      refine rf_group K1 hc (fun τ2 g2 _ _ eo G2 => ?_)
      have K2 := K1.lt g2
      refine rf_nodeCount K2 hc hmk (orW_lt W c _ oc_b.1) G2 (fun τ3 g3 eo3 _ => ?_)
      have g123 := (g.tr g2).tr g3
      exact hK _ (h00.lt g123 ((O.same eo).same eo3)) (lt0 g123)
    · rw [if_neg (by rw [z]; decide), if_neg (by rw [z]; decide), if_neg (by rw [z]; decide), if_neg (by rw [z]; decide), if_neg (by rw [z]; decide), if_pos z] at hK
      refine jd (fun τ A1 t1 e1 e2 => ?_)
      show K (.inl (some (.int (τ.i 0 98)))) τ
      rw [e1]
      exact hK _ A1 t1
    · rw [if_neg (by rw [z]; decide), if_neg (by rw [z]; decide), if_neg (by rw [z]; decide), if_neg (by rw [z]; decide), if_neg (by rw [z]; decide), if_neg (by rw [z]; decide), if_pos z] at hK
      refine jd (fun τ A1 t1 e1 e2 => ?_)
      subst z
      refine ⟨by decide, ?_⟩
      rw [show ((6 : Int32) - (6 : Int32)).toNatClampNeg = 0 by decide, e2 0 (by decide)]
      exact hK _ A1 t1
    · rw [if_neg (by rw [z]; decide), if_neg (by rw [z]; decide), if_neg (by rw [z]; decide), if_neg (by rw [z]; decide), if_neg (by rw [z]; decide), if_neg (by rw [z]; decide), if_neg (by rw [z]; decide), if_pos z] at hK
      refine jd (fun τ A1 t1 e1 e2 => ?_)
      subst z
      refine ⟨by decide, ?_⟩
      rw [show ((7 : Int32) - (6 : Int32)).toNatClampNeg = 1 by decide, e2 1 (by decide)]
      exact hK _ A1 t1
    · rw [if_neg (by rw [z]; decide), if_neg (by rw [z]; decide), if_neg (by rw [z]; decide), if_neg (by rw [z]; decide), if_neg (by rw [z]; decide), if_neg (by rw [z]; decide), if_neg (by rw [z]; decide), if_neg (by rw [z]; decide), if_pos z] at hK
      refine jd (fun τ A1 t1 e1 e2 => ?_)
      subst z
      refine ⟨by decide, ?_⟩
      rw [show ((8 : Int32) - (6 : Int32)).toNatClampNeg = 2 by decide, e2 2 (by decide)]
      exact hK _ A1 t1
    · rw [if_neg n0, if_neg n1, if_neg n2, if_neg n3, if_neg n4, if_neg n5, if_neg n6, if_neg n7, if_neg n8] at hK
      exact rc_no (th := 2) h00 hK
  · rw [Int32.lt_iff_toInt_lt, oN_i (by omega)] at z
    omega
/-! run -/
noncomputable def ruA (W : Wld) (pg : Ast) (wy ch fuel : Nat) : An := if pg.isNil = true then .inl 1 else .inr (Int32.ofNat (hwR (rnP W wy ch fuel pg).1))
noncomputable def ruN (W : Wld) (pg : Ast) (wy ch fuel : Nat) (rn : Option (Rs × Es)) : Option (Rs × Es) := if pg.isNil = true then rn else some (rnP W wy ch fuel pg)
theorem tr_nil {τ : Sg} {A : Nat → Prop} : ∀ {x : Ast} {r : Rf}, TrN τ A x r → (r = Rf.nul ↔ x.isNil = true)
  | .nil, r, h => ⟨fun _ => rfl, fun _ => h⟩
  | .tag op (.nest v (.nest w (.append a (.append b c)))), r, h => by
    refine ⟨fun z => ?_, fun z => by cases z⟩
    obtain ⟨y, e, -⟩ := h
    rw [z] at e
    cases e
theorem rc_run (hW : RnW W) (hpg : pg.isNil = false → PgW W pg) (hd : 1810 ≤ d) (h : RfA W pg t n wy ch fuel rs rn res q σ) (hK : RAns K (RfA W pg t n wy ch fuel rs (ruN W pg wy ch fuel rn) res q) (ruA W pg wy ch fuel)) : B_X23_run_0 Z d σ K := by
  obtain ⟨d, rfl⟩ : ∃ e, d = e + 2 := ⟨d - 2, by omega⟩
  have h00 := h.w110 (v := 0)
  have F := h.fx
  have hx := h00
  obtain ⟨m0, lst, cap, m7, lst7, cap7, R, h1, h2, h3, h4, h5, h6, h7, h8, h9⟩ := hx
  have tn : σ.r 0 10 = Rf.nul ↔ pg.isNil = true := tr_nil R.tr
  unfold ruA ruN at hK
  refine S_X23_run_0 F ⟨fun z => ?_, fun z => ?_⟩
  · have z : ¬ pg.isNil = true := fun y => z (tn.mpr y)
    rw [if_neg z, if_neg z] at hK
    refine rf_runAll (by omega) R hW (hpg (Bool.eq_false_iff.mpr z)) h1 h2 ⟨h3.1, h3.2.2⟩ h4 h5 (fun τ R' M' O' u S' => ?_)
    refine hK _ ⟨m0, lst, cap, m7, lst7, cap7, R', ⟨(u.2.1 83 (by decide)).trans h1.1, h1.2⟩, ⟨(u.2.1 82 (by decide)).trans h2.1, h2.2⟩, ⟨(u.2.1 81 (by decide)).trans h3.1, h3.2⟩, M', O', (u.2.1 112 (by decide)).trans h6, S', h8.keep (u.2.1 111 (by decide)) u.2.2, by rw [u.1]; exact h9⟩ ((u.2.1 110 (by decide)).trans wi_eq)
  · have z : pg.isNil = true := tn.mp z
    rw [if_pos z, if_pos z] at hK
    exact rc_no (th := 1) h00 hK
/-! drop -/
def drM (ms : List (Mtd × Bool)) (m : Nat) : List (Mtd × Bool) := ms.modify (m - 1) fun x => (x.1, true)
def drW (W : Wld) (m : Nat) : Wld := (W.1, W.2.1, W.2.2.1, drM W.2.2.2 m)
def drA (W : Wld) (m : Int32) : Nat ⊕ Bool := if 1 ≤ m.toInt ∧ m.toInt ≤ W.2.2.2.length then .inr (decide (gnW W.2.2.2 m.toInt.toNat = 0)) else .inl 1
def drO (W : Wld) (m : Int32) : Wld := if 1 ≤ m.toInt ∧ m.toInt ≤ W.2.2.2.length ∧ gnW W.2.2.2 m.toInt.toNat = 0 then drW W m.toInt.toNat else W
theorem drM_len (ms : List (Mtd × Bool)) (m : Nat) : (drM ms m).length = ms.length := List.length_modify ..
theorem drM_mem {ms : List (Mtd × Bool)} {m : Nat} {x : Mtd × Bool} (h : x ∈ drM ms m) : ∃ y ∈ ms, y.1 = x.1 := by
  obtain ⟨i, hi⟩ := List.mem_iff_getElem?.mp h
  unfold drM at hi
  rw [List.getElem?_modify] at hi
  cases e : ms[i]? with
  | none =>
    rw [e] at hi
    cases hi
  | some y =>
    rw [e] at hi
    refine ⟨y, List.mem_of_getElem? e, ?_⟩
    have hi := Option.some.inj hi
    rw [← hi]
    split <;> rfl
theorem dr_rn (h : RnW W) (m : Nat) : RnW (drW W m) := by
  obtain ⟨⟨h1, h2, h3⟩, h4, h5, h6⟩ := h
  refine ⟨⟨h1, h2, fun x hx => ?_⟩, fun x hx => ?_, fun x hx => ?_, h6⟩
  · obtain ⟨y, y1, y2⟩ := drM_mem hx
    rw [← y2]
    exact (h3 y y1).mono ⟨[], (List.append_nil _).symm⟩ ⟨[], (List.append_nil _).symm⟩ ⟨[], (List.append_nil _).symm⟩
  · obtain ⟨y, y1, y2⟩ := drM_mem hx
    rw [← y2]
    exact h4 y y1
  · obtain ⟨y, y1, y2⟩ := drM_mem hx
    rw [← y2]
    exact h5 y y1
theorem wf_s (h : WfW W) : WfS W.1 W.2.2.2 := fun x hx s hs => by
  obtain ⟨k, -, -, -, -, -, h6, -⟩ := h.2.2 x hx
  exact (h6 s hs).1
theorem rc_drop {m' : Int32} (hW : RnW W) (hd : 10 ≤ d) (h : RfA W pg t n wy ch fuel rs rn res q σ) (hK : RAnB K (RfA (drO W m') pg t n wy ch fuel rs rn res q) (drA W m')) : B_X23_drop_0 Z d σ m' K := by
  obtain ⟨d, rfl⟩ : ∃ e, d = e + 2 := ⟨d - 2, by omega⟩
  have h00 := h.w110 (v := 0)
  have F := h.fx
  have hx := h00
  obtain ⟨m0, lst, cap, m7, lst7, cap7, R, h1, h2, h3, h4, h5, h6, h7, h8, h9⟩ := hx
  have e6 : σ.i 0 6 = Int32.ofNat W.2.2.2.length := (wi_ne (by decide)).symm.trans R.mn.1
  have h120 := R.mn.2
  have hk24 := R.w3.1.2.1
  have hc24 := R.w3.2.1.2.1
  have hl8 := R.w3.2.2.2.1
  have N0 := R.nw h1
  unfold RAnB drA drO at hK
  have no1 : ¬ (1 ≤ m'.toInt ∧ m'.toInt ≤ W.2.2.2.length) → B_X23_no__0 Z (d + 1) (σ.wi 0 110 (0 : Int32)) 1 (yI K fun v τ => (v ≤ 0 → K (.inl (some (.int 0))) τ) ∧ (¬ v ≤ 0 → K (.inl (some (.int 1))) τ)) := fun z => by
    rw [if_neg z, if_neg (fun y => z ⟨y.1, y.2.1⟩)] at hK
    exact rc_nob (th := 1) h00 hK
  refine S_X23_drop_0 F ?_
  rw [e6]
  refine ⟨fun z => no1 ?_, fun z1 => ⟨fun z2 => ?_, fun z => no1 ?_⟩⟩
  · have z : m'.toInt < 1 := Int32.lt_iff_toInt_lt.mp z
    omega
  · have z1 : ¬ m'.toInt < 1 := fun y => z1 (Int32.lt_iff_toInt_lt.mpr y)
    rw [Int32.le_iff_toInt_le, oN_i (by omega)] at z2
    have em : m' = Int32.ofNat m'.toInt.toNat := i_oN (by omega)
    obtain ⟨M, hM⟩ : ∃ M, m'.toInt.toNat = M := ⟨_, rfl⟩
    rw [hM] at em hK
    have hM1 : 1 ≤ M ∧ M ≤ W.2.2.2.length := by omega
    rw [if_pos (show 1 ≤ m'.toInt ∧ m'.toInt ≤ (W.2.2.2.length : Int) from ⟨by omega, z2⟩)] at hK
    have gM := gn_e N0 hM1.1 hM1.2
    have hz1 : 1 ≤ m'.toInt := by omega
    rw [show m'.toNatClampNeg = M from hM, gM]
    refine ⟨ib_i (by omega) (by omega), fun z => ?_, fun z => ?_⟩
    · rw [if_neg (show ¬ (1 ≤ m'.toInt ∧ m'.toInt ≤ (W.2.2.2.length : Int) ∧ gnW W.2.2.2 M = 0) from fun y => z y.2.2), decide_eq_false z] at hK
      refine S_X23_drop_49 h00.fx ⟨ib_i (by omega) (by omega), fun _ => ⟨rfl, ?_⟩, fun y => absurd rfl y⟩
      rw [show m'.toNatClampNeg = M from hM]
      have e1 : (1 : Int32) = (σ.wi 0 110 (0 : Int32)).i (2497 + 4 * M) 10 := by
        rw [gM]
        unfold gnW at z ⊢
        split
        · rename_i x hx
          rw [hx] at z
          dsimp only at z
          split
          · rfl
          · rename_i y
            rw [if_neg y] at z
            exact absurd rfl z
        · rfl
      rw [e1, wi_id]
      exact hK _ h00 wi_eq
    · rw [if_pos (show 1 ≤ m'.toInt ∧ m'.toInt ≤ (W.2.2.2.length : Int) ∧ gnW W.2.2.2 M = 0 from ⟨hz1, z2, z⟩), decide_eq_true z] at hK
      refine S_X23_drop_49 h00.fx ⟨ib_i (by omega) (by omega), fun y => absurd y (by decide), fun _ => ?_⟩
      rw [show m'.toNatClampNeg = M from hM]
      obtain ⟨σ1, hσ1⟩ : ∃ x, x = (σ.wi 0 110 (0 : Int32)).wi (2497 + 4 * M) 10 (1 : Int32) := ⟨_, rfl⟩
      rw [← hσ1]
      have i1 : ∀ a k, ¬ (a = 2497 + 4 * M ∧ k = 10) → σ1.i a k = (σ.wi 0 110 (0 : Int32)).i a k := fun a k z => by rw [hσ1]; exact wi_ne z
      have l1 : σ1.l = (σ.wi 0 110 (0 : Int32)).l := by rw [hσ1]; rfl
      have r1 : σ1.r = (σ.wi 0 110 (0 : Int32)).r := by rw [hσ1]; rfl
      have s1 : σ1.sh = (σ.wi 0 110 (0 : Int32)).sh := by rw [hσ1]; rfl
      have F1 : FX ΦR σ1.sh σ1.r := by rw [s1, r1]; exact R.fx
      have w31 : W3 W.1 W.2.1 W.2.2.1 σ1 := R.w3.keep (fun a ha => funext fun k => i1 a k (by omega)) (i1 0 4 (by omega)) (i1 0 5 (by omega)) (i1 0 7 (by omega))
      have M1 : MsL (drM W.2.2.2 M) W.2.1 σ1 lst m0 := by
        intro j x hx
        unfold drM at hx
        rw [List.getElem?_modify] at hx
        cases e : W.2.2.2[j]? with
        | none =>
          rw [e] at hx
          cases hx
        | some y =>
          rw [e] at hx
          have hx : (if M - 1 = j then (y.1, true) else y) = x := Option.some.inj hx
          have Mt := R.ms j y e
          have hj := (List.getElem?_eq_some_iff.mp e).1
          have nd : ∀ v, Rg lst 0 m0 v → (σ.wi 0 110 (0 : Int32)).sh[v]? = some (Sh.obj 21) → Rg lst 0 m0 v ∧ σ1.sh[v]? = some (Sh.obj 21) ∧ σ1.i v = (σ.wi 0 110 (0 : Int32)).i v ∧ σ1.l v = (σ.wi 0 110 (0 : Int32)).l v ∧ σ1.r v = (σ.wi 0 110 (0 : Int32)).r v := fun v hv hvs => by
            have := nd_ge R.fx hvs
            exact ⟨hv, by rw [s1]; exact hvs, funext fun k => i1 v k (by omega), by rw [l1], by rw [r1]⟩
          by_cases y0 : M - 1 = j
          · rw [if_pos y0] at hx
            rw [← hx]
            obtain ⟨t1, t2, t3, t4, t5, t6, t7, t8, t9, t10⟩ := Mt
            have ea : 2501 + 4 * j = 2497 + 4 * M := by omega
            refine ⟨t1, (i1 _ _ (by omega)).trans t2, (i1 _ _ (by omega)).trans t3, (i1 _ _ (by omega)).trans t4, (i1 _ _ (by omega)).trans t5, (i1 _ _ (by omega)).trans t6, ?_, fun i s hs => ?_, ?_, ?_⟩
            · rw [hσ1, ea]
              exact wi_eq
            · obtain ⟨u1, u2, u3⟩ := t8 i s hs
              exact ⟨(i1 _ _ (by omega)).trans u1, (i1 _ _ (by omega)).trans u2, (i1 _ _ (by omega)).trans u3⟩
            · rw [r1]
              exact TsN.mono nd _ _ t9
            · rw [r1]
              exact TrN.mono nd _ _ t10
          · rw [if_neg y0] at hx
            rw [← hx]
            exact Mt.mono (fun _ _ z => z) (fun a a1 a2 => funext fun k => i1 a k (by omega)) (by rw [r1]) nd
      have rn1 := dr_rn hW M
      refine rf_rebuild (by omega) F1 w31 (by rw [drM_len, i1 0 6 (by omega)]; exact R.mn.1) (by rw [drM_len]; exact h120) M1 (wf_s rn1.1) (fun τ Fτ g B O Mm => ?_)
      have gi : ∀ a k, ¬ (1881 ≤ a ∧ a < 1905) → ¬ (1930 ≤ a ∧ a ≤ 1932) → a ≠ 2069 → ¬ (a = 0 ∧ k = 41) → ¬ (a = 2497 + 4 * M ∧ k = 10) → τ.i a k = (σ.wi 0 110 (0 : Int32)).i a k := fun a k z1 z2 z3 z4 z5 => (g.2.2.1 a k z1 z2 z3 z4).trans (i1 a k z5)
      have gl : ∀ a, ¬ (55 ≤ a ∧ a < 2121) → τ.l a = (σ.wi 0 110 (0 : Int32)).l a := fun a z => by rw [g.2.2.2 a z, l1]
      have gr : τ.r = (σ.wi 0 110 (0 : Int32)).r := g.2.1.trans r1
      have gs : τ.sh = (σ.wi 0 110 (0 : Int32)).sh := g.1.trans s1
      have z0 : ∀ k, k ≠ 41 → τ.i 0 k = (σ.wi 0 110 (0 : Int32)).i 0 k := fun k z => gi 0 k (by omega) (by omega) (by omega) (by omega) (by omega)
      have w3τ : W3 W.1 W.2.1 W.2.2.1 τ := R.w3.keep (fun a ha => funext fun k => gi a k (by omega) (by omega) (by omega) (by omega) (by omega)) (z0 4 (by decide)) (z0 5 (by decide)) (z0 7 (by decide))
      have Mτ : MsL (drM W.2.2.2 M) W.2.1 τ lst m0 := fun j x hx => by
        have hj := (List.getElem?_eq_some_iff.mp hx).1
        rw [drM_len] at hj
        refine (M1 j x hx).mono (fun _ _ z => z) (fun a a1 a2 => funext fun k => g.2.2.1 a k (by omega) (by omega) (by omega) (by omega)) (by rw [g.2.1]) (fun v hv hvs => ?_)
        have := nd_ge F1 hvs
        exact ⟨hv, by rw [g.1]; exact hvs, funext fun k => g.2.2.1 v k (by omega) (by omega) (by omega) (by omega), g.2.2.2 v (by omega), by rw [g.2.1]⟩
      have Nτ : NwS (drW W M) lst m0 wy τ := by
        refine ⟨Fτ, w3τ, ⟨?_, by show (drM W.2.2.2 M).length ≤ 120; rw [drM_len]; exact h120⟩, Mτ, fun a b ha hb => ?_, ⟨(z0 83 (by decide)).trans h1.1, h1.2⟩⟩
        · show _ = Int32.ofNat (drM W.2.2.2 M).length
          rw [drM_len, z0 6 (by decide)]
          exact R.mn.1
        · rw [B.1 a b ha hb]
          show _ = if blW W.1 a b = true then (1 : Int32) else 0
          unfold blW
          by_cases y : b ∈ rwW W.1 1 a
          · rw [if_pos y, if_pos (decide_eq_true y)]
          · rw [if_neg y, if_neg (by rw [decide_eq_false y]; decide)]
      refine ⟨rfl, hK _ ⟨m0, lst, cap, m7, lst7, cap7, R.gen (W' := drW W M) gs (fun a k _ => by rw [gr]) (fun a k z => gi a k (by omega) (by omega) (by omega) (by omega) (by omega)) (fun a k z => by rw [gl a (by omega)]) Nτ B, ⟨(z0 83 (by decide)).trans h1.1, h1.2⟩, ⟨(z0 82 (by decide)).trans h2.1, h2.2⟩, ⟨(z0 81 (by decide)).trans h3.1, h3.2⟩, MmR.new Mm, OrR.new O, (z0 112 (by decide)).trans h6, h7.keep (fun k z => z0 k (by omega)) (funext fun k => gi _ k (by omega) (by omega) (by omega) (by omega) (by omega)) (funext fun k => gi _ k (by omega) (by omega) (by omega) (by omega) (by omega)) (by rw [gl 0 (by decide)]), h8.keep (z0 111 (by decide)) (funext fun k => gi _ k (by omega) (by omega) (by omega) (by omega) (by omega)), by rw [gs]; exact h9⟩ ((z0 110 (by decide)).trans wi_eq)⟩
  · rw [Int32.le_iff_toInt_le, oN_i (by omega)] at z
    omega
end CALLS3

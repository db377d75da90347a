/-! THE REFERENCE: eval() follows ev -/
theorem i64_0 : Int32.ofInt 0 = 0 := rfl
section EVQ
variable (W : Wld) (fuel pl : Nat) (cl : Cf) (fu : Nf) (v w : Int) (a b c : Ast) (acc : Int32) (vs : List Int64) (on : List Nat) (S : Es)
theorem ev_1 : ev W fuel pl cl fu (aN 1 v w a b c) false acc vs on S = stR fuel S fun S => bnR (ev W fuel pl cl fu a false 0 vs on S) fun x S => ev W fuel pl cl fu b false 0 (vs ++ [x]) on S := rfl
theorem ev_2 : ev W fuel pl cl fu (aN 2 v w a b c) false acc vs on S = stR fuel S fun S => bnR (ev W fuel pl cl fu a false 0 vs on S) fun x S => if nmV x = 0 then ev W fuel pl cl fu c false 0 vs on S else ev W fuel pl cl fu b false 0 vs on S := rfl
theorem ev_3 : ev W fuel pl cl fu (aN 3 v w a b c) false acc vs on S = stR fuel S fun S => ev W fuel pl cl fu a false 0 vs (on.filter (· ≠ v.toNat) ++ [v.toNat]) S := rfl
theorem ev_4 : ev W fuel pl cl fu (aN 4 v w a b c) false acc vs on S = stR fuel S fun S => ev W fuel pl cl fu a false 0 vs (on.filter (· ≠ v.toNat)) S := rfl
def trR (r : Rs × Es) (f : Int64 → Es → Rs × Es) : Rs × Es := match r with
  | (.inr (.inl x), S) => f x S
  | r => r
theorem ev_5 : ev W fuel pl cl fu (aN 5 v w a b c) false acc vs on S = stR fuel S fun S => trR (ev W fuel pl cl fu a false 0 vs on S) fun x S => ev W fuel pl cl fu b false 0 (vs ++ [x]) on S := rfl
theorem ev_6 : ev W fuel pl cl fu (aN 6 v w a b c) false acc vs on S = stR fuel S fun S => bnR (ev W fuel pl cl fu a false 0 vs on S) fun x S => (.inr (.inl x), S) := rfl
theorem ev_7 : ev W fuel pl cl fu (aN 7 v w a b c) false acc vs on S = stR fuel S fun S => bnR (ev W fuel pl cl fu a false 0 vs on S) fun x S => if S.2.2.1.length = 512 then (.inr (.inr 5), S) else (.inl x, S.1, S.2.1, S.2.2.1 ++ [nmV x], S.2.2.2) := rfl
theorem ev_8 : ev W fuel pl cl fu (aN 8 v w a b c) false acc vs on S = stR fuel S fun S => bnR (ev W fuel pl cl fu a false 0 vs on S) fun x S => bnR (ev W fuel pl cl fu b false 0 vs on S) fun y S => (.inl (vlX 1 (if cmV v (nmV x) (nmV y) = true then 1 else 0)), S) := rfl
theorem ev_9 : ev W fuel pl cl fu (aN 9 v w a b c) false acc vs on S = stR fuel S fun S => bnR (ev W fuel pl cl fu a false 0 vs on S) fun x S => (.inl (vlX 1 (if blW W.1 (kdV x).toNatClampNeg v.toNat = true then 1 else 0)), S) := rfl
theorem ev_10 : ev W fuel pl cl fu (aN 10 v w a b c) false acc vs on S = stN fuel w.toNat S fun S => bnR (ev W fuel pl cl fu a false 0 vs on S) fun x S => ev W fuel pl cl fu b true (nmV x) vs on S := rfl
theorem ev_11 : ev W fuel pl cl fu (aN 11 v w a b c) false acc vs on S = stR fuel S fun S => (.inl (vlX 1 (Int32.ofInt v)), S) := rfl
theorem ev_12 : ev W fuel pl cl fu (aN 12 v w a b c) false acc vs on S = stR fuel S fun S => (.inl (vs.getD v.toNat 0), S) := rfl
theorem ev_13 : ev W fuel pl cl fu (aN 13 v w a b c) false acc vs on S = stR fuel S fun S => bnR (ev W fuel pl cl fu a false 0 vs on S) fun x S => (.inl (vlX (Int32.ofInt v) (nmV x)), S) := rfl
theorem ev_16 : ev W fuel pl cl fu (aN 16 v w a b c) false acc vs on S = stR fuel S fun S => bnR (ev W fuel pl cl fu a false 0 vs on S) fun x S => (.inl (vlX 1 (nmV x)), S) := rfl
theorem ev_14 : ev W fuel pl cl fu (aN 14 v w a b c) false acc vs on S = stR fuel S fun S => if w = 0 then fu (vs.take pl) on S
      else bnR (ev W fuel pl cl fu a false 0 vs on S) fun x S =>
        if w = 1 then cl v.toNat [x] on S
        else bnR (ev W fuel pl cl fu b false 0 vs on S) fun y S =>
          if w = 2 then cl v.toNat [x, y] on S
          else bnR (ev W fuel pl cl fu c false 0 vs on S) fun z S => cl v.toNat [x, y, z] on S := rfl
theorem ev_15 : ev W fuel pl cl fu (aN 15 v w a b c) false acc vs on S = stR fuel S fun S => if w = 0 then fu (vs.take pl) on S
      else bnR (ev W fuel pl cl fu a false 0 vs on S) fun x S =>
        if w = 1 then fu [x] on S
        else bnR (ev W fuel pl cl fu b false 0 vs on S) fun y S =>
          if w = 2 then fu [x, y] on S
          else bnR (ev W fuel pl cl fu c false 0 vs on S) fun z S => fu [x, y, z] on S := rfl
/-- a link's sign -/
def opV (op : Nat) (x y : Int32) : Int32 := if op = 39 then x + y else if op = 40 then x - y else if op = 41 then x * y else x / y
theorem ev_l0 (op : Nat) : ev W fuel pl cl fu (aN op v w a .nil c) true acc vs on S = bnR (ev W fuel pl cl fu a false 0 vs on S) fun x S => if op = 42 ∧ nmV x = 0 then faR 3 S else (.inl (vlX 1 (opV op acc (nmV x))), S) := rfl
theorem ev_l1 (op : Nat) (h : b ≠ .nil) : ev W fuel pl cl fu (aN op v w a b c) true acc vs on S = bnR (ev W fuel pl cl fu a false 0 vs on S) fun x S => if op = 42 ∧ nmV x = 0 then faR 3 S else ev W fuel pl cl fu b true (opV op acc (nmV x)) vs on S := by
  cases b with
  | nil => exact absurd rfl h
  | line => rfl
  | align _ => rfl
  | text _ => rfl
  | nest _ _ => rfl
  | append _ _ => rfl
  | group _ _ => rfl
  | tag _ _ => rfl
end EVQ
/-- the arguments, as they are passed -/
def ArG (args : List Int64) (x y z : Int64) : Prop := args = [x, y, z].take args.length
section EVP
variable {Z : zT} {W : Wld} {lst : List Nat} {b wy ch fuel dp cn nv : Nat} {on : List Nat} {S : Es} {vs : List Int64} {σ τ υ : Sg} {K : kS} {Fr : Sg → Prop} {B : Nat → Prop}
theorem EvA.push {v : Int64} (A : EvA W lst b wy ch fuel dp cn Fr on vs S σ) (hFr : ∀ nv σ τ, EvF dp cn nv σ τ → Fr σ → Fr τ) (hv : VlG W v) : EvF dp cn vs.length σ (σ.wl (2136 + 1 + dp) vs.length v) ∧ EvA W lst b wy ch fuel dp cn Fr on (vs ++ [v]) S (σ.wl (2136 + 1 + dp) vs.length v) := by
  obtain ⟨a1, a2, a3, a4, a5⟩ := A
  have hd := a2.1.2
  have g : EvF dp cn vs.length σ (σ.wl (2136 + 1 + dp) vs.length v) := EvF.wl (by unfold evL; omega)
  refine ⟨g, a1.sm (SmW.wl (by omega)) a1.1.1, a2.keep rfl rfl (wl_ne (by omega)) a2.2.2.2.1 a2.2.2.2.2.1 rfl rfl rfl rfl rfl, fun i x hx => ?_, hFr _ _ _ g a4, a5⟩
  by_cases q : i < vs.length
  · rw [List.getElem?_append_left q] at hx
    obtain ⟨z1, z2⟩ := a3 i x hx
    exact ⟨(wl_ne (by omega)).trans z1, z2⟩
  · rw [List.getElem?_append_right (by omega)] at hx
    have h0 : i = vs.length := by
      have := (List.getElem?_eq_some_iff.mp hx).1
      have : i - vs.length < 1 := this
      omega
    subst h0
    rw [Nat.sub_self] at hx
    have hx : some v = some x := hx
    obtain rfl := Option.some.inj hx
    exact ⟨wl_eq, hv⟩
/-- a Node of a tree that is there -/
theorem TrN.at {op : Nat} {v w : Int} {a b' c : Ast} {x : Nat} (T : TrN σ B (aN op v w a b' c) (Rf.ptr x)) : σ.sh[x]? = some (Sh.obj 21) ∧ ndF σ x op v w ∧ TrN σ B a (σ.r x 5) ∧ TrN σ B b' (σ.r x (if op = 10 ∨ 39 ≤ op then 8 else 6)) ∧ TrN σ B c (σ.r x 7) := by
  rw [TrN_aN] at T
  obtain ⟨y, e, -, h⟩ := T
  have e : (some (.inl x) : Rf) = some (.inl y) := e
  obtain rfl : x = y := by
    injection e with e
    injection e
  exact h
end EVP
section EVAL
variable {Z : zT} {W : Wld} {lst : List Nat} {b wy ch fuel dp cn D : Nat} {E : Wev} {pl : Nat} {cl : Cf} {fu : Nf} {Fr : Sg → Prop} {B : Nat → Prop}
/-- eval() (or the links of a chain) follows ev -/
def EvH (Z : zT) (W : Wld) (lst : List Nat) (b wy ch fuel dp cn D pl : Nat) (cl : Cf) (fu : Nf) (Fr : Sg → Prop) (B : Nat → Prop) (x : Ast) (lk : Bool) (nv : Nat) : Prop :=
  (lk = false → ∀ (d : Nat) (acc : Int32) (vs : List Int64) (on : List Nat) (S : Es) (σ : Sg) (r : Rf) (K : kS), eH x + D ≤ d → vs.length = nv → pl ≤ nv ∧ nv ≤ 15 → EvA W lst b wy ch fuel dp cn Fr on vs S σ → TrN σ B x r → S.2.2.2.1 ≤ S.1 + 1 → EvK W lst b wy ch fuel dp cn nv on σ (ev W fuel pl cl fu x false acc vs on S) K → B_X23_eval_0 Z d σ r K) ∧
  (lk = true → ∀ (d : Nat) (acc : Int32) (vs : List Int64) (on : List Nat) (S : Es) (σ : Sg) (r : Rf) (K : kS), eH x + D + 1 ≤ d → vs.length = nv → pl ≤ nv ∧ nv ≤ 15 → EvA W lst b wy ch fuel dp cn Fr on vs S σ → TrN σ B x r → S.2.2.2.1 ≤ S.1 → EvK W lst b wy ch fuel dp cn nv on σ (ev W fuel pl cl fu x true acc vs on S) K → B_X23_chained_40 Z d σ acc r K)
theorem eh_1 (hFr : ∀ nv σ τ, EvF dp cn nv σ τ → Fr σ → Fr τ) (hD : 10 ≤ D) (v w : Int) (a b' : Ast) (nv : Nat) (hv : v = (nv : Int)) (h14 : nv ≤ 14) (ia : EvH Z W lst b wy ch fuel dp cn D pl cl fu Fr B a false nv) (ib : EvH Z W lst b wy ch fuel dp cn D pl cl fu Fr B b' false (nv + 1)) : EvH Z W lst b wy ch fuel dp cn D pl cl fu Fr B (aN 1 v w a b' .nil) false nv := by
  refine ⟨fun _ => ?_, fun z => by cases z⟩
  intro d acc vs on S σ r K hd hl hpl A T hb hK
  have hd24 := A.2.1.1.2
  rw [eH_2, eH_nil, if_neg (by decide), if_neg (by decide)] at hd
  have T0 := T
  rw [TrN_aN] at T0
  obtain ⟨x, rfl, -⟩ := T0
  obtain ⟨hs, hF, Ta, -⟩ := T.at
  have h0 : σ.i x 0 = 1 := hF.1 (by decide)
  obtain ⟨d, rfl⟩ : ∃ e, d = e + 3 := ⟨d - 3, by omega⟩
  rw [ev_1] at hK
  refine S_X23_eval_0 A.fx ⟨x, rfl, hs, fun _ => ?_, fun q => absurd (h0.symm.trans q) (by decide), fun q => absurd (h0.symm.trans q) (by decide), fun q => absurd (h0.symm.trans q) (by decide), fun q => absurd (h0.symm.trans q) (by decide), fun q => absurd (h0.symm.trans q) (by decide), fun q => absurd (h0.symm.trans q) (by decide), fun q => absurd (h0.symm.trans q) (by decide), fun q => absurd (h0.symm.trans q) (by decide), fun q => absurd (h0.symm.trans q) (by decide), fun q => absurd (h0.symm.trans q) (by decide), fun q => absurd (h0.symm.trans q) (by decide), fun q => absurd (h0.symm.trans q) (by decide), fun q => absurd (h0.symm.trans q) (by decide), fun q1 q2 q3 q4 q5 q6 q7 q8 q9 q10 q11 q12 q13 q16 => absurd h0 q1⟩
  refine EvK.st A hFr (by omega) hb hK (fun hq τ g A1 K1 => ?_)
  have T1 := TrN.ev A.fx T g hd24
  obtain ⟨hs1, hF1, Ta1, -⟩ := T1.at
  refine ⟨hs1, ia.1 rfl _ 0 vs on _ τ _ _ (by omega) hl hpl A1 Ta1 (by show S.2.2.2.1 ≤ S.1 + 1 + 1; omega) (EvK.bn K1 fun v2 S2 τ2 g2 K2 => ?_)⟩
  have A2 := g2.a A1 hFr (by omega)
  have T2 := TrN.ev A1.fx T1 g2.1 hd24
  obtain ⟨hs2, hF2, -, Tb2, -⟩ := T2.at
  obtain ⟨g3, A3⟩ := A2.push hFr g2.2.2.2.2.1
  have e2 : τ2.i x 2 = Int32.ofNat nv := (hF2.2.1 (Or.inl rfl)).trans (by rw [hv, oI_nn (by omega)]; rfl)
  rw [A2.2.1.1.1, e2]
  refine ⟨ib_oN (by omega) (by decide), hs2, ib_oN (by omega) (by decide), ?_⟩
  rw [oN_t (by omega), oN_t (by omega), ← hl]
  refine ib.1 rfl _ 0 (vs ++ [v2]) on S2 _ _ _ (by omega) (by rw [List.length_append]; show vs.length + 1 = nv + 1; omega) (by omega) A3 ?_ (Nat.le_succ_of_le g2.2.2.2.2.2) ((K2.fr (by rw [← hl]; exact g3)).more (Nat.le_succ _)).tl
  exact TrN.ev A2.fx Tb2 g3 hd24
theorem eh_2 (hFr : ∀ nv σ τ, EvF dp cn nv σ τ → Fr σ → Fr τ) (hD : 10 ≤ D) (v w : Int) (a b' c : Ast) (nv : Nat) (ia : EvH Z W lst b wy ch fuel dp cn D pl cl fu Fr B a false nv) (ib : EvH Z W lst b wy ch fuel dp cn D pl cl fu Fr B b' false nv) (ic : EvH Z W lst b wy ch fuel dp cn D pl cl fu Fr B c false nv) : EvH Z W lst b wy ch fuel dp cn D pl cl fu Fr B (aN 2 v w a b' c) false nv := by
  refine ⟨fun _ => ?_, fun z => by cases z⟩
  intro d acc vs on S σ r K hd hl hpl A T hb hK
  have hd24 := A.2.1.1.2
  rw [eH_2, if_neg (by decide), if_neg (by decide)] at hd
  have T0 := T
  rw [TrN_aN] at T0
  obtain ⟨x, rfl, -⟩ := T0
  obtain ⟨hs, hF, Ta, -⟩ := T.at
  have h0 : σ.i x 0 = 2 := hF.1 (by decide)
  obtain ⟨d, rfl⟩ : ∃ e, d = e + 3 := ⟨d - 3, by omega⟩
  rw [ev_2] at hK
  refine S_X23_eval_0 A.fx ⟨x, rfl, hs, fun q => absurd (h0.symm.trans q) (by decide), fun _ => ?_, fun q => absurd (h0.symm.trans q) (by decide), fun q => absurd (h0.symm.trans q) (by decide), fun q => absurd (h0.symm.trans q) (by decide), fun q => absurd (h0.symm.trans q) (by decide), fun q => absurd (h0.symm.trans q) (by decide), fun q => absurd (h0.symm.trans q) (by decide), fun q => absurd (h0.symm.trans q) (by decide), fun q => absurd (h0.symm.trans q) (by decide), fun q => absurd (h0.symm.trans q) (by decide), fun q => absurd (h0.symm.trans q) (by decide), fun q => absurd (h0.symm.trans q) (by decide), fun q => absurd (h0.symm.trans q) (by decide), fun q1 q2 q3 q4 q5 q6 q7 q8 q9 q10 q11 q12 q13 q16 => absurd h0 q2⟩
  refine EvK.st A hFr (by omega) hb hK (fun hq τ g A1 K1 => ?_)
  have T1 := TrN.ev A.fx T g hd24
  obtain ⟨hs1, hF1, Ta1, -⟩ := T1.at
  refine ⟨hs1, ia.1 rfl _ 0 vs on _ τ _ _ (by omega) hl hpl A1 Ta1 (by show S.2.2.2.1 ≤ S.1 + 1 + 1; omega) (EvK.bn K1 fun v2 S2 τ2 g2 K2 => ?_)⟩
  have A2 := g2.a A1 hFr (by omega)
  have T2 := TrN.ev A1.fx T1 g2.1 hd24
  obtain ⟨hs2, hF2, -, Tb2, Tc2⟩ := T2.at
  refine ⟨fun q => ⟨hs2, ?_⟩, fun q => ⟨hs2, ?_⟩⟩
  · have q : nmV v2 = 0 := q
    rw [if_pos q] at K2
    exact ic.1 rfl _ 0 vs on S2 _ _ _ (by omega) hl hpl A2 Tc2 (Nat.le_succ_of_le g2.2.2.2.2.2) K2.tl
  · have q : ¬ nmV v2 = 0 := q
    rw [if_neg q] at K2
    exact ib.1 rfl _ 0 vs on S2 _ _ _ (by omega) hl hpl A2 Tb2 (Nat.le_succ_of_le g2.2.2.2.2.2) K2.tl
theorem eh_6 (hFr : ∀ nv σ τ, EvF dp cn nv σ τ → Fr σ → Fr τ) (hD : 10 ≤ D) (v w : Int) (a : Ast) (nv : Nat) (ia : EvH Z W lst b wy ch fuel dp cn D pl cl fu Fr B a false nv) : EvH Z W lst b wy ch fuel dp cn D pl cl fu Fr B (aN 6 v w a .nil .nil) false nv := by
  refine ⟨fun _ => ?_, fun z => by cases z⟩
  intro d acc vs on S σ r K hd hl hpl A T hb hK
  have hd24 := A.2.1.1.2
  rw [eH_2, if_neg (by decide), if_neg (by decide)] at hd
  have T0 := T
  rw [TrN_aN] at T0
  obtain ⟨x, rfl, -⟩ := T0
  obtain ⟨hs, hF, Ta, -⟩ := T.at
  have h0 : σ.i x 0 = 6 := hF.1 (by decide)
  obtain ⟨d, rfl⟩ : ∃ e, d = e + 3 := ⟨d - 3, by omega⟩
  rw [ev_6] at hK
  refine S_X23_eval_0 A.fx ⟨x, rfl, hs, fun q => absurd (h0.symm.trans q) (by decide), fun q => absurd (h0.symm.trans q) (by decide), fun q => absurd (h0.symm.trans q) (by decide), fun q => absurd (h0.symm.trans q) (by decide), fun q => absurd (h0.symm.trans q) (by decide), fun _ => ?_, fun q => absurd (h0.symm.trans q) (by decide), fun q => absurd (h0.symm.trans q) (by decide), fun q => absurd (h0.symm.trans q) (by decide), fun q => absurd (h0.symm.trans q) (by decide), fun q => absurd (h0.symm.trans q) (by decide), fun q => absurd (h0.symm.trans q) (by decide), fun q => absurd (h0.symm.trans q) (by decide), fun q => absurd (h0.symm.trans q) (by decide), fun q1 q2 q3 q4 q5 q6 q7 q8 q9 q10 q11 q12 q13 q16 => absurd h0 q6⟩
  refine EvK.st A hFr (by omega) hb hK (fun hq τ g A1 K1 => ?_)
  have T1 := TrN.ev A.fx T g hd24
  obtain ⟨hs1, hF1, Ta1, -⟩ := T1.at
  refine ⟨hs1, ia.1 rfl _ 0 vs on _ τ _ _ (by omega) hl hpl A1 Ta1 (by show S.2.2.2.1 ≤ S.1 + 1 + 1; omega) (EvK.bn K1 fun v2 S2 τ2 g2 K2 => ?_)⟩
  have A2 := g2.a A1 hFr (by omega)
  refine ⟨_, (fx_at A2.fx).1, ?_⟩
  have g3 : EvF dp cn nv τ2 (τ2.wl 0 78 v2) := EvF.wl (by unfold evL; omega)
  exact K2.fa g3 (A2.1.sm (SmW.wl (Or.inl rfl)) A2.fx) (A2.2.1.keep rfl rfl (wl_ne (by decide)) A2.2.1.2.2.2.1 A2.2.1.2.2.2.2.1 rfl rfl rfl rfl rfl) A2.2.2.2.2 g2.2.2.2.2.1 wl_eq g2.2.2.2.2.2
theorem eh_16 (hFr : ∀ nv σ τ, EvF dp cn nv σ τ → Fr σ → Fr τ) (hD : 10 ≤ D) (hmk : 1 ∈ mkW W.1) (v w : Int) (a : Ast) (nv : Nat) (ia : EvH Z W lst b wy ch fuel dp cn D pl cl fu Fr B a false nv) : EvH Z W lst b wy ch fuel dp cn D pl cl fu Fr B (aN 16 v w a .nil .nil) false nv := by
  refine ⟨fun _ => ?_, fun z => by cases z⟩
  intro d acc vs on S σ r K hd hl hpl A T hb hK
  have hd24 := A.2.1.1.2
  rw [eH_2, if_neg (by decide), if_neg (by decide)] at hd
  have T0 := T
  rw [TrN_aN] at T0
  obtain ⟨x, rfl, -⟩ := T0
  obtain ⟨hs, hF, Ta, -⟩ := T.at
  have h0 : σ.i x 0 = 16 := hF.1 (by decide)
  obtain ⟨d, rfl⟩ : ∃ e, d = e + 3 := ⟨d - 3, by omega⟩
  rw [ev_16] at hK
  refine S_X23_eval_0 A.fx ⟨x, rfl, hs, fun q => absurd (h0.symm.trans q) (by decide), fun q => absurd (h0.symm.trans q) (by decide), fun q => absurd (h0.symm.trans q) (by decide), fun q => absurd (h0.symm.trans q) (by decide), fun q => absurd (h0.symm.trans q) (by decide), fun q => absurd (h0.symm.trans q) (by decide), fun q => absurd (h0.symm.trans q) (by decide), fun q => absurd (h0.symm.trans q) (by decide), fun q => absurd (h0.symm.trans q) (by decide), fun q => absurd (h0.symm.trans q) (by decide), fun q => absurd (h0.symm.trans q) (by decide), fun q => absurd (h0.symm.trans q) (by decide), fun q => absurd (h0.symm.trans q) (by decide), fun _ => ?_, fun q1 q2 q3 q4 q5 q6 q7 q8 q9 q10 q11 q12 q13 q16 => absurd h0 q16⟩
  refine EvK.st A hFr (by omega) hb hK (fun hq τ g A1 K1 => ?_)
  have T1 := TrN.ev A.fx T g hd24
  obtain ⟨hs1, hF1, Ta1, -⟩ := T1.at
  refine ⟨hs1, ia.1 rfl _ 0 vs on _ τ _ _ (by omega) hl hpl A1 Ta1 (by show S.2.2.2.1 ≤ S.1 + 1 + 1; omega) (EvK.bn K1 fun v2 S2 τ2 g2 K2 => ?_)⟩
  have A2 := g2.a A1 hFr (by omega)
  refine rf_value A2.fx ?_
  exact K2.vl (EvF.refl _ _ _ _) A2.1 A2.2.1 A2.2.2.2.2 ⟨1, _, rfl, hmk⟩ g2.2.2.2.2.2
end EVAL

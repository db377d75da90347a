/-! THE CLASS: SPECs, whole; a method is opened -/
section SQ
variable {Z : zT} {d : Nat} {t : Nat → Int32} {n N m : Nat} {B : Nat × Nat × Nat × Nat × Nat} {C : Nat × Nat × Nat × Nat} {W : Wld} {σ τ υ : Sg} {K : kS} {vs : List (List Int32)} {R : HR}
theorem BdS.v0 (h : BdS t n N vs R σ) : BdS t n N [] R (σ.wi 28 3 0) := by
  have e : ∀ j, (σ.wi 28 3 0).i 40 j = σ.i 40 j := fun j => wi_ne (by omega)
  rcases R with q | ⟨p, es⟩
  · obtain ⟨⟨b1, b2, b3⟩, b4, b5⟩ := h
    exact ⟨⟨(e 3).trans b1, (e 4).trans b2, b3⟩, wi_eq, by decide⟩
  · obtain ⟨⟨⟨i, i1, i2, i3⟩, b2⟩, ⟨b4, b5, b6⟩, ru, hev⟩ := h
    refine ⟨⟨⟨i, i1, (e 3).trans i2, i3⟩, (e 4).trans b2⟩, ⟨wi_eq, by decide, fun k nm hk _ => by cases hk⟩, ?_, hev⟩
    unfold RuC at ru ⊢
    rw [e 5, e 6]
    exact ru
theorem HdF.w28 {v : Int32} : HdF σ (σ.wi 28 3 v) := ⟨rfl, rfl, fun a k _ q => wi_ne q, fun _ _ _ => rfl⟩
/-- dead: one turn, and out -/
theorem ss_dead {wn q : Nat} {o w : Int} (hm : m < 122) (hwn : 1 ≤ wn ∧ wn ≤ 3) (ho : -1 ≤ o ∧ o < 24) (hB : HB t n N B C W σ) (hC : C.2.1 = 25 ∨ 102 ≤ C.2.1) (h8 : σ.i 40 8 = Int32.ofInt o) (h : BdS t n N [] (.inl q) σ) (kd : ∀ τ vs', SpF m σ τ → vs'.length ≤ 3 → BdS t n N vs' (.inl q) τ → K (.inl none) τ) : C_X7_readSpecs_47 Z (d + 4) σ (Int32.ofNat m) (Int32.ofNat wn) 1 (Int32.ofNat 0) (Int32.ofNat 0) K := by
  have hB' := hB
  obtain ⟨fx, sa, ss, ⟨nn, hN1⟩, -⟩ := hB'
  have hcc := sa.2.2.2.2.2.2.2.2.2
  refine T_X7_readSpecs_47 fx ?_
  rw [ss.1, oN_le (by omega) (by omega), oN_eq (by decide) (by omega)]
  refine ⟨fun z => absurd z (by omega), fun _ => ⟨fun z => absurd z (by decide), fun _ => ⟨fun z => T_X7_readSpecs_78 fx ?_, fun z => absurd z (by omega)⟩⟩⟩
  rw [oN_le (by omega) (by omega)]
  refine ⟨fun z => absurd z (by omega), fun _ => ss_92 (w := w) (k := 0) hm (by decide) (Or.inl rfl) (fun p es e => by cases e) (by decide) hB hC h (fun τ vs' q' e f lv b => ?_) (fun τ vs' p es p2 e1 e2 s e => by cases e)⟩
  have eq : q = q' := Sum.inl.inj e
  subst eq
  have hB2 := hB.sp f hC
  refine ss_end hB2.1 (ss_129 (k := 1) (o := o) hwn.2 rfl (by omega) ho ((f.2.2.1 40 8 (by omega) (by omega) (by omega)).trans h8) hB2 b (fun τ3 f3 b3 => kd τ3 vs' (f.tr (f3.sp m)) ?_ b3))
  rcases lv with lv | ⟨-, lv⟩
  · have : ([] : List (List Int32)).length = 0 := rfl
    omega
  · have : ([] : List (List Int32)).length = 0 := rfl
    omega
/-- all SPECs, R dead or at the sign before -/
theorem cl_specs {wn : Nat} {o w : Int} {es0 esP : Evs} (hm : m < 122) (hwn : 1 ≤ wn ∧ wn ≤ 3) (ho : -1 ≤ o ∧ o < W.2.1.length) (hpl : 0 ≤ o → ∃ x, W.2.1[o.toNat]? = some x ∧ x.2.1 = wn) (h3 : o = -1 → wn = 3) (hB : HB t n N B C W σ) (hC : C.2.1 = 25 ∨ 102 ≤ C.2.1) (h8 : σ.i 40 8 = Int32.ofInt o) (h : BdS t n N vs R σ) (kd0 : ∀ τ vs' q, R = .inl q → SpF m σ τ → vs'.length ≤ 3 → BdS t n N vs' (.inl q) τ → K (.inl none) τ) (kd : ∀ τ vs' p Ec q, R = .inr (p, Ec) → (tyS t n p = 4 → pSp t n (enW W.1 W.2.1 W.2.2.1 w) (if 0 ≤ o then wn else 0) (n + 1 - nxS t n p) (nxS t n p) 0 [] esP [] = .inl q) → (¬ tyS t n p = 4 → q = p) → SpF m σ τ → vs'.length ≤ 3 → BdS t n N vs' (.inl q) τ → K (.inl none) τ) (kl : ∀ τ vs' p Ec Ec' p' V esP' acc', R = .inr (p, Ec) → tyS t n p = 4 → pSp t n (enW W.1 W.2.1 W.2.2.1 w) (if 0 ≤ o then wn else 0) (n + 1 - nxS t n p) (nxS t n p) 0 [] esP [] = .inr (p', V, esP', acc') → SpF m σ τ → (∀ nm ∈ vs', nm ≠ []) → vs'.length ≤ 3 → BdS t n N vs' (.inr (p', Ec')) τ → EqB p' Ec' (es0 ++ esP') → (Ec' = [] → vs' = V ∧ acc'.length = wn ∧ SpL m acc' τ) → K (.inl none) τ) (hE : ∀ p Ec, R = .inr (p, Ec) → EqB p Ec (es0 ++ esP) ∧ (Ec = [] → 0 ≤ o ∧ SpL m [] σ)) : C_X7_readSpecs_0 Z (d + 4) σ (Int32.ofNat m) K := by
  have l24 := hB.2.2.2.2.2.2.2.1.2.1
  have c5 := hB.2.2.2.2.2.2.2.1.2.2.2.2
  have oi : 0 ≤ Int32.ofInt o ↔ 0 ≤ o := by
    rw [Int32.le_iff_toInt_le, Int32.toInt_ofInt, show Int32.size = 4294967296 from rfl, Int.bmod_eq_of_le (by omega) (by omega)]
    exact Iff.rfl
  -- with so many wanted
  have go : C_X7_readSpecs_23 Z (d + 4) σ (Int32.ofNat m) (Int32.ofNat wn) K := by
    have f0 : HdF σ (σ.wi 28 3 0) := HdF.w28
    have hB0 := hB.hd f0
    refine T_X7_readSpecs_23 hB.1 (h_take (y := 4) (by decide) hB0 h.v0 (fun τ1 f1 b1 => ?_))
    have f01 : HdF σ τ1 := f0.tr f1
    have hB1 := hB.hd f01
    have h81 : τ1.i 40 8 = Int32.ofInt o := (f01.2.2.1 40 8 (by omega) (by omega)).trans h8
    rcases R with q | ⟨p, Ec⟩
    · exact ss_dead (w := w) hm hwn (by omega) hB1 hC h81 b1 (fun τ vs' f lv b => kd0 τ vs' q rfl ((f01.sp m).tr f) lv b)
    · obtain ⟨hE1, hE2⟩ := hE p Ec rfl
      by_cases z : tyS t n p = 4
      · have e : htk t n 4 (.inr (p, Ec)) = .inr (nxS t n p, Ec) := if_pos z
        rw [e] at b1
        have hx := nx_le (t := t) (n := n) (p := p) (by omega)
        obtain ⟨i, i1, i2, -, i4⟩ := b1.pos hB1
        refine ss_47 (w := w) (es0 := es0) hm hwn (by omega) hB1 hC h81 (n + 1 - nxS t n p) (nxS t n p) 0 [] [] Ec esP [] τ1 i (Nat.le_refl _) (SpF.refl _ _) b1 i2 i1 (i4 _ _ rfl) (Nat.zero_le _) (fun nm hn => by cases hn) ⟨Nat.zero_le _, Nat.zero_le _⟩ (hE1.wk (by omega)) (fun y => ?_) (fun τ vs' q e f lv b => kd τ vs' p Ec q rfl (fun _ => e) (fun y => absurd z y) ((f01.sp m).tr f) lv b) (fun τ vs' Ec' p' V esP' acc' e f hj lv b hE' hA => kl τ vs' p Ec Ec' p' V esP' acc' rfl z e ((f01.sp m).tr f) hj lv b hE' hA)
        obtain ⟨a1, a2⟩ := hE2 y
        refine ⟨a1, rfl, rfl, rfl, fun j hj => ?_⟩
        obtain ⟨s1, s2, s3⟩ := a2 j hj
        exact ⟨(f01.2.2.1 15 _ (by omega) (by omega)).trans s1, (f01.2.2.1 16 _ (by omega) (by omega)).trans s2, (f01.2.2.1 17 _ (by omega) (by omega)).trans s3⟩
      · have e : htk t n 4 (.inr (p, Ec)) = .inl p := if_neg z
        rw [e] at b1
        exact ss_dead (w := w) hm hwn (by omega) hB1 hC h81 b1 (fun τ vs' f lv b => kd τ vs' p Ec p rfl (fun y => absurd y z) (fun _ => rfl) ((f01.sp m).tr f) lv b)
  refine T_X7_readSpecs_0 hB.1 ?_
  rw [h8, oi]
  refine ⟨fun z => ?_, fun z => ?_⟩
  · obtain ⟨x, x1, x2⟩ := hpl z
    have eo : Int32.ofInt o = Int32.ofNat o.toNat := by
      have : ((o.toNat : Nat) : Int) = o := Int.toNat_of_nonneg z
      show Int32.ofInt o = Int32.ofInt (o.toNat : Int)
      rw [this]
    rw [eo, oN_t (by omega), (c5 _ x x1).1, x2]
    exact ⟨ib_oN (by omega) (by omega), go⟩
  · have := h3 (by omega)
    subst this
    exact go
/-- what opening a method writes -/
def OpF (m : Nat) (σ τ : Sg) : Prop := τ.sh = σ.sh ∧ τ.r = σ.r ∧ (∀ a j, ¬ ((a = 11 ∨ a = 12 ∨ a = 13 ∨ a = 18) ∧ j = m) → ¬ ((a = 15 ∨ a = 16 ∨ a = 17) ∧ j / 3 = m) → τ.i a j = σ.i a j) ∧ ∀ a j, ¬ (a = 23 ∧ j = m) → τ.l a j = σ.l a j
theorem cl_openM {v : Int32} (F : FX ΦC σ.sh σ.r) (hm : m < 122) (k : ∀ τ, OpF m σ τ → τ.i 11 m = v → τ.i 12 m = 0 → τ.i 13 m = -1 → τ.i 18 m = 0 → τ.l 23 m = -1 → SpL m [] τ → K (.inl none) τ) : C_X5_open_0 Z (d + 1) σ (Int32.ofNat m) v K := by
  have go : ∀ r j τ, 3 - j = r → j ≤ 3 → OpF m σ τ → τ.i 11 m = v → τ.i 12 m = 0 → τ.i 13 m = -1 → τ.i 18 m = 0 → τ.l 23 m = -1 → (∀ i, i < j → SpC τ m i (0, false, 0)) → C_X5_open_39 Z (d + 1) τ (Int32.ofNat m) (Int32.ofNat j) K := by
    intro r
    induction r with
    | zero =>
      intro j τ hr hj g a1 a2 a3 a4 a5 hS
      refine T_X5_open_39 (by rw [g.1, g.2.1]; exact F) ?_
      rw [show (3 : Int32) = Int32.ofNat 3 from rfl, oN_le (by decide) (by omega)]
      refine ⟨fun _ => k τ g a1 a2 a3 a4 a5 (fun i hi => hS i (by omega)), fun z => absurd (by omega) z⟩
    | succ r ih =>
      intro j τ hr hj g a1 a2 a3 a4 a5 hS
      refine T_X5_open_39 (by rw [g.1, g.2.1]; exact F) ?_
      rw [show (3 : Int32) = Int32.ofNat 3 from rfl, oN_le (by decide) (by omega), oN_mul, oN_add, oN_t (by omega), oN_1, show m * 3 + j = 3 * m + j by omega]
      refine ⟨fun z => absurd z (by omega), fun _ => ⟨ib_oN (by omega) (by omega), ib_oN (by omega) (by omega), ib_oN (by omega) (by omega), ?_⟩⟩
      show C_X5_open_39 Z (d + 1) (((τ.wi 15 (3 * m + j) 0).wi 16 (3 * m + j) 0).wi 17 (3 * m + j) 0) (Int32.ofNat m) (Int32.ofNat (j + 1)) K
      have gi : ∀ a i, ¬ ((a = 15 ∨ a = 16 ∨ a = 17) ∧ i = 3 * m + j) → (((τ.wi 15 (3 * m + j) 0).wi 16 (3 * m + j) 0).wi 17 (3 * m + j) 0).i a i = τ.i a i := fun a i q => (wi_ne (by omega)).trans ((wi_ne (by omega)).trans (wi_ne (by omega)))
      refine ih (j + 1) _ (by omega) (by omega) ⟨g.1, g.2.1, fun a i q1 q2 => (gi a i (fun z => q2 ⟨z.1, by omega⟩)).trans (g.2.2.1 a i q1 q2), g.2.2.2⟩ ((gi 11 m (by omega)).trans a1) ((gi 12 m (by omega)).trans a2) ((gi 13 m (by omega)).trans a3) ((gi 18 m (by omega)).trans a4) a5 (fun i hi => ?_)
      by_cases y : i = j
      · subst y
        exact ⟨(wi_ne (by omega)).trans ((wi_ne (by omega)).trans wi_eq), (wi_ne (by omega)).trans wi_eq, wi_eq⟩
      · obtain ⟨s1, s2, s3⟩ := hS i (by omega)
        exact ⟨(gi 15 _ (by omega)).trans s1, (gi 16 _ (by omega)).trans s2, (gi 17 _ (by omega)).trans s3⟩
  refine T_X5_open_0 F ⟨ib_oN hm (by decide), ib_oN hm (by decide), ib_oN hm (by decide), ib_oN hm (by decide), ib_oN hm (by decide), ?_⟩
  rw [oN_t (by omega)]
  have gi : ∀ a i, ¬ ((a = 11 ∨ a = 12 ∨ a = 13 ∨ a = 18) ∧ i = m) → (((((σ.wi 11 m v).wi 12 m 0).wi 13 m (-1)).wi 18 m 0).wl 23 m (-1)).i a i = σ.i a i := fun a i q => (wi_ne (σ := ((σ.wi 11 m v).wi 12 m 0).wi 13 m (-1)) (by omega)).trans ((wi_ne (by omega)).trans ((wi_ne (by omega)).trans (wi_ne (by omega))))
  refine go 3 0 _ rfl (by decide) ⟨rfl, rfl, fun a i q1 _ => gi a i q1, fun a i q => wl_ne (σ := (((σ.wi 11 m v).wi 12 m 0).wi 13 m (-1)).wi 18 m 0) q⟩ ?_ ?_ ?_ ?_ (wl_eq (σ := (((σ.wi 11 m v).wi 12 m 0).wi 13 m (-1)).wi 18 m 0)) (fun i hi => by omega)
  · exact (wi_ne (σ := ((σ.wi 11 m v).wi 12 m 0).wi 13 m (-1)) (a := 18) (k := m) (v := 0) (by omega)).trans ((wi_ne (by omega)).trans ((wi_ne (by omega)).trans wi_eq))
  · exact (wi_ne (σ := ((σ.wi 11 m v).wi 12 m 0).wi 13 m (-1)) (a := 18) (k := m) (v := 0) (by omega)).trans ((wi_ne (by omega)).trans wi_eq)
  · exact (wi_ne (σ := ((σ.wi 11 m v).wi 12 m 0).wi 13 m (-1)) (a := 18) (k := m) (v := 0) (by omega)).trans wi_eq
  · exact wi_eq (σ := ((σ.wi 11 m v).wi 12 m 0).wi 13 m (-1))
end SQ

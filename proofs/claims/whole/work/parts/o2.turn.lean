/-! THE CLASS: a turn of the machine -/
/-- what a turn does, once its steps are counted -/
def PfO (Z : zT) (d : Nat) (K : kS) (fuel tn : Nat) (op arg : Int32) (τ : Sg) : Prop :=
  (op = 20 → C_X4_pop_0 Z (d + 8) τ (yL K fun v τ1 => C_X4_failWith_0 Z (d + 8) τ1 v (yN K fun τ2 => C_X4_perform_257 Z (d + 9) τ2 (Int32.ofNat fuel) (Int32.ofNat tn) K))) ∧
  (op = 22 → ib arg 24 ∧ C_X4_takeGiven_0 Z (d + 8) τ (τ.i 31 arg.toNatClampNeg) (yN K fun τ1 => C_X0_choose_0 Z (d + 8) τ1 arg 95 (τ1.i 83 6 + 1) (τ1.l 83 10) (yI K fun v τ2 => C_X4_beginCall_0 Z (d + 8) τ2 v (yN K fun τ3 => C_X4_perform_257 Z (d + 9) τ3 (Int32.ofNat fuel) (Int32.ofNat tn) K)))) ∧
  (op = 23 → C_X4_goToNext_0 Z (d + 8) τ 0 (yN K fun τ1 => C_X4_perform_257 Z (d + 9) τ1 (Int32.ofNat fuel) (Int32.ofNat tn) K)) ∧
  (op = 24 → C_X4_goToNext_0 Z (d + 8) τ 1 (yN K fun τ1 => C_X4_perform_257 Z (d + 9) τ1 (Int32.ofNat fuel) (Int32.ofNat tn) K)) ∧
  (op = 25 → C_X4_pop_0 Z (d + 8) τ (yL K fun v τ1 => C_X4_endMethod_0 Z (d + 8) τ1 v (yN K fun τ2 => C_X4_perform_257 Z (d + 9) τ2 (Int32.ofNat fuel) (Int32.ofNat tn) K))) ∧
  (¬ op = 20 → ¬ op = 22 → ¬ op = 23 → ¬ op = 24 → ¬ op = 25 → C_X4_obey_0 Z (d + 8) τ op arg (yN K fun τ1 => C_X4_perform_257 Z (d + 9) τ1 (Int32.ofNat fuel) (Int32.ofNat tn) K))
section TURN
variable {Z : zT} {d : Nat} {C V V' V2 : Nat × Nat × Nat × Nat} {W : Wld} {wy a0 ch U fuel : Nat} {f : Fc} {S : Es} {k P dp tn j nv hm : Nat} {lt : Int32} {on : List Nat} {stk vs args : List Int64} {σ τ υ : Sg} {K Kx : kS} {N : Nat → Prop} {op arg : Int32} {n m : Nat}
theorem pf_go (A : McA C W wy a0 ch U f fuel V S k P dp lt on stk tn j σ) (hP : P < C.1) (hf : f.1 P = op ∧ f.2.1 P = arg ∧ f.2.2 P = Int32.ofNat n) (hn : n = k + m) (hm : m ≤ 1)
    (h1 : fuel < S.1 + m → ∀ τ, XF (fun a => a = 83) σ τ → (τ.i 83 14 = Int32.ofNat fuel ∧ τ.i 83 11 = 4 ∧ τ.i 83 12 = 0) → (τ.i 83 16 = σ.i 83 16 ∧ τ.i 83 18 = σ.i 83 18) → K (.inl none) τ)
    (h0 : S.1 + m ≤ fuel → ∀ τ, XF (fun a => a = 83) σ τ → McA C W wy a0 ch U f fuel V (S.1 + m, S.2) 0 (P + 1) dp lt on stk tn (j + 3 * m) τ → PfO Z d K fuel tn op arg τ) : C_X4_perform_16 Z (d + 9) σ (Int32.ofNat fuel) (Int32.ofNat tn) K := by
  obtain ⟨a1, a2, ⟨a7, ⟨s, a14, as⟩, ⟨a6, a6'⟩, a8, a9, a11, a10, al, ast⟩, ⟨af, af'⟩, at1, at2⟩ := A
  have F := a1.fx
  obtain ⟨b1, b2, ⟨⟨c0r, c0s⟩, ⟨c1r, c1s⟩, ⟨c2r, c2s⟩, cne, c0, c1, c2, cl⟩, ⟨f0, f1, f2⟩, b5⟩ := id a1
  have fin : fuel < S.1 + m → C_X4_finish_0 Z (d + 8) (σ.wi 83 14 (Int32.ofNat fuel)) 4 0 0 (yN K fun τ1 => K (.inl none) τ1) := fun q => by
    refine T_X4_finish_0 F ⟨⟨by first | rfl | decide, by first | rfl | decide⟩, ?_⟩
    refine h1 q _ (((((XF.refl (fun a => a = 83) σ).wi (a := 83) rfl).wi (a := 83) rfl).wi (a := 83) rfl).wl (a := 83) rfl) ⟨?_, ?_, ?_⟩ ⟨?_, ?_⟩
    · show (Sg.wi (Sg.wi (Sg.wi σ 83 14 (Int32.ofNat fuel)) 83 11 4) 83 12 0).i 83 14 = _
      rw [wi_ne (by decide), wi_ne (by decide), wi_at]
    · show (Sg.wi (Sg.wi (Sg.wi σ 83 14 (Int32.ofNat fuel)) 83 11 4) 83 12 0).i 83 11 = _
      rw [wi_ne (by decide), wi_at]
    · show (Sg.wi (Sg.wi (Sg.wi σ 83 14 (Int32.ofNat fuel)) 83 11 4) 83 12 0).i 83 12 = _
      rw [wi_at]
    · show (Sg.wi (Sg.wi (Sg.wi σ 83 14 (Int32.ofNat fuel)) 83 11 4) 83 12 0).i 83 16 = _
      rw [wi_ne (by decide), wi_ne (by decide), wi_ne (by decide)]
    · show (Sg.wi (Sg.wi (Sg.wi σ 83 14 (Int32.ofNat fuel)) 83 11 4) 83 12 0).i 83 18 = _
      rw [wi_ne (by decide), wi_ne (by decide), wi_ne (by decide)]
  have e0 : σ.i C.2.1 P = op := by rw [f0]; exact hf.1
  have e1 : σ.i C.2.2.1 P = arg := by rw [f1]; exact hf.2.1
  have e2 : σ.i C.2.2.2 P = Int32.ofNat n := by rw [f2]; exact hf.2.2
  refine T_X4_perform_16 F ⟨fun z => absurd z ?_, fun _ => ⟨fun z => absurd z ?_, fun _ => ⟨fun z => absurd z ?_, fun _ => ⟨C.2.1, c0r, C.1, c0s, fun z => absurd z ?_, fun _ => ⟨C.2.2.2, c2r, C.1, c2s, ?_⟩⟩⟩⟩⟩
  · rw [show (10000000 : Int32) = Int32.ofNat 10000000 from rfl, oN_le (by decide) (by omega)]
    omega
  · rw [a11]
    decide
  · rw [a7, show Int32.ofNat P < 0 ↔ P < 0 from oN_lt (b := 0) (by omega) (by decide)]
    omega
  · rw [a7, oN_le (by omega) (by omega)]
    omega
  · rw [a7, a14, oN_t (by omega), e2, oN_add, oN_le (by omega) (by omega), oN_1]
    refine ⟨ib_oN hP (by omega), fun z => ⟨C.2.2.2, c2r, C.1, c2s, ib_oN hP (by omega), C.2.1, c0r, C.1, c0s, ib_oN hP (by omega), C.2.2.1, c1r, C.1, c1s, ib_oN hP (by omega), ?_⟩, fun z => fin (by omega)⟩
    rw [e2, oN_add]
    obtain ⟨τ, hτ⟩ : ∃ y, y = ((σ.wi 83 14 (Int32.ofNat (s + n))).wi 83 7 (Int32.ofNat (P + 1))) := ⟨_, rfl⟩
    have x83 : XF (fun a => a = 83) σ τ := by
      rw [hτ]
      exact ((XF.refl (fun a => a = 83) σ).wi (a := 83) rfl).wi (a := 83) rfl
    have ei : ∀ jj, jj ≠ 7 → jj ≠ 14 → τ.i 83 jj = σ.i 83 jj := fun jj q1 q2 => by
      rw [hτ, wi_ne (by omega), wi_ne (by omega)]
    have el : τ.l = σ.l := by rw [hτ]; rfl
    have A1 : McA C W wy a0 ch U f fuel V (S.1 + m, S.2) 0 (P + 1) dp lt on stk tn (j + 3 * m) τ := by
      have e84 : τ.i 84 = σ.i 84 := (x83.2.2 84 (by decide)).1
      refine ⟨a1.xf (x83.mono (fun a q => Or.inl q)), a2.keep (by rw [e84]) (ei 16 (by decide) (by decide)) (ei 18 (by decide) (by decide)) (x83.2.2 96 (by decide)).1 (x83.2.2 97 (by decide)).1, ⟨?_, ⟨s + n, ?_, ?_⟩, ⟨(ei 6 (by decide) (by decide)).trans a6, a6'⟩, (ei 8 (by decide) (by decide)).trans a8, (ei 9 (by decide) (by decide)).trans a9, (ei 11 (by decide) (by decide)).trans a11, by rw [el]; exact a10, al, ?_⟩, ⟨?_, af'⟩, at1, ?_⟩
      · rw [hτ, wi_at]
      · rw [hτ, wi_ne (by decide), wi_at]
      · show s + n + 0 = S.1 + m
        omega
      · unfold StkS
        rw [ei 5 (by decide) (by decide), el]
        exact ast
      · show S.1 + m ≤ fuel
        omega
      · show tn + (j + 3 * m) ≤ 3 * (S.1 + m)
        omega
    obtain ⟨w20, w22, w23, w24, w25, w0⟩ := h0 (by omega) τ x83 A1
    have t0 : τ.i C.2.1 P = op := by rw [(x83.2.2 C.2.1 (by omega)).1]; exact e0
    have t1 : τ.i C.2.2.1 P = arg := by rw [(x83.2.2 C.2.2.1 (by omega)).1]; exact e1
    have t31 : σ.i 31 = τ.i 31 := (x83.2.2 31 (by decide)).1.symm
    rw [← hτ, t0, t1, t31]
    have Fτ := x83.fx F
    refine ⟨w20, w22, fun q => ⟨fun _ => T_X4_perform_221 Fτ (w23 q), fun q' => ?_⟩, fun q => ⟨fun q' => absurd q q', fun _ => T_X4_perform_221 Fτ (w24 q)⟩, w25, w0⟩
    rw [q] at q'
    exact absurd q' (by decide)
/-- what becomes of a run of the machine: a value on the stack, or failed, or ended -/
def McQ (Z : zT) (d : Nat) (C : Nat × Nat × Nat × Nat) (W : Wld) (wy a0 ch U : Nat) (f : Fc) (fuel hm : Nat) (N : Nat → Prop) (V : Nat × Nat × Nat × Nat) (σ : Sg) (dp : Nat) (stk : List Int64) (on : List Nat) (lt : Int32) (P j : Nat) (r : Rs × Es) (K : kS) : Prop := match r with
  | (.inl v, S) => ∀ V' τ tn, MFr hm N V V' σ τ → McA C W wy a0 ch U f fuel V' S 0 P dp lt on (stk ++ [v]) tn (j + 1) τ → VlG W v → C_X4_perform_16 Z (d + 9) τ (Int32.ofNat fuel) (Int32.ofNat tn) K
  | (.inr (.inl v), S) => ∀ V' τ tn, MFr hm N V V' σ τ → MbS C W wy a0 ch U f V' τ → MeS S τ → (τ.i 83 14 = Int32.ofNat S.1 ∧ τ.i 83 8 = lt ∧ τ.i 83 11 = -1 ∧ ∀ (i : Nat) y, stk[i]? = some y → τ.l 93 i = y) → (S.1 ≤ fuel ∧ fuel ≤ 100000 ∧ S.2.2.2.1 ≤ tn ∧ tn + j ≤ 3 * S.1) → VlG W v → ∀ Kx : kS, (∀ τ', FX ΦC τ'.sh τ'.r → τ'.i 83 9 = 0 → C_X4_perform_16 Z (d + 9) τ' (Int32.ofNat fuel) (Int32.ofNat tn) K → Kx (.inl none) τ') → C_X4_failWith_0 Z (d + 8) τ v Kx
  | (.inr (.inr n), S) => ∀ V' τ, MFr hm N V V' σ τ → MbS C W wy a0 ch U f V' τ → MeS S τ → (τ.i 83 14 = Int32.ofNat S.1 ∧ τ.i 83 11 = Int32.ofNat n ∧ τ.i 83 12 = 0 ∧ (n = 4 ∨ n = 5)) → (S.1 ≤ fuel ∧ S.2.2.2.1 ≤ 3 * S.1) → K (.inl none) τ
theorem McQ.fr {r : Rs × Es} (h : McQ Z d C W wy a0 ch U f fuel hm N V σ dp stk on lt P j r K) (g : MFr hm N V V' σ τ) : McQ Z d C W wy a0 ch U f fuel hm N V' τ dp stk on lt P j r K := by
  rcases r with ⟨v | v | v, S⟩
  · exact fun V2 υ tn q => h V2 υ tn (g.tr q)
  · exact fun V2 υ tn q => h V2 υ tn (g.tr q)
  · exact fun V2 υ q => h V2 υ (g.tr q)
theorem McQ.more {hm' : Nat} {N' : Nat → Prop} {r : Rs × Es} (h : McQ Z d C W wy a0 ch U f fuel hm N V σ dp stk on lt P j r K) (h1 : hm ≤ hm') (h2 : ∀ j, N j → N' j) : McQ Z d C W wy a0 ch U f fuel hm' N' V σ dp stk on lt P j r K := by
  rcases r with ⟨v | v | v, S⟩
  · exact fun V2 υ tn q => h V2 υ tn (q.mono h1 h2)
  · exact fun V2 υ tn q => h V2 υ tn (q.mono h1 h2)
  · exact fun V2 υ q => h V2 υ (q.mono h1 h2)
theorem pf_257 (F : FX ΦC σ.sh σ.r) (h9 : σ.i 83 9 = 0) (h : C_X4_perform_16 Z (d + 9) σ (Int32.ofNat fuel) (Int32.ofNat (tn + 1)) K) : C_X4_perform_257 Z (d + 9) σ (Int32.ofNat fuel) (Int32.ofNat tn) K := by
  refine T_X4_perform_257 F ⟨fun _ => ?_, fun z => absurd h9 z⟩
  rw [oN_1]
  exact h
/-- a fault -/
theorem pf_fault {q : Nat} {stk' : List Int64} (A : McA C W wy a0 ch U f fuel V S 0 P dp lt on (stk ++ stk') tn (j + 1) σ) (hq : 1 ≤ q ∧ q ≤ 4) (h2 : 2 ∈ mkW W.1) {dp' P' hm : Nat} {on' : List Nat} {V0 : Nat × Nat × Nat × Nat} {σ0 : Sg} (h : McQ Z d C W wy a0 ch U f fuel hm N V0 σ0 dp' stk on' lt P' j (faR (Int32.ofNat q) S) K) (g : MFr hm N V0 V σ0 σ) : C_X4_perform_257 Z (d + 9) (σ.wi 83 9 (Int32.ofNat q)) (Int32.ofNat fuel) (Int32.ofNat tn) K := by
  obtain ⟨a1, a2, ⟨a7, ⟨s, a14, as⟩, ⟨a6, a6'⟩, a8, a9, a11, a10, al, ast⟩, ⟨af, af'⟩, at1, at2⟩ := A
  have x : XF mE σ (σ.wi 83 9 (Int32.ofNat q)) := (XF.refl _ _).wi (Or.inl rfl)
  refine T_X4_perform_257 (x.fx a1.fx) ?_
  rw [wi_at]
  refine ⟨fun z => absurd z ?_, fun _ => T_X4_valueOf_0 (x.fx a1.fx) ?_⟩
  · rw [show (0 : Int32) = Int32.ofNat 0 from rfl, oN_eq (by omega) (by decide)]
    omega
  · have ss : s = S.1 := by omega
    refine h V _ (tn + 1) (g.tr (x.mf _ _ (fun _ _ => rfl))) (a1.xf x) (a2.keep (wi_ne (by decide)) (wi_ne (by decide)) (wi_ne (by decide)) (wi_row (by decide)) (wi_row (by decide))) ⟨?_, (wi_ne (by decide)).trans a8, (wi_ne (by decide)).trans a11, fun i y hy => ?_⟩ ⟨af, af', by omega, by omega⟩ ⟨2, Int32.ofNat q, rfl, h2⟩ _ (fun τ' F' _ w => ?_)
    · rw [wi_ne (by decide), a14, ss]
    · exact ast.2 i y (by rw [List.getElem?_append_left (List.getElem?_eq_some_iff.mp hy).1]; exact hy)
    · rw [oN_1]
      exact w
end TURN

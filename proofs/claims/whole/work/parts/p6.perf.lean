/-! THE CLASS: perform() whole -/
/-- what a run may write -/
def MqF (V V' : Nat × Nat × Nat × Nat) (σ τ : Sg) : Prop := GaF (fun a => seE V a ∨ neE σ a ∨ (57 ≤ a ∧ a ≤ 63) ∨ (83 ≤ a ∧ a ≤ 97) ∨ a = 101) σ τ ∧ SzH σ τ V.1 V'.1 ∧ (V'.2.1 = V.2.1 ∨ σ.sh.length ≤ V'.2.1) ∧ (V'.2.2.1 = V.2.2.1 ∨ σ.sh.length ≤ V'.2.2.1) ∧ (V'.2.2.2 = V.2.2.2 ∨ σ.sh.length ≤ V'.2.2.2) ∧ (sqA τ = sqA σ ∨ σ.sh.length ≤ sqA τ)
/-- how it ended, in the heap -/
def RsM (r : Rs × Es) (τ : Sg) : Prop := MeS r.2 τ ∧ τ.i 83 14 = Int32.ofNat r.2.1 ∧ match r.1 with
  | .inl v => τ.i 83 11 = 0 ∧ τ.i 83 12 = 1 ∧ τ.l 83 13 = v
  | .inr (.inl v) => τ.i 83 11 = 1 ∧ τ.i 83 12 = 1 ∧ τ.l 83 13 = v
  | .inr (.inr n) => τ.i 83 11 = Int32.ofNat n ∧ τ.i 83 12 = 0 ∧ (n = 4 ∨ n = 5)
section PERF
variable {Z : zT} {d : Nat} {C V V' V2 : Nat × Nat × Nat × Nat} {W : Wld} {wy a0 ch U fuel : Nat} {f : Fc} {S : Es} {k P dp tn j nv hm : Nat} {lt : Int32} {on : List Nat} {stk vs args : List Int64} {σ τ υ : Sg} {K Kx : kS} {N : Nat → Prop} {e H role i m c bk ch0 : Nat} {pg : Ast}
theorem MFr.ru (h : MFr hm N V V' σ τ) : MqF V V' σ τ := ⟨h.1, h.2.2.2.2⟩
theorem MqF.tr (h : MqF V V' σ τ) (g : MqF V' V2 τ υ) : MqF V V2 σ υ := by
  obtain ⟨h1, h4, h5, h6, h7, h8⟩ := h
  obtain ⟨g1, g4, g5, g6, g7, g8⟩ := g
  have hl := h1.len
  refine ⟨h1.tr g1 (fun a ha q => ?_), h4.tr g4, by omega, by omega, by omega, by omega⟩
  unfold seE neE at q ⊢
  omega
theorem XF.ru {E : Nat → Prop} (V : Nat × Nat × Nat × Nat) (h : XF E σ τ) (hE : ∀ a, E a → 83 ≤ a ∧ a ≤ 97) : MqF V V σ τ := ⟨h.ga.mono (fun a _ q => Or.inr (Or.inr (Or.inr (Or.inl (hE a q))))), SzH.refl h.1 (h.2.2 46 (fun q => by have := hE _ q; omega)).1, Or.inl rfl, Or.inl rfl, Or.inl rfl, Or.inl (sqA_g (by rw [h.2.1]))⟩
theorem cl_perf (hW : RcW W) (hch : ch < 4) (hU : U < 2147483648) (hf : fuel ≤ 100000) (hpg : exW (evW W (-1)) pg false 0) (hsk : sH pg ≤ 49) (B : MbS C W wy a0 ch0 U f V σ) (hP : (cdB pg false 0 0).length + 1 ≤ C.1) (hC : CdF f 0 (cdB pg false 0 0 ++ [(25, 0, 0)]))
    (kk : ∀ V' τ, MqF V V' σ τ → MbS C W wy a0 ch U f V' τ → RsM (rnP W wy ch fuel pg) τ → K (.inl none) τ) : C_X4_perform_0 Z (d + 9) σ (Int32.ofNat fuel) (Int32.ofNat ch) K := by
  have F := B.fx
  refine T_X4_perform_0 F (T_X4_beginRun_0 F ?_)
  obtain ⟨σ1, hσ1⟩ : ∃ y, y = ((((((((((((σ.wi 84 3 (Int32.ofNat ch)).wi 84 4 (0 : Int32)).wi 83 5 (0 : Int32)).wi 83 6 (0 : Int32)).wi 83 7 (0 : Int32)).wi 83 8 (-1 : Int32)).wi 83 9 (0 : Int32)).wl 83 10 (0 : Int64)).wi 83 11 (-1 : Int32)).wi 83 14 (0 : Int32)).wi 83 16 (0 : Int32)).wi 83 18 (0 : Int32)) := ⟨_, rfl⟩
  show C_X4_perform_16 Z (d + 9) ((((((((((((σ.wi 84 3 (Int32.ofNat ch)).wi 84 4 (0 : Int32)).wi 83 5 (0 : Int32)).wi 83 6 (0 : Int32)).wi 83 7 (0 : Int32)).wi 83 8 (-1 : Int32)).wi 83 9 (0 : Int32)).wl 83 10 (0 : Int64)).wi 83 11 (-1 : Int32)).wi 83 14 (0 : Int32)).wi 83 16 (0 : Int32)).wi 83 18 (0 : Int32)) (Int32.ofNat fuel) (Int32.ofNat 0) K
  rw [← hσ1]
  have x1 : XF (fun a => a = 83 ∨ a = 84) σ σ1 := by
    rw [hσ1]
    exact (((((((((((((XF.refl _ _).wi (Or.inr rfl)).wi (Or.inr rfl)).wi (Or.inl rfl)).wi (Or.inl rfl)).wi (Or.inl rfl)).wi (Or.inl rfl)).wi (Or.inl rfl)).wl (Or.inl rfl)).wi (Or.inl rfl)).wi (Or.inl rfl)).wi (Or.inl rfl)).wi (Or.inl rfl))
  have ei : ∀ a k, σ1.i a k = if a = 83 ∧ k = 18 then 0 else if a = 83 ∧ k = 16 then 0 else if a = 83 ∧ k = 14 then 0 else if a = 83 ∧ k = 11 then -1 else if a = 83 ∧ k = 9 then 0 else if a = 83 ∧ k = 8 then -1 else if a = 83 ∧ k = 7 then 0 else if a = 83 ∧ k = 6 then 0 else if a = 83 ∧ k = 5 then 0 else if a = 84 ∧ k = 4 then 0 else if a = 84 ∧ k = 3 then Int32.ofNat ch else σ.i a k := fun a k => by
    rw [hσ1]
    rfl
  have e10 : σ1.l 83 10 = 0 := by
    rw [hσ1]
    exact wl_eq
  have B1 : MbS C W wy a0 ch U f V σ1 := by
    obtain ⟨⟨u, h1, h2⟩, h3, h4, ⟨h5, h6, h7⟩, h8⟩ := B
    obtain ⟨-, -, -, -, p0, p1, p2, -⟩ := id h4
    obtain ⟨L, e⟩ := h1.xg x1 (fun a q => by omega)
    refine ⟨⟨u, L, by omega⟩, ⟨h3.1.xf x1 (fun a q => by omega), h3.2.xf x1 (fun a q => by omega)⟩, h4.gw x1.ga (by have := F.len; omega), ?_, ei 84 3⟩
    rw [(x1.2.2 C.2.1 (by omega)).1, (x1.2.2 C.2.2.1 (by omega)).1, (x1.2.2 C.2.2.2 (by omega)).1]
    exact ⟨h5, h6, h7⟩
  have A1 : McA C W wy a0 ch U f fuel V (0, 0, [], 0, []) 0 0 0 (-1) [] [] 0 0 σ1 := by
    refine ⟨B1, ⟨ei 84 4, ⟨ei 83 16, Nat.zero_le _, fun i x hx => by cases hx⟩, ei 83 18, rfl, fun i x hx => by cases hx⟩, ⟨ei 83 7, ⟨0, ei 83 14, rfl⟩, ⟨ei 83 6, by decide⟩, ei 83 8, ei 83 9, ei 83 11, e10, ⟨Nat.zero_le _, fun l hl => (by cases hl), List.Pairwise.nil⟩, ⟨⟨ei 83 5, Nat.zero_le _⟩, fun i x hx => by cases hx⟩⟩, ⟨Nat.zero_le _, hf⟩, Nat.le_refl _, Nat.le_refl _⟩
  have hEn := en_all (Z := Z) (d := d) (C := C) (wy := wy) (a0 := a0) (U := U) (f := f) (fuel := fuel) hW hch hU 24 0 rfl
  have E := em_all (Z := Z) (d := d) (C := C) (wy := wy) (a0 := a0) (ch := ch) (U := U) (f := f) (fuel := fuel) (dp := 0) (pl := 0) (cl := clR W wy ch (enK W wy ch fuel 24)) (fu := fun _ _ S => faR 1 S) (Fr := fun _ => True) (fun _ _ _ _ _ _ => trivial) hW.1.2.1 hW.2.2 (own := -1) (cl_m hEn ⟨hW.1, hW.2.2⟩ (by decide) hch hU) (fun z => absurd z (by decide)) pg false 0 hpg
  have g0 : MqF V V σ σ1 := x1.ru V (fun a q => by omega)
  refine E.1 rfl V 0 _ 0 0 [] [] (0, 0, [], 0, []) [] (-1) 0 0 σ1 K rfl (by omega) hC.l rfl ⟨Nat.le_refl _, by decide⟩ (fun i x hx => by cases hx) trivial A1 (by show 0 + sH pg ≤ 49; omega) ?_
  have ek : rnP W wy ch fuel pg = ev W fuel 0 (clR W wy ch (enK W wy ch fuel 24)) (fun _ _ S => faR 1 S) pg false 0 [] [] (0, 0, [], 0, []) := rfl
  rw [ek] at kk
  generalize ev W fuel 0 (clR W wy ch (enK W wy ch fuel 24)) (fun _ _ S => faR 1 S) pg false 0 [] [] (0, 0, [], 0, []) = r at kk ⊢
  rcases r with ⟨v | v | v, S⟩
  · intro V' τ tn g A hv
    rw [List.nil_append, Nat.zero_add] at A
    have hc := hC.r.c
    rw [Nat.zero_add] at hc
    refine pf_0 A (by omega) hc (fun τ2 g2 A2 => ⟨fun q => absurd q (show ¬ (25 : Int32) = 20 by decide), fun q => absurd q (show ¬ (25 : Int32) = 22 by decide), fun q => absurd q (show ¬ (25 : Int32) = 23 by decide), fun q => absurd q (show ¬ (25 : Int32) = 24 by decide), fun _ => cl_pop (stk := []) A2.fx A2.skS (fun τ3 g3 s3 _ => ?_), fun _ _ _ _ q => absurd rfl q⟩)
    have A3 := A2.sk g3 s3
    obtain ⟨a1, a2, ⟨a7, ⟨s, a14, as⟩, ⟨a6, a6'⟩, a8, a9, a11, a10, al, ast⟩, ⟨af, af'⟩, at1, at2⟩ := id A3
    show C_X4_endMethod_0 Z (d + 8) τ3 v _
    refine T_X4_endMethod_0 A3.fx ⟨fun z => absurd a6 z, fun _ => T_X4_finish_0 A3.fx ⟨⟨by first | rfl | decide, by first | rfl | decide⟩, ?_⟩⟩
    obtain ⟨τ4, hτ4⟩ : ∃ y, y = (((τ3.wi 83 11 (0 : Int32)).wi 83 12 1).wl 83 13 v) := ⟨_, rfl⟩
    show C_X4_perform_257 Z (d + 9) (((τ3.wi 83 11 (0 : Int32)).wi 83 12 1).wl 83 13 v) (Int32.ofNat fuel) (Int32.ofNat tn) K
    rw [← hτ4]
    have x4 : XF mS τ3 τ4 := by
      rw [hτ4]
      exact ((((XF.refl _ _).wi (Or.inl rfl)).wi (Or.inl rfl)).wl (Or.inl rfl))
    have e4 : ∀ a k, τ4.i a k = if a = 83 ∧ k = 12 then 1 else if a = 83 ∧ k = 11 then 0 else τ3.i a k := fun a k => by
      rw [hτ4]
      rfl
    have F4 := x4.fx A3.fx
    refine pf_257 F4 ((e4 83 9).trans a9) (pf_done F4 (by rw [e4 83 11, if_neg (by decide), if_pos ⟨rfl, rfl⟩]; decide) ?_)
    refine kk V' τ4 ((g0.tr g.ru).tr (((g2.tr g3.ms).tr x4).ms 0 (fun _ => False) V').ru) (a1.xf (x4.mono (fun a q => by unfold mS at q; unfold mE; omega))) ⟨a2.keep (e4 84 4) (e4 83 16) (e4 83 18) (funext fun k => e4 96 k) (funext fun k => e4 97 k), ?_, e4 83 11, e4 83 12, ?_⟩
    · rw [e4 83 14, if_neg (by decide), if_neg (by decide), a14, show s = S.1 by omega]
    · rw [hτ4]
      exact wl_eq
  · intro V' τ tn g b M ⟨s1, s2, s3, s4⟩ ⟨t1, t2, t3, t4⟩ hv Kx hx
    refine T_X4_failWith_0 b.fx ?_
    rw [s2]
    refine ⟨fun _ => T_X4_finish_0 b.fx ⟨⟨by first | rfl | decide, by first | rfl | decide⟩, ?_⟩, fun z => absurd (by decide) z⟩
    obtain ⟨τ4, hτ4⟩ : ∃ y, y = ((((τ.wi 83 9 (0 : Int32)).wi 83 11 (1 : Int32)).wi 83 12 1).wl 83 13 v) := ⟨_, rfl⟩
    show Kx (.inl none) ((((τ.wi 83 9 (0 : Int32)).wi 83 11 (1 : Int32)).wi 83 12 1).wl 83 13 v)
    rw [← hτ4]
    have x4 : XF mS τ τ4 := by
      rw [hτ4]
      exact (((((XF.refl _ _).wi (Or.inl rfl)).wi (Or.inl rfl)).wi (Or.inl rfl)).wl (Or.inl rfl))
    have e4 : ∀ a k, τ4.i a k = if a = 83 ∧ k = 12 then 1 else if a = 83 ∧ k = 11 then 1 else if a = 83 ∧ k = 9 then 0 else τ.i a k := fun a k => by
      rw [hτ4]
      rfl
    have F4 := x4.fx b.fx
    refine hx τ4 F4 (e4 83 9) (pf_done F4 (by rw [e4 83 11, if_neg (by decide), if_pos ⟨rfl, rfl⟩]; decide) ?_)
    refine kk V' τ4 ((g0.tr g.ru).tr (x4.ms 0 (fun _ => False) V').ru) (b.xf (x4.mono (fun a q => by unfold mS at q; unfold mE; omega))) ⟨M.keep (e4 84 4) (e4 83 16) (e4 83 18) (funext fun k => e4 96 k) (funext fun k => e4 97 k), (e4 83 14).trans s1, e4 83 11, e4 83 12, ?_⟩
    rw [hτ4]
    exact wl_eq
  · intro V' τ g b M ⟨s1, s2, s3, s4⟩ _
    exact kk V' τ (g0.tr g.ru) b ⟨M, s1, s2, s3, s4⟩
end PERF

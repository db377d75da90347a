/-! THE CLASS: what runs inside, step by step -/
section INS2
variable {Z : zT} {d : Nat} {C V V' V2 : Nat × Nat × Nat × Nat} {W : Wld} {wy a0 ch U fuel : Nat} {f : Fc} {S : Es} {k P dp tn j nv hm : Nat} {lt : Int32} {on : List Nat} {stk vs args : List Int64} {σ τ υ : Sg} {K Kx : kS} {N : Nat → Prop} {e H role i m c bk ph tu t0 : Nat} {R : Nat → List Nat × Bool} {jv v : Int64} {en : Ef}
theorem gi_97 (X : InX C W dp c H bk nv R args stk) (A : McA C W wy a0 ch U f fuel V S 0 P dp lt on stk tn (j + 2) σ) (I : InS (dp + 1) bk H ph t0 jv args σ) (hC : CcM H R σ) (hph : ph < 4) (htu : tu ≤ 200)
    (run : ¬ (ph = 3 ∧ (R 3).1.length ≤ tu) → C_X4_goOnInside_153 Z (e + 4) σ (Int32.ofNat (dp + 1) * 32) (Int32.ofNat H) (Int32.ofNat tu) (Int32.ofNat ph) (Int32.ofNat bk) Kx)
    (hx : ∀ τ, C_X4_perform_257 Z (d + 9) τ (Int32.ofNat fuel) (Int32.ofNat tn) K → Kx (.inl none) τ)
    (dn : ph = 3 → (R 3).1.length ≤ tu → ∀ τ, XF mS σ τ → McA C W wy a0 ch U f fuel V S 0 bk dp lt on (stk ++ [jv]) (tn + 1) (j + 1) τ → C_X4_perform_16 Z (d + 9) τ (Int32.ofNat fuel) (Int32.ofNat (tn + 1)) K) : C_X4_goOnInside_97 Z (e + 4) σ (Int32.ofNat (dp + 1)) (Int32.ofNat (dp + 1) * 32) (Int32.ofNat H) (Int32.ofNat tu) Kx := by
  obtain ⟨x1, x2, x3, x4, x5, x6, x7, x8, x9, x10⟩ := X
  have hF : dp + 1 ≤ 25 := by omega
  have z7 : Int32.ofNat (dp + 1) * 32 + 7 = Int32.ofNat (32 * (dp + 1) + 7) := (f32_ix (q := 7) hF (by decide)).1
  have b7 := (f32_ix (q := 7) hF (by decide)).2.1
  have t7 := (f32_ix (q := 7) hF (by decide)).2.2
  have r3 := (x2.1 3).1
  refine T_X4_goOnInside_97 A.fx (cl_inFrN (q := 5) A.fx hF (by decide) I.2.2.1 (cl_inFrN (q := 0) A.fx hF (by decide) I.1 ?_))
  show (¬ Int32.ofNat ph = 3 → C_X4_goOnInside_153 Z (e + 3 + 1) σ (Int32.ofNat (dp + 1) * 32) (Int32.ofNat H) (Int32.ofNat tu) (Int32.ofNat ph) (Int32.ofNat bk) Kx) ∧ _
  rw [show (3 : Int32) = Int32.ofNat 3 from rfl, oN_eq (by omega) (by decide)]
  refine ⟨fun q => run (fun z => q z.1), fun q => cl_size (role := 3) A.fx (by omega) (by decide) hC ?_⟩
  show (Int32.ofNat tu < Int32.ofNat (R 3).1.length → _) ∧ _
  rw [oN_lt (by omega) (by omega), z7, t7, I.2.2.2.2.1]
  refine ⟨fun q2 => run (fun z => by omega), fun q2 => ⟨b7, cl_push A.fx A.skS (by omega) (fun τ g s _ => ?_)⟩⟩
  have A1 := (A.sk g s).go (P' := bk) rfl
  exact hx _ (McA.end A1 (dn q (by omega) _ (g.ms.tr ((XF.refl _ _).wi (Or.inl rfl)))))
theorem gi_64 (X : InX C W dp c H bk nv R args stk) (A : McA C W wy a0 ch U f fuel V S 0 P dp lt on stk tn (j + 2) σ) (I : InS (dp + 1) bk H ph t0 jv args σ) (hC : CcM H R σ) (h0 : ph = 0 → 0 < (R 0).1.length) (hph : ph < 4) (htu : tu ≤ 200)
    (w1 : (ph = 0 → tu < if jnW W.2.1 c = 0 then 1 else (R 0).1.length) → C_X4_goOnInside_97 Z (e + 4) σ (Int32.ofNat (dp + 1)) (Int32.ofNat (dp + 1) * 32) (Int32.ofNat H) (Int32.ofNat tu) Kx)
    (w2 : ph = 0 → ¬ tu < (if jnW W.2.1 c = 0 then 1 else (R 0).1.length) → ∀ τ, MFr (dp + 2) (fun jj => jj < 32 * (dp + 1)) V V σ τ → McA C W wy a0 ch U f fuel V S 0 P dp lt on stk tn (j + 2) τ → InS (dp + 1) bk H 3 t0 jv args τ → C_X4_goOnInside_97 Z (e + 4) τ (Int32.ofNat (dp + 1)) (Int32.ofNat (dp + 1) * 32) (Int32.ofNat H) (Int32.ofNat 0) Kx) : C_X4_goOnInside_64 Z (e + 4) σ (Int32.ofNat (dp + 1)) (Int32.ofNat (dp + 1) * 32) (Int32.ofNat H) (Int32.ofNat tu) Kx := by
  have X' := X
  obtain ⟨x1, x2, x3, x4, x5, x6, x7, x8, x9, x10⟩ := X
  have hF : dp + 1 ≤ 25 := by omega
  have z5 : Int32.ofNat (dp + 1) * 32 + 5 = Int32.ofNat (32 * (dp + 1) + 5) := (f32_ix (q := 5) hF (by decide)).1
  have b5 := (f32_ix (q := 5) hF (by decide)).2.1
  have t5 := (f32_ix (q := 5) hF (by decide)).2.2
  have r0 := (x2.1 0).1
  refine T_X4_goOnInside_64 A.fx (cl_inFrN (q := 5) A.fx hF (by decide) I.2.2.1 ?_)
  show (¬ Int32.ofNat ph = Int32.ofNat 0 → _) ∧ (Int32.ofNat ph = Int32.ofNat 0 → _)
  rw [oN_eq (by omega) (by decide)]
  refine ⟨fun q => w1 (fun z => absurd z q), fun q => cl_turns A X' hC (h0 q) ?_⟩
  show (Int32.ofNat tu < Int32.ofNat (if jnW W.2.1 c = 0 then 1 else (R 0).1.length) → _) ∧ _
  have tb : (if jnW W.2.1 c = 0 then 1 else (R 0).1.length) ≤ 120 := by split <;> omega
  rw [oN_lt (by omega) (by omega), z5, t5]
  refine ⟨fun q2 => w1 (fun _ => q2), fun q2 => ⟨b5, ?_⟩⟩
  have y1 : XF (fun a => a = 94 ∨ a = 95) σ (σ.wl 94 (32 * (dp + 1) + 5) (3 : Int64)) := (XF.refl _ _).wl (Or.inl rfl)
  refine w2 q q2 _ ((y1.mono (E' := mE) (fun a q => by unfold mE; omega)).mf _ _ (fun jj q => wl_ne (by omega))) (A.fr y1) ⟨?_, ?_, ?_, ?_, ?_, fun b y hy => ?_⟩
  · rw [wl_ne (by omega)]; exact I.1
  · rw [wl_ne (by omega)]; exact I.2.1
  · rw [wl_eq]; decide
  · rw [wl_ne (by omega)]; exact I.2.2.2.1
  · rw [wl_ne (by omega)]; exact I.2.2.2.2.1
  · rw [wl_ne (by omega)]; exact I.2.2.2.2.2 b y hy
theorem gi_0 (X : InX C W dp c H bk nv R args stk) (A : McA C W wy a0 ch U f fuel V S 0 P dp lt on stk tn (j + 2) σ) (I : InS (dp + 1) bk H ph tu jv args σ) (hC : CcM H R σ) (hph : ph < 4) (htu : tu ≤ 200)
    (w1 : (ph = 2 → tu < (R 2).1.length) → C_X4_goOnInside_64 Z (e + 4) σ (Int32.ofNat (dp + 1)) (Int32.ofNat (dp + 1) * 32) (Int32.ofNat H) (Int32.ofNat tu) Kx)
    (w2 : ph = 2 → ¬ tu < (R 2).1.length → ∀ τ, MFr (dp + 2) (fun jj => jj < 32 * (dp + 1)) V V σ τ → McA C W wy a0 ch U f fuel V S 0 P dp lt on stk tn (j + 2) τ → InS (dp + 1) bk H 0 tu jv args τ → C_X4_goOnInside_64 Z (e + 4) τ (Int32.ofNat (dp + 1)) (Int32.ofNat (dp + 1) * 32) (Int32.ofNat H) (Int32.ofNat 0) Kx) : C_X4_goOnInside_0 Z (e + 4) σ Kx := by
  obtain ⟨x1, x2, x3, x4, x5, x6, x7, x8, x9, x10⟩ := X
  have hF : dp + 1 ≤ 25 := by omega
  have z5 : Int32.ofNat (dp + 1) * 32 + 5 = Int32.ofNat (32 * (dp + 1) + 5) := (f32_ix (q := 5) hF (by decide)).1
  have b5 := (f32_ix (q := 5) hF (by decide)).2.1
  have t5 := (f32_ix (q := 5) hF (by decide)).2.2
  have r2 := (x2.1 2).1
  refine T_X4_goOnInside_0 A.fx ?_
  rw [A.2.2.1.2.2.1.1, oN_1]
  refine cl_inFrN (q := 2) A.fx hF (by decide) I.2.1 (cl_inFrN (q := 6) A.fx hF (by decide) I.2.2.2.1 (cl_inFrN (q := 5) A.fx hF (by decide) I.2.2.1 ?_))
  show (¬ Int32.ofNat ph = Int32.ofNat 2 → _) ∧ (Int32.ofNat ph = Int32.ofNat 2 → _)
  rw [oN_eq (by omega) (by decide)]
  refine ⟨fun q => w1 (fun z => absurd z q), fun q => cl_size (role := 2) A.fx (by omega) (by decide) hC ?_⟩
  show (Int32.ofNat tu < Int32.ofNat (R 2).1.length → _) ∧ _
  rw [oN_lt (by omega) (by omega), z5, t5]
  refine ⟨fun q2 => w1 (fun _ => q2), fun q2 => ⟨b5, ?_⟩⟩
  have y1 : XF (fun a => a = 94 ∨ a = 95) σ (σ.wl 94 (32 * (dp + 1) + 5) (0 : Int64)) := (XF.refl _ _).wl (Or.inl rfl)
  refine w2 q q2 _ ((y1.mono (E' := mE) (fun a q => by unfold mE; omega)).mf _ _ (fun jj q => wl_ne (by omega))) (A.fr y1) ⟨?_, ?_, ?_, ?_, ?_, fun b y hy => ?_⟩
  · rw [wl_ne (by omega)]; exact I.1
  · rw [wl_ne (by omega)]; exact I.2.1
  · rw [wl_eq]; decide
  · rw [wl_ne (by omega)]; exact I.2.2.2.1
  · rw [wl_ne (by omega)]; exact I.2.2.2.2.1
  · rw [wl_ne (by omega)]; exact I.2.2.2.2.2 b y hy
/-- a method that ran inside has come to its end -/
theorem gi_end (X : InX C W dp c H bk nv R args stk) (A : McA C W wy a0 ch U f fuel V S 0 P (dp + 1) lt on stk tn (j + 2) σ) (I : InS (dp + 1) bk H ph tu jv args σ) (Fh : FhS (dp + 1) bk m H i 1 σ) (hph : ph < 4) (h1 : 1 ≤ m) (h2 : m ≤ W.2.2.2.length) (hg : gnW W.2.2.2 m = 0) (hmc : mcW W.2.2.2 m = c)
    (kk : ∀ τ Kx, (∀ τ, C_X4_perform_257 Z (d + 9) τ (Int32.ofNat fuel) (Int32.ofNat tn) K → Kx (.inl none) τ) → MFr (dp + 2) (fun jj => jj < 32 * (dp + 1)) V V σ τ → McA C W wy a0 ch U f fuel V S 0 P dp lt on stk tn (j + 2) τ → InS (dp + 1) bk H ph (if ph = 0 ∧ (jqV (jnW W.2.1 c) jv v).2 = true then 120 else tu) (if ph = 0 then (jqV (jnW W.2.1 c) jv v).1 else jv) args τ → C_X4_goOnInside_0 Z (d + 7) τ Kx) : C_X4_endMethod_0 Z (d + 8) σ v (yN K fun τ2 => C_X4_perform_257 Z (d + 9) τ2 (Int32.ofNat fuel) (Int32.ofNat tn) K) := by
  have X' := X
  obtain ⟨x1, x2, x3, x4, x5, x6, x7, x8, x9, x10⟩ := X
  have hF : dp + 1 ≤ 25 := by omega
  have a6 := A.2.2.1.2.2.1
  refine T_X4_endMethod_0 A.fx ?_
  rw [a6.1]
  refine ⟨fun _ => ?_, fun z => absurd z ?_⟩
  · rw [oN_p1 (by omega), Nat.add_sub_cancel]
    have A1 := A.up (dp' := dp) rfl (by omega)
    have x1' : XF mS σ (σ.wi 83 6 (Int32.ofNat dp)) := (XF.refl _ _).wi (Or.inl rfl)
    have I1 : InS (dp + 1) bk H ph tu jv args (σ.wi 83 6 (Int32.ofNat dp)) := I
    refine cl_inFrame (q := 4) A1.fx hF (by decide) Fh.2.2.2.2 ⟨fun _ => cl_inFrN (q := 5) A1.fx hF (by decide) I.2.2.1 ?_, fun z => absurd z (by decide)⟩
    show (¬ Int32.ofNat ph = Int32.ofNat 0 → _) ∧ (Int32.ofNat ph = Int32.ofNat 0 → _)
    rw [oN_eq (by omega) (by decide)]
    refine ⟨fun q => ?_, fun q => ?_⟩
    · rw [if_neg (fun z => q z.1), if_neg q] at kk
      exact kk _ _ (fun _ w => w) (x1'.ms _ _ _) A1 I1
    · subst q
      simp only [true_and, if_true] at kk
      refine cl_joinV A1 X' I1 Fh.2.1 h1 h2 hg hmc (fun τ g I2 A2 => ?_)
      exact kk τ _ (fun _ w => w) ((x1'.ms _ _ V).tr g) A2 I2
  · rw [show (0 : Int32) = Int32.ofNat 0 from rfl, oN_eq (by omega) (by decide)]
    omega
theorem MFr.nvs (h : MFr (dp + 2) (fun jj => jj < 32 * (dp + 1)) V V' σ τ) (hn : nv ≤ 16) : MFr (dp + 1) (Nv dp nv) V V' σ τ := h.mono (by omega) (fun jj q => by unfold Nv at q; omega)
/-- BEHIND -/
theorem gi_3 (hEn : EnM Z d C W wy a0 ch U f fuel dp en) (X : InX C W dp c H bk nv R args stk) (hv : VlG W jv) : ∀ (n tu : Nat) (V : Nat × Nat × Nat × Nat) (σ : Sg) (S : Es) (tn P e t0 : Nat) (Kx : kS), tu + n = (R 3).1.length → McA C W wy a0 ch U f fuel V S 0 P dp lt on stk tn (j + 2) σ → InS (dp + 1) bk H 3 t0 jv args σ → CcM H R σ → McQ Z d C W wy a0 ch U f fuel (dp + 1) (Nv dp nv) V σ dp stk on lt bk j (ruD en (c, R) 3 args on n S fun S => (.inl jv, S)) K → (∀ τ, C_X4_perform_257 Z (d + 9) τ (Int32.ofNat fuel) (Int32.ofNat tn) K → Kx (.inl none) τ) → C_X4_goOnInside_97 Z (e + 4) σ (Int32.ofNat (dp + 1)) (Int32.ofNat (dp + 1) * 32) (Int32.ofNat H) (Int32.ofNat tu) Kx := by
  have X' := X
  obtain ⟨x1, x2, x3, x4, x5, x6, x7, x8, x9, x10⟩ := X
  have r3 := (x2.1 3).1
  have hpl := plW_ok x1.1.2.1 x3
  intro n
  induction n with
  | zero =>
    intro tu V σ S tn P e t0 Kx htu A I hC hK hx
    exact gi_97 X' A I hC (by decide) (by omega) (fun z => absurd ⟨rfl, by omega⟩ z) hx (fun _ _ τ g A1 => hK V τ _ (g.ms _ _ _) A1 hv)
  | succ n ih =>
    intro tu V σ S tn P e t0 Kx htu A I hC hK hx
    obtain ⟨m, hm⟩ : ∃ m, (R 3).1[n]? = some m := ⟨_, List.getElem?_eq_getElem (by omega)⟩
    have hmem := List.mem_of_getElem? hm
    obtain ⟨⟨m1, m2⟩, m3⟩ := (x2.1 3).2 m hmem
    have hgn := x2.2.1 3 m hmem
    refine gi_97 X' A I hC (by decide) (by omega) (fun _ => ?_) hx (fun _ z => absurd z (by omega))
    refine gi_153 (nv := nv) (spot := n) hEn X' A I hC (by decide) (by omega) hm (fun _ => ⟨by omega, by omega⟩) (fun z => absurd rfl z) hx (fun σ1 g1 I1 C1 => ?_)
    refine EnQ.bn (g := fun _ S => ruD en (c, R) 3 args on n S fun S => (.inl jv, S)) x9 (hK.fr g1) (fun v' S' V' τ tn' P' q1 Fh A' hv' K' => ?_)
    have I2 := I1.bck q1 Fh (by omega)
    refine gi_end (v := v') X' A' I2 Fh (by decide) m1 m2 hgn m3 (fun τ1 Kx1 hx1 q2 A2 I3 => ?_)
    rw [if_neg (show ¬ (3 = 0 ∧ _) from fun z => absurd z.1 (by decide)), if_neg (by decide)] at I3
    have C2 := (C1.mf q1 (by omega)).mf q2 (by omega)
    refine gi_0 (e := d + 3) X' A2 I3 C2 (by decide) (by omega) (fun _ => ?_) (fun z => absurd z (by decide))
    refine gi_64 (e := d + 3) X' A2 I3 C2 (fun z => absurd z (by decide)) (by decide) (by omega) (fun _ => ?_) (fun z => absurd z (by decide))
    exact ih (tu + 1) V' τ1 S' tn' P' (d + 3) _ Kx1 (by omega) A2 I3 C2 (K'.fr (q2.nvs x9)) hx1
end INS2

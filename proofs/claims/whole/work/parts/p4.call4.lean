/-! THE CLASS: what is next, calls -/
section FUM
variable {Z : zT} {d : Nat} {C V V' V2 : Nat × Nat × Nat × Nat} {W : Wld} {wy a0 ch U fuel : Nat} {f : Fc} {S : Es} {k P dp tn j nv hm : Nat} {lt : Int32} {on : List Nat} {stk vs args : List Int64} {σ τ υ : Sg} {K Kx : kS} {N : Nat → Prop} {e H role i m c bk ph tu t0 : Nat} {R : Nat → List Nat × Bool} {jv v : Int64} {en : Ef}
/-- what is given is taken -/
theorem McA.tg (A : McA C W wy a0 ch U f fuel V S k P dp lt on (stk ++ args) tn j σ) (g : XF (fun a => a = 83 ∨ a = 93 ∨ a = 95) σ τ) (h5 : ∀ j, j ≠ 5 → τ.i 83 j = σ.i 83 j) (hl : τ.l 83 = σ.l 83) (hs : StkS stk τ) : McA C W wy a0 ch U f fuel V S k P dp lt on stk tn j τ := by
  obtain ⟨-, -, ⟨a3, a4, ⟨a5, a5'⟩, a7, a8, a9, b1, b2, b3⟩, -⟩ := id A
  have r : ∀ a, a ≠ 83 → a ≠ 93 → a ≠ 95 → τ.i a = σ.i a := fun a q1 q2 q3 => (g.2.2 a (by omega)).1
  exact A.mv (g.mono (fun a q => by unfold mE; omega)) (h5 16 (by decide)) (h5 18 (by decide)) (r 96 (by decide) (by decide) (by decide)) (r 97 (by decide) (by decide) (by decide)) ((h5 7 (by decide)).trans a3) (h5 14 (by decide)) ((h5 6 (by decide)).trans a5) a5' ((h5 8 (by decide)).trans a7) ((h5 9 (by decide)).trans a8) ((h5 11 (by decide)).trans a9) (by rw [hl]; exact b1) b2 hs
theorem McA.pl (A : McA C W wy a0 ch U f fuel V S k P dp lt on stk tn j σ) (hc : c < W.2.1.length) : σ.i 31 c = Int32.ofNat (plW W.2.1 c) ∧ (1 ≤ plW W.2.1 c ∧ plW W.2.1 c ≤ 3) := by
  have e : W.2.1[c]? = some W.2.1[c] := List.getElem?_eq_getElem hc
  have ep : plW W.2.1 c = W.2.1[c].2.1 := by
    unfold plW
    rw [e]
    rfl
  rw [ep]
  exact A.sk24.2.2.2.1.2 c _ e
theorem pf_flt {q : Nat} {stk : List Int64} (A : McA C W wy a0 ch U f fuel V S 0 P dp lt on stk tn (j + 2) σ) (hq : 1 ≤ q ∧ q ≤ 4) (h2 : 2 ∈ mkW W.1) {dp' P' : Nat} {on' : List Nat} {V0 : Nat × Nat × Nat × Nat} {σ0 : Sg} (h : McQ Z d C W wy a0 ch U f fuel hm N V0 σ0 dp' stk on' lt P' j (faR (Int32.ofNat q) S) K) (g : MFr hm N V0 V σ0 σ) : C_X4_perform_257 Z (d + 9) (σ.wi 83 9 (Int32.ofNat q)) (Int32.ofNat fuel) (Int32.ofNat tn) K := by
  have A' : McA C W wy a0 ch U f fuel V S 0 P dp lt on (stk ++ []) tn (j + 1 + 1) σ := by
    rw [List.append_nil]
    exact A
  exact pf_fault (A'.less (by omega)) hq h2 h g
/-- a method begins, its value goes to the caller -/
theorem en_back (hEn : EnM Z d C W wy a0 ch U f fuel dp en) (X : InX C W dp c H bk nv R args stk) (hr : role < 4) (hi : i < (R role).1.length) (A : McA C W wy a0 ch U f fuel V S 0 P dp lt on stk tn (j + 2) σ) (hC : CcM H R σ) (hg : ∀ (i : Nat) y, args[i]? = some y → σ.l 95 i = y) (hK : McQ Z d C W wy a0 ch U f fuel (dp + 1) (Nv dp nv) V σ dp stk on lt bk j (en (c, R) role i args on S) K) (hx : ∀ τ, C_X4_perform_257 Z (d + 9) τ (Int32.ofNat fuel) (Int32.ofNat tn) K → Kx (.inl none) τ) : C_X4_beginMethod_0 Z (e + 2) σ (Int32.ofNat H) (Int32.ofNat role) (Int32.ofNat i) (Int32.ofNat bk) 0 Kx := by
  obtain ⟨x1, x2, x3, x4, x5, x6, x7, x8, x9, x10⟩ := X
  obtain ⟨m, hm⟩ : ∃ m, (R role).1[i]? = some m := ⟨_, List.getElem?_eq_getElem hi⟩
  refine hEn V P e role i m c H bk R args 0 on S stk lt tn j σ K Kx hr hm x2 x3 x4 hC x5 x6 hg (Or.inl rfl) x7 A x8 ?_ hx
  rw [if_pos rfl]
  refine EnQ.bn (g := fun v S => (.inl v, S)) x9 (by rw [bnR_id]; exact hK) (fun v' S' V' τ tn' P' q1 Fh A' hv' K' => ?_)
  exact em_ret A' Fh (by omega) hv' K'
theorem fu_m (hEn : EnM Z d C W wy a0 ch U f fuel dp en) (hW : WfW W ∧ 1 ∈ mkW W.1 ∧ 2 ∈ mkW W.1) (hd : dp ≤ 24) (hH : H ≤ dp) (hc : c < W.2.1.length) (hR : RwY W c R) (hm : 1 ≤ m ∧ m ≤ W.2.2.2.length ∧ gnW W.2.2.2 m = 0 ∧ mcW W.2.2.2 m = c) (hi : i < 120) : FuM Z d C W wy a0 ch U f fuel dp (plW W.2.1 c) (fuR W en (c, R) (rlM W.2.2.2 m) i) (FmX dp m H i R) := by
  intro V P nv fl args z on S stk lt tn j σ K ha hav hz hP hnv fr A hs hK
  obtain ⟨⟨f1, f2, f3⟩, fC⟩ := fr
  have X : InX C W dp c H P nv R args stk := ⟨hW, hR, hc, by omega, ha, hav, hP, hs, by omega, hd⟩
  obtain ⟨mc, m122⟩ := A.mc hW.1 hm.1 hm.2.1 hm.2.2.1 hm.2.2.2
  have c24 := (A.jn hc).2.2
  have hpl := A.pl hc
  have ex : W.2.2.2[m - 1]? = some W.2.2.2[m - 1] := List.getElem?_eq_getElem (by omega)
  have erl : rlM W.2.2.2 m = W.2.2.2[m - 1].1.2.1 := by
    unfold rlM
    rw [ex]
    rfl
  obtain ⟨kc, -, -, w3, -⟩ := hW.1.2.2 _ (List.getElem_mem (show m - 1 < _ by omega))
  have rl4 : rlM W.2.2.2 m ≤ 3 := by rw [erl]; exact w3
  have a6 := A.2.2.1.2.2.1
  -- from pc 70 on
  have go : ∀ σ1, MFr (dp + 1) (Nv dp nv) V V σ σ1 → McA C W wy a0 ch U f fuel V S 0 P dp lt on stk tn (j + 2) σ1 → (∀ (i : Nat) y, args[i]? = some y → σ1.l 95 i = y) → C_X4_goToNext_70 Z (d + 8) σ1 (Int32.ofNat m) (Int32.ofNat c) (yN K fun τ1 => C_X4_perform_257 Z (d + 9) τ1 (Int32.ofNat fuel) (Int32.ofNat tn) K) := by
    intro σ1 g1 A1 hg
    have C1 := fC.mf g1 (by omega)
    have k1 := hK.fr g1
    have b6 := A1.2.2.1.2.2.1
    have b7 := A1.2.2.1.1
    have e12 : σ1.i 12 m = Int32.ofNat (rlM W.2.2.2 m) := by
      rw [erl]
      exact (A1.mt hm.1 ex).1.2.1
    have w2 : σ1.l 94 (32 * dp + 2) = Int32.toInt64 (Int32.ofNat H) := (g1.2.2.2.1 _ (show _ < _ by omega)).trans f2
    have w3' : σ1.l 94 (32 * dp + 3) = Int32.toInt64 (Int32.ofNat i) := (g1.2.2.2.1 _ (show _ < _ by omega)).trans f3
    obtain ⟨jn, jn4, -⟩ := A1.jn hc
    have eqn : ∀ a b : Nat, a ≤ 4 → b ≤ 4 → (Int32.ofNat a = Int32.ofNat b ↔ a = b) := fun a b ha hb => oN_eq (by omega) (by omega)
    refine T_X4_goToNext_70 A1.fx ?_
    rw [oN_t (by omega), e12, b6.1]
    refine ⟨ib_oN m122 (by decide), cl_inFrN (q := 2) A1.fx (by omega) (by decide) w2 ?_⟩
    show C_X4_inFrame_0 Z (d + 7) σ1 (σ1.i 83 6) 3 _
    rw [b6.1]
    refine cl_inFrN (q := 3) A1.fx (by omega) (by decide) w3' ?_
    show (Int32.ofNat (rlM W.2.2.2 m) = Int32.ofNat 1 → C_X4_goToNext_140 Z (d + 8) σ1 (Int32.ofNat (rlM W.2.2.2 m)) (Int32.ofNat H) (Int32.ofNat i + 1) _) ∧ (¬ Int32.ofNat (rlM W.2.2.2 m) = Int32.ofNat 1 → (¬ Int32.ofNat (rlM W.2.2.2 m) = Int32.ofNat 0 → C_X4_perform_257 Z (d + 9) (σ1.wi 83 9 (Int32.ofNat 1)) (Int32.ofNat fuel) (Int32.ofNat tn) K) ∧ (Int32.ofNat (rlM W.2.2.2 m) = Int32.ofNat 0 → ib (Int32.ofNat c) 24 ∧ ((σ1.i 32 (Int32.ofNat c).toNatClampNeg = Int32.ofNat 0 → C_X4_goToNext_140 Z (d + 8) σ1 (Int32.ofNat (rlM W.2.2.2 m)) (Int32.ofNat H) (Int32.ofNat i + 1) _) ∧ (¬ σ1.i 32 (Int32.ofNat c).toNatClampNeg = Int32.ofNat 0 → C_X4_perform_257 Z (d + 9) (σ1.wi 83 9 (Int32.ofNat 1)) (Int32.ofNat fuel) (Int32.ofNat tn) K))))
    rw [oN_t (by omega), jn, eqn _ _ (by omega) (by decide), eqn _ _ (by omega) (by decide), eqn _ _ (by omega) (by decide), oN_1]
    unfold fuR at k1
    refine ⟨fun q => ?_, fun q => ⟨fun q0 => ?_, fun q0 => ⟨ib_oN c24 (by decide), fun qj => ?_, fun qj => ?_⟩⟩⟩
    · rw [if_pos q] at k1
      have r1 := (hR.1 1).1
      rw [q]
      refine T_X4_goToNext_140 A1.fx (cl_size (role := 1) A1.fx (by omega) (by decide) C1 ?_)
      show (Int32.ofNat (R 1).1.length ≤ Int32.ofNat (i + 1) → _) ∧ _
      rw [oN_le (by omega) (by omega)]
      refine ⟨fun q2 => ?_, fun q2 => ?_⟩
      · rw [if_neg (show ¬ i + 1 < ((c, R).2 1).1.length by show ¬ i + 1 < (R 1).1.length; omega)] at k1
        refine cl_several (role := 1) A1.fx (by omega) (by decide) C1 ?_
        have k1 : McQ Z d C W wy a0 ch U f fuel (dp + 1) (Nv dp nv) V σ1 dp stk on lt P j (if (R 1).2 = true then faR 2 S else inR W en (c, R) args on S) K := k1
        cases hsv : (R 1).2 with
        | false =>
          rw [hsv, if_neg (by decide)] at k1
          rw [if_neg (by decide)]
          refine ⟨fun _ => ⟨fun _ => ?_, fun z => absurd z (by decide)⟩, fun z => absurd rfl z⟩
          rw [b7]
          exact gi_begin (e := d + 2) hEn X A1 C1 hg k1 (fun _ w => w)
        | true =>
          rw [hsv, if_pos rfl] at k1
          rw [if_pos rfl]
          refine ⟨fun z => absurd z (by decide), fun _ => ?_⟩
          exact pf_flt (q := 2) A1 (by decide) hW.2.2 k1 (MFr.refl _ _ _ _)
      · rw [if_pos (show i + 1 < ((c, R).2 1).1.length by show i + 1 < (R 1).1.length; omega)] at k1
        rw [b7]
        exact en_back (e := d + 5) hEn X (by decide) (by omega) A1 C1 hg k1 (fun _ w => w)
    · rw [if_neg q, if_pos (Or.inl q0)] at k1
      exact pf_flt (q := 1) A1 (by decide) hW.2.2 k1 (MFr.refl _ _ _ _)
    · rw [if_neg q, if_neg (fun z => z.elim (fun y => y q0) (fun y => y qj))] at k1
      have r0 := (hR.1 0).1
      rw [q0]
      refine T_X4_goToNext_140 A1.fx (cl_size (role := 0) A1.fx (by omega) (by decide) C1 ?_)
      show (Int32.ofNat (R 0).1.length ≤ Int32.ofNat (i + 1) → _) ∧ _
      rw [oN_le (by omega) (by omega)]
      refine ⟨fun q2 => ?_, fun q2 => ?_⟩
      · rw [if_neg (show ¬ i + 1 < ((c, R).2 0).1.length by show ¬ i + 1 < (R 0).1.length; omega)] at k1
        refine cl_several (role := 0) A1.fx (by omega) (by decide) C1 ?_
        have k1 : McQ Z d C W wy a0 ch U f fuel (dp + 1) (Nv dp nv) V σ1 dp stk on lt P j (faR (if (R 0).2 = true then 2 else 1) S) K := k1
        cases hsv : (R 0).2 with
        | false =>
          rw [hsv, if_neg (by decide)] at k1
          rw [if_neg (by decide)]
          refine ⟨fun _ => ⟨fun z => absurd rfl z, fun _ => ?_⟩, fun z => absurd rfl z⟩
          exact pf_flt (q := 1) A1 (by decide) hW.2.2 k1 (MFr.refl _ _ _ _)
        | true =>
          rw [hsv, if_pos rfl] at k1
          rw [if_pos rfl]
          refine ⟨fun z => absurd z (by decide), fun _ => ?_⟩
          exact pf_flt (q := 2) A1 (by decide) hW.2.2 k1 (MFr.refl _ _ _ _)
      · rw [if_pos (show i + 1 < ((c, R).2 0).1.length by show i + 1 < (R 0).1.length; omega)] at k1
        rw [b7]
        exact en_back (e := d + 5) hEn X (by decide) (by omega) A1 C1 hg k1 (fun _ w => w)
    · rw [if_neg q, if_pos (Or.inr qj)] at k1
      exact pf_flt (q := 1) A1 (by decide) hW.2.2 k1 (MFr.refl _ _ _ _)
  refine T_X4_goToNext_0 A.fx ?_
  rw [a6.1]
  refine cl_inFrN (q := 1) A.fx (by omega) (by decide) f1 ?_
  show ib (Int32.ofNat m) 122 ∧ (fl = 0 → cpb (Int32.ofNat dp * 32 + 16) 0 3 832 3 ∧ C_X4_goToNext_70 Z (d + 8) (σ.cpL 94 (Int32.ofNat dp * 32 + 16).toNatClampNeg 95 ((0 : Int32).toNatClampNeg) ((3 : Int32).toNatClampNeg)) (Int32.ofNat m) (σ.i 11 (Int32.ofNat m).toNatClampNeg) _) ∧ (¬ fl = 0 → ib (σ.i 11 (Int32.ofNat m).toNatClampNeg) 24 ∧ C_X4_takeGiven_0 Z (d + 7) σ (σ.i 31 (σ.i 11 (Int32.ofNat m).toNatClampNeg).toNatClampNeg) (yN _ fun τ8 => C_X4_goToNext_70 Z (d + 8) τ8 (Int32.ofNat m) (σ.i 11 (Int32.ofNat m).toNatClampNeg) _))
  have z16 : Int32.ofNat dp * 32 + 16 = Int32.ofNat (32 * dp + 16) := (f32_ix (q := 16) (by omega) (by decide)).1
  have t16 := (f32_ix (F := dp) (q := 16) (by omega) (by decide)).2.2
  rw [oN_t (by omega), mc, oN_t (by omega), hpl.1, z16, t16]
  refine ⟨ib_oN m122 (by decide), fun q => ?_, fun q => ⟨ib_oN c24 (by decide), ?_⟩⟩
  · rcases hz with ⟨-, rfl, hsl⟩ | ⟨q', -⟩
    · rw [List.append_nil] at A
      refine ⟨⟨by decide, by decide, ?_, ?_, by decide⟩, ?_⟩
      · rw [show Int32.ofNat (32 * dp + 16) < 0 ↔ 32 * dp + 16 < 0 from oN_lt (b := 0) (by omega) (by decide)]
        omega
      · rw [t16]
        show _ + 3 ≤ 832
        omega
      · have y1 : XF (fun a => a = 94 ∨ a = 95) σ (σ.cpL 94 (32 * dp + 16) 95 ((0 : Int32).toNatClampNeg) ((3 : Int32).toNatClampNeg)) := ⟨rfl, rfl, fun a q => ⟨rfl, funext fun b => by
          show (if a = 95 ∧ 0 ≤ b ∧ b < 0 + 3 then σ.l 94 (32 * dp + 16 + (b - 0)) else σ.l a b) = _
          rw [if_neg (by omega)]⟩⟩
        have l94 : ∀ b, (σ.cpL 94 (32 * dp + 16) 95 ((0 : Int32).toNatClampNeg) ((3 : Int32).toNatClampNeg)).l 94 b = σ.l 94 b := fun b => by
          show (if 94 = 95 ∧ 0 ≤ b ∧ b < 0 + 3 then σ.l 94 (32 * dp + 16 + (b - 0)) else σ.l 94 b) = _
          rw [if_neg (by omega)]
        refine go _ ((y1.mono (E' := mE) (fun a q => by unfold mE; omega)).mf _ _ (fun jj _ => l94 jj)) (A.fr y1) (fun b y hy => ?_)
        have hb := (List.getElem?_eq_some_iff.mp hy).1
        show (if 95 = 95 ∧ 0 ≤ b ∧ b < 0 + 3 then σ.l 94 (32 * dp + 16 + (b - 0)) else σ.l 95 b) = _
        rw [if_pos (by omega)]
        exact hsl b y hy
    · rw [q] at q'
      exact absurd q' (by decide)
  · rcases hz with ⟨q', -⟩ | ⟨-, rfl⟩
    · exact absurd q' q
    · rw [← ha]
      refine cl_takeGiven A.fx A.skS (by omega) (fun τ g h5 hl hs' _ hg => ?_)
      refine go τ ((g.mono (E' := mE) (fun a q => by unfold mE; omega)).mf _ _ (fun jj _ => ?_)) (A.tg g h5 hl hs') hg
      rw [(g.2.2 94 (by omega)).2]
end FUM

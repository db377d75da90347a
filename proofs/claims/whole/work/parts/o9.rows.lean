/-! THE CLASS: rows of a choice, a method begins -/
/-- the rows of a choice at home H -/
def CcM (H : Nat) (R : Nat → List Nat × Bool) (σ : Sg) : Prop := ∀ r, r < 4 → RwH H r (R r).1 (R r).2 σ
/-- what rows hold: methods of the call that aren't gone; plain ones where they are joined -/
def RwY (W : Wld) (c : Nat) (R : Nat → List Nat × Bool) : Prop := RwG W c R ∧ (∀ role m, m ∈ (R role).1 → gnW W.2.2.2 m = 0) ∧ (jnW W.2.1 c ≠ 0 → 0 < (R 0).1.length)
/-- a frame's head -/
def FhS (F bk m H i : Nat) (ins : Int64) (σ : Sg) : Prop := σ.l 94 (32 * F) = Int32.toInt64 (Int32.ofNat bk) ∧ σ.l 94 (32 * F + 1) = Int32.toInt64 (Int32.ofNat m) ∧ σ.l 94 (32 * F + 2) = Int32.toInt64 (Int32.ofNat H) ∧ σ.l 94 (32 * F + 3) = Int32.toInt64 (Int32.ofNat i) ∧ σ.l 94 (32 * F + 4) = ins
/-- words of the frame above that a method which runs there leaves -/
def Ne (dp jj : Nat) : Prop := jj < 32 * (dp + 1) ∨ (32 * (dp + 1) + 5 ≤ jj ∧ jj < 32 * (dp + 1) + 16)
section ROWS
variable {Z : zT} {d : Nat} {C V V' V2 : Nat × Nat × Nat × Nat} {W : Wld} {wy a0 ch U fuel : Nat} {f : Fc} {S : Es} {k P dp tn j nv hm : Nat} {lt : Int32} {on : List Nat} {stk vs args : List Int64} {σ τ υ : Sg} {K Kx : kS} {N : Nat → Prop} {e H role i m c bk : Nat} {R : Nat → List Nat × Bool}
theorem CcM.mf (h : CcM H R σ) (g : MFr hm N V V' σ τ) (hH : H < hm) : CcM H R τ := fun r hr => by
  obtain ⟨fr, h1, h2, h3, h4, h5⟩ := h r hr
  obtain ⟨e1, e2, e3⟩ := g.2.2.1.2 (4 * H + r) (by omega)
  refine ⟨fr, e1.trans h1, h2, e2.trans h3, e3.trans h4, fun i x hx => ?_⟩
  have hi := (List.getElem?_eq_some_iff.mp hx).1
  rw [g.2.2.1.1 _ (by omega)]
  exact h5 i x hx
theorem rw_ix (hH : H ≤ 25) (hr : role < 4) : Int32.ofNat H * 4 + Int32.ofNat role = Int32.ofNat (4 * H + role) ∧ ib (Int32.ofNat (4 * H + role)) 104 ∧ (Int32.ofNat (4 * H + role)).toNatClampNeg = 4 * H + role := by
  refine ⟨?_, ib_oN (by omega) (by decide), oN_t (by omega)⟩
  rw [show (4 : Int32) = Int32.ofNat 4 from rfl, oN_mul, oN_add, Nat.mul_comm]
theorem cl_size (F : FX ΦC σ.sh σ.r) (hH : H ≤ 25) (hr : role < 4) (h : CcM H R σ) (kk : Kx (.inl (some (.int (Int32.ofNat (R role).1.length)))) σ) : C_X0_rowSize_0 Z (e + 1) σ (Int32.ofNat H) (Int32.ofNat role) Kx := by
  obtain ⟨fr, h1, h2, h3, h4, h5⟩ := h role hr
  obtain ⟨e1, e2, e3⟩ := rw_ix hH hr
  refine T_X0_rowSize_0 F ?_
  rw [e1, e3, h3]
  exact ⟨e2, kk⟩
theorem cl_several (F : FX ΦC σ.sh σ.r) (hH : H ≤ 25) (hr : role < 4) (h : CcM H R σ) (kk : Kx (.inl (some (.int (if (R role).2 = true then 1 else 0)))) σ) : C_X0_endsWithSeveral_0 Z (e + 1) σ (Int32.ofNat H) (Int32.ofNat role) Kx := by
  obtain ⟨fr, h1, h2, h3, h4, h5⟩ := h role hr
  obtain ⟨e1, e2, e3⟩ := rw_ix hH hr
  refine T_X0_endsWithSeveral_0 F ?_
  rw [e1, e3, h4]
  refine ⟨e2, ?_, kk⟩
  cases (R role).2
  · rw [if_neg (by decide)]
    first | rfl | decide
  · rw [if_pos rfl]
    first | rfl | decide
theorem cl_inRow (F : FX ΦC σ.sh σ.r) (hH : H ≤ 25) (hr : role < 4) (h : CcM H R σ) (hi : (R role).1[i]? = some m) (kk : Kx (.inl (some (.int (Int32.ofNat m)))) σ) : C_X0_inRow_0 Z (e + 1) σ (Int32.ofNat H) (Int32.ofNat role) (Int32.ofNat i) Kx := by
  obtain ⟨fr, h1, h2, h3, h4, h5⟩ := h role hr
  obtain ⟨e1, e2, e3⟩ := rw_ix hH hr
  have il := (List.getElem?_eq_some_iff.mp hi).1
  have e4 : Int32.ofNat H * 128 + Int32.ofNat fr + Int32.ofNat i = Int32.ofNat (128 * H + fr + i) := by
    rw [show (128 : Int32) = Int32.ofNat 128 from rfl, oN_mul, oN_add, oN_add, Nat.mul_comm]
  refine T_X0_inRow_0 F ?_
  rw [e1, e3, h1, e4, oN_t (by omega), h5 i m hi]
  exact ⟨e2, ib_oN (by omega) (by decide), kk⟩
theorem McA.mt {x : Mtd × Bool} (A : McA C W wy a0 ch U f fuel V S k P dp lt on stk tn j σ) (h1 : 1 ≤ m) (hx : W.2.2.2[m - 1]? = some x) : MtC C a0 m x σ ∧ m ≤ 120 ∧ a0 < C.1 := by
  have hw := A.sk24.2.2.2.2.1
  have hl := (List.getElem?_eq_some_iff.mp hx).1
  have := hw.2.2.2.2 (m - 1) x hx
  rw [Nat.sub_add_cancel h1] at this
  exact ⟨this, by have := hw.2.1; omega, hw.2.2.2.1.2.1⟩
theorem f32_ix {q F : Nat} (hF : F ≤ 25) (hq : q < 32) : Int32.ofNat F * 32 + Int32.ofNat q = Int32.ofNat (32 * F + q) ∧ ib (Int32.ofNat (32 * F + q)) 832 ∧ (Int32.ofNat (32 * F + q)).toNatClampNeg = 32 * F + q := by
  refine ⟨?_, ib_oN (by omega) (by decide), oN_t (by omega)⟩
  rw [show (32 : Int32) = Int32.ofNat 32 from rfl, oN_mul, oN_add, Nat.mul_comm]
theorem cl_inFrame {F q : Nat} {x : Int64} (Fx : FX ΦC σ.sh σ.r) (hF : F ≤ 25) (hq : q < 32) (hx : σ.l 94 (32 * F + q) = x) (kk : Kx (.inl (some (.int (nmV x)))) σ) : C_X4_inFrame_0 Z (e + 1) σ (Int32.ofNat F) (Int32.ofNat q) Kx := by
  obtain ⟨e1, e2, e3⟩ := f32_ix hF hq
  refine T_X4_inFrame_0 Fx ?_
  rw [e1, e3, hx]
  exact ⟨e2, kk⟩
theorem nm_64 (z : Int32) : nmV (Int32.toInt64 z) = z := i32_64 z
/-- began once more -/
def esB (S : Es) (m : Nat) : Es := (S.1, S.2.1, S.2.2.1, S.2.2.2.1 + 1, if S.2.2.2.1 < 512 then S.2.2.2.2 ++ [m] else S.2.2.2.2)
theorem bm_go {ins : Int32} {x : Mtd × Bool} (A : McA C W wy a0 ch U f fuel V S 0 P dp lt on stk tn (j + 2) σ) (hdp : dp < 24) (hH : H ≤ 25) (hr : role < 4) (hR : CcM H R σ) (hi : (R role).1[i]? = some m) (h1 : 1 ≤ m) (hx : W.2.2.2[m - 1]? = some x) (hi' : i ≤ 120) (hins : ins = 0 ∨ ins = 1) (hbk : bk ≤ C.1) (hg : ∀ (i : Nat) y, args[i]? = some y → σ.l 95 i = y) (ha : args.length ≤ 3)
    (hx1 : ∀ τ, C_X4_perform_257 Z (d + 9) τ (Int32.ofNat fuel) (Int32.ofNat tn) K → Kx (.inl none) τ)
    (kk : ∀ τ Sm, XF mE σ τ → (∀ jj, Ne dp jj → τ.l 94 jj = σ.l 94 jj) → FhS (dp + 1) bk m H i (if ins = 0 then 0 else 1) τ → (∀ (i : Nat) y, args[i]? = some y → τ.l 94 (32 * (dp + 1) + 16 + i) = y) → Sm + (cdB x.1.2.2.2.2.2.1 false Sm 0).length + 1 ≤ C.1 → CdF f Sm (cdB x.1.2.2.2.2.2.1 false Sm 0 ++ [(25, 0, 0)]) → McA C W wy a0 ch U f fuel V (esB S m) 0 Sm (dp + 1) lt on stk (tn + 1) (j + 1) τ → C_X4_perform_16 Z (d + 9) τ (Int32.ofNat fuel) (Int32.ofNat (tn + 1)) K) : C_X4_beginMethod_0 Z (e + 2) σ (Int32.ofNat H) (Int32.ofNat role) (Int32.ofNat i) (Int32.ofNat bk) ins Kx := by
  obtain ⟨a1, a2, ⟨a7, ⟨s, a14, as⟩, ⟨a6, a6'⟩, a8, a9, a11, a10, al, ast⟩, ⟨af, af'⟩, at1, at2⟩ := id A
  obtain ⟨m1, m2, m5, m6, m7⟩ := id a2
  obtain ⟨hmt, hm120, ha0⟩ := A.mt h1 hx
  obtain ⟨-, -, -, -, -, Sm, t1, t2, t3, t4⟩ := hmt
  have cf := a1.2.2.2.1
  have cC := a1.2.2.1.2.2.2.2.2.2.2
  have bg : S.2.2.2.1 < 1000000 := by omega
  have hF : dp + 1 ≤ 25 := by omega
  have fi : ∀ q : Nat, q < 32 → Int32.ofNat (dp + 1) * 32 + Int32.ofNat q = Int32.ofNat (32 * (dp + 1) + q) := fun q hq => (f32_ix hF hq).1
  have fb : ∀ q : Nat, q < 32 → ib (Int32.ofNat (32 * (dp + 1) + q)) 832 := fun q hq => (f32_ix hF hq).2.1
  have ft : ∀ q : Nat, q < 32 → (Int32.ofNat (32 * (dp + 1) + q)).toNatClampNeg = 32 * (dp + 1) + q := fun q hq => (f32_ix hF hq).2.2
  refine T_X4_beginMethod_0 A.fx ?_
  rw [a6, show Int32.ofNat dp < 24 ↔ dp < 24 from oN_lt (b := 24) (by omega) (by decide)]
  refine ⟨fun _ => cl_inRow A.fx hH hr hR hi ?_, fun z => absurd hdp z⟩
  show ib (((σ.i 83 6 + 1) * 32) + 0) 832 ∧ _
  rw [a6, oN_1]
  have z0 : Int32.ofNat (dp + 1) * 32 + 0 = Int32.ofNat (32 * (dp + 1) + 0) := fi 0 (by decide)
  have z1 : Int32.ofNat (dp + 1) * 32 + 1 = Int32.ofNat (32 * (dp + 1) + 1) := fi 1 (by decide)
  have z2 : Int32.ofNat (dp + 1) * 32 + 2 = Int32.ofNat (32 * (dp + 1) + 2) := fi 2 (by decide)
  have z3 : Int32.ofNat (dp + 1) * 32 + 3 = Int32.ofNat (32 * (dp + 1) + 3) := fi 3 (by decide)
  have z4 : Int32.ofNat (dp + 1) * 32 + 4 = Int32.ofNat (32 * (dp + 1) + 4) := fi 4 (by decide)
  have z16 : Int32.ofNat (dp + 1) * 32 + 16 = Int32.ofNat (32 * (dp + 1) + 16) := fi 16 (by decide)
  rw [z0, z1, z2, z3, z4, ft 0 (by decide), ft 1 (by decide), ft 2 (by decide), ft 3 (by decide)]
  obtain ⟨σ1, hσ1⟩ : ∃ y, y = (((((σ.wi 83 6 (Int32.ofNat (dp + 1))).wl 94 (32 * (dp + 1) + 0) (Int32.toInt64 (Int32.ofNat bk))).wl 94 (32 * (dp + 1) + 1) (Int32.toInt64 (Int32.ofNat m))).wl 94 (32 * (dp + 1) + 2) (Int32.toInt64 (Int32.ofNat H))).wl 94 (32 * (dp + 1) + 3) (Int32.toInt64 (Int32.ofNat i))) := ⟨_, rfl⟩
  rw [← hσ1]
  have F1 : FX ΦC σ1.sh σ1.r := by
    rw [hσ1]
    exact A.fx
  have i1 : ∀ a q, ¬ (a = 83 ∧ q = 6) → σ1.i a q = σ.i a q := fun a q z => by
    rw [hσ1]
    exact wi_ne z
  have i6 : σ1.i 83 6 = Int32.ofNat (dp + 1) := by
    rw [hσ1]
    show (Sg.wi σ 83 6 (Int32.ofNat (dp + 1))).i 83 6 = _
    exact wi_at ..
  have l1 : ∀ a q, ¬ (a = 94 ∧ 32 * (dp + 1) ≤ q ∧ q ≤ 32 * (dp + 1) + 3) → σ1.l a q = σ.l a q := fun a q z => by
    rw [hσ1, wl_ne (by omega), wl_ne (by omega), wl_ne (by omega), wl_ne (by omega)]
    rfl
  have g0 : σ1.l 94 (32 * (dp + 1)) = Int32.toInt64 (Int32.ofNat bk) := by
    rw [hσ1, wl_ne (by omega), wl_ne (by omega), wl_ne (by omega)]
    exact wl_eq
  have g1 : σ1.l 94 (32 * (dp + 1) + 1) = Int32.toInt64 (Int32.ofNat m) := by
    rw [hσ1, wl_ne (by omega), wl_ne (by omega), wl_eq]
  have g2 : σ1.l 94 (32 * (dp + 1) + 2) = Int32.toInt64 (Int32.ofNat H) := by
    rw [hσ1, wl_ne (by omega), wl_eq]
  have g3 : σ1.l 94 (32 * (dp + 1) + 3) = Int32.toInt64 (Int32.ofNat i) := by
    rw [hσ1, wl_eq]
  -- from the copy on
  have fin : ∀ sv : Int64, sv = (if ins = 0 then 0 else 1) → C_X4_beginMethod_110 Z (e + 2) σ1 (Int32.ofNat m) (Int32.ofNat (dp + 1) * 32) (Int32.ofNat (32 * (dp + 1) + 4)) sv Kx := by
    intro sv hsv
    refine T_X4_beginMethod_110 F1 ?_
    rw [ft 4 (by decide), z16, ft 16 (by decide), i1 83 18 (by decide), m5, show (512 : Int32) ≤ Int32.ofNat S.2.2.2.1 ↔ 512 ≤ S.2.2.2.1 from oN_le (a := 512) (by decide) (by omega)]
    obtain ⟨σ2, hσ2⟩ : ∃ y, y = ((σ1.wl 94 (32 * (dp + 1) + 4) sv).cpL 95 ((0 : Int32).toNatClampNeg) 94 (32 * (dp + 1) + 16) ((3 : Int32).toNatClampNeg)) := ⟨_, rfl⟩
    rw [← hσ2]
    have l2 : ∀ a q, ¬ (a = 94 ∧ (q = 32 * (dp + 1) + 4 ∨ (32 * (dp + 1) + 16 ≤ q ∧ q < 32 * (dp + 1) + 19))) → σ2.l a q = σ1.l a q := fun a q z => by
      rw [hσ2]
      show (if a = 94 ∧ 32 * (dp + 1) + 16 ≤ q ∧ q < 32 * (dp + 1) + 16 + 3 then _ else (σ1.wl 94 (32 * (dp + 1) + 4) sv).l a q) = _
      rw [if_neg (by omega), wl_ne (by omega)]
    have l4 : σ2.l 94 (32 * (dp + 1) + 4) = sv := by
      rw [hσ2]
      show (if 94 = 94 ∧ 32 * (dp + 1) + 16 ≤ 32 * (dp + 1) + 4 ∧ 32 * (dp + 1) + 4 < 32 * (dp + 1) + 16 + 3 then _ else (σ1.wl 94 (32 * (dp + 1) + 4) sv).l 94 (32 * (dp + 1) + 4)) = _
      rw [if_neg (by omega), wl_eq]
    have l16 : ∀ q, q < 3 → σ2.l 94 (32 * (dp + 1) + 16 + q) = σ.l 95 q := fun q hq => by
      rw [hσ2]
      show (if 94 = 94 ∧ 32 * (dp + 1) + 16 ≤ 32 * (dp + 1) + 16 + q ∧ 32 * (dp + 1) + 16 + q < 32 * (dp + 1) + 16 + 3 then (σ1.wl 94 (32 * (dp + 1) + 4) sv).l 95 (0 + (32 * (dp + 1) + 16 + q - (32 * (dp + 1) + 16))) else _) = _
      rw [if_pos (by omega), wl_ne (by omega), l1 _ _ (by omega), Nat.add_sub_cancel_left, Nat.zero_add]
    have i2 : σ2.i = σ1.i := by
      rw [hσ2]
      rfl
    have F2 : FX ΦC σ2.sh σ2.r := by
      rw [hσ2]
      exact F1
    have s2 : σ2.sh = σ.sh ∧ σ2.r = σ.r := by
      rw [hσ2, hσ1]
      exact ⟨rfl, rfl⟩
    have go : ∀ σ3 : Sg, σ3.sh = σ2.sh → σ3.r = σ2.r → σ3.l = σ2.l → (∀ a q, a ≠ 97 → σ3.i a q = σ2.i a q) → (∀ (i x : Nat), (if S.2.2.2.1 < 512 then S.2.2.2.2 ++ [m] else S.2.2.2.2)[i]? = some x → σ3.i 97 i = Int32.ofNat x) → C_X4_beginMethod_150 Z (e + 2) σ3 (Int32.ofNat m) Kx := by
      intro σ3 q1 q2 q3 q4 q5
      refine T_X4_beginMethod_150 (by rw [q1, q2]; exact F2) ⟨ib_oN (by omega) (by decide), ?_⟩
      rw [oN_t (by omega), q4 83 18 (by decide), q4 14 m (by decide), i2, i1 83 18 (by decide), i1 14 m (by omega), m5, oN_1, t1]
      obtain ⟨τ, hτ⟩ : ∃ y, y = ((σ3.wi 83 18 (Int32.ofNat (S.2.2.2.1 + 1))).wi 83 7 (Int32.ofNat Sm)) := ⟨_, rfl⟩
      rw [← hτ]
      have li : ∀ a q, τ.l a q = σ2.l a q := fun a q => by
        rw [hτ]
        show σ3.l a q = _
        rw [q3]
      have ii : ∀ a q, a ≠ 97 → ¬ (a = 83 ∧ (q = 6 ∨ q = 7 ∨ q = 18)) → τ.i a q = σ.i a q := fun a q z1 z2 => by
        rw [hτ, wi_ne (by omega), wi_ne (by omega), q4 a q z1, i2, i1 a q (by omega)]
      have x1 : XF mE σ τ := by
        refine ⟨?_, ?_, fun a q => ⟨funext fun b => ?_, funext fun b => ?_⟩⟩
        · rw [hτ]
          show σ3.sh = _
          rw [q1, s2.1]
        · rw [hτ]
          show σ3.r = _
          rw [q2, s2.2]
        · unfold mE at q
          exact ii a b (by omega) (by omega)
        · unfold mE at q
          rw [li, l2 a b (by omega), l1 a b (by omega)]
      have Fh : FhS (dp + 1) bk m H i (if ins = 0 then 0 else 1) τ := by
        refine ⟨?_, ?_, ?_, ?_, ?_⟩
        · rw [li, l2 _ _ (by omega), g0]
        · rw [li, l2 _ _ (by omega), g1]
        · rw [li, l2 _ _ (by omega), g2]
        · rw [li, l2 _ _ (by omega), g3]
        · rw [li, l4, hsv]
      have i7 : τ.i 83 7 = Int32.ofNat Sm := by
        rw [hτ, wi_at]
      have i18 : τ.i 83 18 = Int32.ofNat (S.2.2.2.1 + 1) := by
        rw [hτ, wi_ne (by omega), wi_at]
      have i6' : τ.i 83 6 = Int32.ofNat (dp + 1) := by
        rw [hτ, wi_ne (by omega), wi_ne (by omega), q4 83 6 (by decide), i2, i6]
      have A1 : McA C W wy a0 ch U f fuel V (esB S m) 0 Sm (dp + 1) lt on stk (tn + 1) (j + 1) τ := by
        refine ⟨a1.xf x1, ⟨?_, ⟨?_, m2.2.1, fun b y hy => ?_⟩, i18, ?_, fun b y hy => ?_⟩, ⟨i7, ⟨s, ?_, as⟩, ⟨i6', by omega⟩, ?_, ?_, ?_, ?_, al, ⟨?_, ast.1.2⟩, fun b y hy => ?_⟩, ⟨af, af'⟩, ?_, ?_⟩
        · rw [ii 84 4 (by decide) (by decide)]
          exact m1
        · rw [ii 83 16 (by decide) (by decide)]
          exact m2.1
        · rw [ii 96 b (by decide) (by omega)]
          exact m2.2.2 b y hy
        · show (if S.2.2.2.1 < 512 then S.2.2.2.2 ++ [m] else S.2.2.2.2).length = min (S.2.2.2.1 + 1) 512
          split
          · rw [List.length_append, m6]
            show _ + 1 = _
            omega
          · rw [m6]
            omega
        · rw [hτ]
          show (Sg.wi (Sg.wi σ3 83 18 (Int32.ofNat (S.2.2.2.1 + 1))) 83 7 (Int32.ofNat Sm)).i 97 b = _
          rw [wi_ne (by omega), wi_ne (by omega)]
          exact q5 b y hy
        · rw [ii 83 14 (by decide) (by decide)]
          exact a14
        · rw [ii 83 8 (by decide) (by decide)]
          exact a8
        · rw [ii 83 9 (by decide) (by decide)]
          exact a9
        · rw [ii 83 11 (by decide) (by decide)]
          exact a11
        · rw [li, l2 _ _ (by omega), l1 _ _ (by omega)]
          exact a10
        · rw [ii 83 5 (by decide) (by decide)]
          exact ast.1.1
        · rw [li, l2 _ _ (by omega), l1 _ _ (by omega)]
          exact ast.2 b y hy
        · show S.2.2.2.1 + 1 ≤ tn + 1
          omega
        · show tn + 1 + (j + 1) ≤ 3 * S.1
          omega
      refine hx1 τ (pf_257 A1.fx A1.2.2.1.2.2.2.2.1 (kk τ Sm x1 (fun jj q => ?_) Fh (fun b y hy => ?_) (by omega) (fun b q hq => ?_) A1))
      · unfold Ne at q
        rw [li, l2 _ _ (by omega), l1 _ _ (by omega)]
      · have hb := (List.getElem?_eq_some_iff.mp hy).1
        rw [li, l16 b (by omega)]
        exact hg b y hy
      · rw [← cf.1, ← cf.2.1, ← cf.2.2]
        exact t4 b q hq
    refine ⟨fb 4 (by decide), ⟨by decide, ?_, by decide, by decide, ?_⟩, fun q => ?_, fun q => ⟨ib_oN (by omega) (by decide), ?_⟩⟩
    · rw [show Int32.ofNat (32 * (dp + 1) + 16) < 0 ↔ 32 * (dp + 1) + 16 < 0 from oN_lt (b := 0) (by omega) (by decide)]
      omega
    · rw [ft 16 (by decide)]
      show _ + 3 ≤ 832
      omega
    · refine go σ2 rfl rfl rfl (fun _ _ _ => rfl) (fun b y hy => ?_)
      rw [if_neg (by omega)] at hy
      rw [i2, i1 97 b (by omega)]
      exact m7 b y hy
    · rw [oN_t (by omega)]
      refine go _ rfl rfl rfl (fun a b q => wi_ne (by omega)) (fun b y hy => ?_)
      rw [if_pos (by omega)] at hy
      by_cases z : b < S.2.2.2.2.length
      · rw [List.getElem?_append_left z] at hy
        rw [wi_ne (by omega), i2, i1 97 b (by omega)]
        exact m7 b y hy
      · rw [List.getElem?_append_right (by omega)] at hy
        have bl := (List.getElem?_eq_some_iff.mp hy).1
        rw [List.length_singleton] at bl
        have be : b = S.2.2.2.2.length := by omega
        subst be
        rw [Nat.sub_self] at hy
        cases hy
        rw [wi_i, if_pos ⟨rfl, by omega⟩]
  refine ⟨fb 0 (by decide), fb 1 (by decide), fb 2 (by decide), fb 3 (by decide), fun q => fin 0 (by rw [if_pos q]), fun q => fin 1 (by rw [if_neg q])⟩
end ROWS

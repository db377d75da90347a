/-! THE CLASS: what runs inside -/
/-- the state of an INSIDE, in the frame F -/
def InS (F bk H ph tu : Nat) (jv : Int64) (args : List Int64) (σ : Sg) : Prop := σ.l 94 (32 * F) = Int32.toInt64 (Int32.ofNat bk) ∧ σ.l 94 (32 * F + 2) = Int32.toInt64 (Int32.ofNat H) ∧ σ.l 94 (32 * F + 5) = Int32.toInt64 (Int32.ofNat ph) ∧ σ.l 94 (32 * F + 6) = Int32.toInt64 (Int32.ofNat tu) ∧ σ.l 94 (32 * F + 7) = jv ∧ ∀ (i : Nat) y, args[i]? = some y → σ.l 94 (32 * F + 8 + i) = y
/-- what stays the same inside -/
def InX (C : Nat × Nat × Nat × Nat) (W : Wld) (dp c H bk nv : Nat) (R : Nat → List Nat × Bool) (args stk : List Int64) : Prop := (WfW W ∧ 1 ∈ mkW W.1 ∧ 2 ∈ mkW W.1) ∧ RwY W c R ∧ c < W.2.1.length ∧ H ≤ dp + 1 ∧ args.length = plW W.2.1 c ∧ (∀ x ∈ args, VlG W x) ∧ bk ≤ C.1 ∧ stk.length + 1 ≤ 49 * (dp + 1) ∧ nv ≤ 16 ∧ dp ≤ 24
/-- joined -/
def jqV (jn : Nat) (jv v : Int64) : Int64 × Bool := if jn = 1 then (vlX 1 (nmV jv + nmV v), false) else if jn = 2 then (vlX 1 (if nmV v = 0 then 0 else 1), decide (nmV v = 0)) else if jn = 3 then (vlX 1 (if nmV v = 0 then 0 else 1), decide (nmV v ≠ 0)) else if jn = 4 then (vlX 1 (if nmV v < nmV jv then nmV v else nmV jv), false) else (v, false)
section INS
variable {Z : zT} {d : Nat} {C V V' V2 : Nat × Nat × Nat × Nat} {W : Wld} {wy a0 ch U fuel : Nat} {f : Fc} {S : Es} {k P dp tn j nv hm : Nat} {lt : Int32} {on : List Nat} {stk vs args : List Int64} {σ τ υ : Sg} {K Kx : kS} {N : Nat → Prop} {e H role i m c bk ph tu : Nat} {R : Nat → List Nat × Bool} {jv v : Int64} {en : Ef}
theorem McA.qw (A : McA C W wy a0 ch U f fuel V S k P dp lt on stk tn j σ) : QwS C W wy a0 σ := by
  obtain ⟨⟨⟨u, h, -⟩, -⟩, -⟩ := A
  exact h.1
theorem McA.jn (A : McA C W wy a0 ch U f fuel V S k P dp lt on stk tn j σ) (hc : c < W.2.1.length) : σ.i 32 c = Int32.ofNat (jnW W.2.1 c) ∧ jnW W.2.1 c ≤ 4 ∧ c < 24 := by
  have q := A.qw
  have e : W.2.1[c]? = some W.2.1[c] := List.getElem?_eq_getElem hc
  have ej : jnW W.2.1 c = W.2.1[c].2.2.1 := by
    unfold jnW
    rw [e]
    rfl
  rw [ej]
  exact ⟨(q.2.1 c _ e).1, (q.2.2.2.2.1 _ (List.getElem_mem hc)).1, Nat.lt_of_lt_of_le hc q.1.2.2.2.1.1⟩
theorem McA.mc (A : McA C W wy a0 ch U f fuel V S k P dp lt on stk tn j σ) (hW : WfW W) (h1 : 1 ≤ m) (h2 : m ≤ W.2.2.2.length) (hg : gnW W.2.2.2 m = 0) (hm : mcW W.2.2.2 m = c) : σ.i 11 m = Int32.ofNat c ∧ m < 122 := by
  have ex : W.2.2.2[m - 1]? = some W.2.2.2[m - 1] := List.getElem?_eq_getElem (by omega)
  obtain ⟨t, t1, -⟩ := A.mt h1 ex
  obtain ⟨kc, w1, -⟩ := hW.2.2 _ (List.getElem_mem (show m - 1 < _ by omega))
  unfold gnW at hg
  unfold mcW at hm
  rw [ex] at hg hm
  dsimp only at hg hm
  have ng : ¬ W.2.2.2[m - 1].2 = true := fun z => by
    rw [z] at hg
    exact absurd hg (by decide)
  refine ⟨?_, by omega⟩
  rw [t.1, if_neg ng, w1, ← hm, w1]
  rfl
/-- after a method that ran inside -/
theorem InS.bck {σ1 : Sg} {ins : Int64} (h : InS (dp + 1) bk H ph tu jv args σ1) (g : MFr hm (Ne dp) V V' σ1 τ) (Fh : FhS (dp + 1) bk m H i ins τ) (ha : args.length ≤ 3) : InS (dp + 1) bk H ph tu jv args τ := by
  have w : ∀ q, 5 ≤ q → q < 16 → τ.l 94 (32 * (dp + 1) + q) = σ1.l 94 (32 * (dp + 1) + q) := fun q h1 h2 => g.2.2.2.1 _ (Or.inr (by omega))
  refine ⟨Fh.1, Fh.2.2.1, (w 5 (by omega) (by omega)).trans h.2.2.1, (w 6 (by omega) (by omega)).trans h.2.2.2.1, (w 7 (by omega) (by omega)).trans h.2.2.2.2.1, fun i y hy => ?_⟩
  have hi := (List.getElem?_eq_some_iff.mp hy).1
  rw [Nat.add_assoc, w (8 + i) (by omega) (by omega), ← Nat.add_assoc]
  exact h.2.2.2.2.2 i y hy
theorem InS.mS (h : InS (dp + 1) bk H ph tu jv args σ) (g : τ.l 94 = σ.l 94) : InS (dp + 1) bk H ph tu jv args τ := by
  unfold InS
  rw [g]
  exact h
/-- a method is run inside -/
theorem cl_inFrN {F q n : Nat} (Fx : FX ΦC σ.sh σ.r) (hF : F ≤ 25) (hq : q < 32) (hx : σ.l 94 (32 * F + q) = Int32.toInt64 (Int32.ofNat n)) (kk : Kx (.inl (some (.int (Int32.ofNat n)))) σ) : C_X4_inFrame_0 Z (e + 1) σ (Int32.ofNat F) (Int32.ofNat q) Kx := cl_inFrame Fx hF hq hx (by rw [nm_64]; exact kk)
theorem gi_153 {spot t0 : Nat} (hEn : EnM Z d C W wy a0 ch U f fuel dp en) (X : InX C W dp c H bk nv R args stk) (A : McA C W wy a0 ch U f fuel V S 0 P dp lt on stk tn (j + 2) σ) (I : InS (dp + 1) bk H ph t0 jv args σ) (hC : CcM H R σ) (hph : ph < 4) (htu : tu ≤ 200) (hi : (R ph).1[spot]? = some m) (h3 : ph = 3 → spot = (R 3).1.length - 1 - tu ∧ tu < (R 3).1.length) (h0 : ph ≠ 3 → spot = tu)
    (hx : ∀ τ, C_X4_perform_257 Z (d + 9) τ (Int32.ofNat fuel) (Int32.ofNat tn) K → Kx (.inl none) τ)
    (kk : ∀ σ1, MFr (dp + 1) (Nv dp nv) V V σ σ1 → InS (dp + 1) bk H ph (tu + 1) jv args σ1 → CcM H R σ1 → EnQ Z d C W wy a0 ch U f fuel V σ1 dp stk on lt j bk m H spot 1 (en (c, R) ph spot args on S) K) : C_X4_goOnInside_153 Z (e + 4) σ (Int32.ofNat (dp + 1) * 32) (Int32.ofNat H) (Int32.ofNat tu) (Int32.ofNat ph) (Int32.ofNat bk) Kx := by
  obtain ⟨x1, x2, x3, x4, x5, x6, x7, x8, x9, x10⟩ := X
  have hpl := plW_ok x1.1.2.1 x3
  have hF : dp + 1 ≤ 25 := by omega
  have z6 : Int32.ofNat (dp + 1) * 32 + 6 = Int32.ofNat (32 * (dp + 1) + 6) := (f32_ix (q := 6) hF (by decide)).1
  have z8 : Int32.ofNat (dp + 1) * 32 + 8 = Int32.ofNat (32 * (dp + 1) + 8) := (f32_ix (q := 8) hF (by decide)).1
  have b6 := (f32_ix (q := 6) hF (by decide)).2.1
  have t6 := (f32_ix (q := 6) hF (by decide)).2.2
  have t8 := (f32_ix (q := 8) hF (by decide)).2.2
  refine T_X4_goOnInside_153 A.fx ?_
  rw [z6, z8, t6, t8, oN_1]
  obtain ⟨σ1, hσ1⟩ : ∃ y, y = ((σ.wl 94 (32 * (dp + 1) + 6) (Int32.toInt64 (Int32.ofNat (tu + 1)))).cpL 94 (32 * (dp + 1) + 8) 95 ((0 : Int32).toNatClampNeg) ((3 : Int32).toNatClampNeg)) := ⟨_, rfl⟩
  rw [← hσ1]
  have l1 : ∀ a q, a ≠ 95 → ¬ (a = 94 ∧ q = 32 * (dp + 1) + 6) → σ1.l a q = σ.l a q := fun a q h1 h2 => by
    rw [hσ1]
    show (if a = 95 ∧ 0 ≤ q ∧ q < 0 + 3 then (σ.wl 94 (32 * (dp + 1) + 6) (Int32.toInt64 (Int32.ofNat (tu + 1)))).l 94 (32 * (dp + 1) + 8 + (q - 0)) else (σ.wl 94 (32 * (dp + 1) + 6) (Int32.toInt64 (Int32.ofNat (tu + 1)))).l a q) = _
    rw [if_neg (by omega), wl_ne (by omega)]
  have l6 : σ1.l 94 (32 * (dp + 1) + 6) = Int32.toInt64 (Int32.ofNat (tu + 1)) := by
    rw [hσ1]
    show (if 94 = 95 ∧ 0 ≤ 32 * (dp + 1) + 6 ∧ 32 * (dp + 1) + 6 < 0 + 3 then (σ.wl 94 (32 * (dp + 1) + 6) (Int32.toInt64 (Int32.ofNat (tu + 1)))).l 94 (32 * (dp + 1) + 8 + (32 * (dp + 1) + 6 - 0)) else (σ.wl 94 (32 * (dp + 1) + 6) (Int32.toInt64 (Int32.ofNat (tu + 1)))).l 94 (32 * (dp + 1) + 6)) = _
    rw [if_neg (by omega), wl_eq]
  have l95 : ∀ q, q < 3 → σ1.l 95 q = σ.l 94 (32 * (dp + 1) + 8 + q) := fun q hq => by
    rw [hσ1]
    show (if 95 = 95 ∧ 0 ≤ q ∧ q < 0 + 3 then (σ.wl 94 (32 * (dp + 1) + 6) (Int32.toInt64 (Int32.ofNat (tu + 1)))).l 94 (32 * (dp + 1) + 8 + (q - 0)) else (σ.wl 94 (32 * (dp + 1) + 6) (Int32.toInt64 (Int32.ofNat (tu + 1)))).l 95 q) = _
    rw [if_pos (by omega), wl_ne (by omega), Nat.sub_zero]
  have x94 : XF (fun a => a = 94 ∨ a = 95) σ σ1 := by
    refine ⟨?_, ?_, fun a q => ⟨?_, funext fun b => l1 a b (by omega) (by omega)⟩⟩
    · rw [hσ1]; rfl
    · rw [hσ1]; rfl
    · rw [hσ1]; rfl
  have A1 := A.fr x94
  have g1 : MFr (dp + 1) (Nv dp nv) V V σ σ1 := (x94.mono (E' := mE) (fun a q => by unfold mE; omega)).mf _ _ (fun jj q => l1 94 jj (by decide) (by unfold Nv at q; omega))
  have C1 : CcM H R σ1 := hC.mf ((x94.mono (E' := mE) (fun a q => by unfold mE; omega)).mf (N := fun _ => False) (dp + 2) V (fun _ q => q.elim)) (by omega)
  have I1 : InS (dp + 1) bk H ph (tu + 1) jv args σ1 := ⟨(l1 _ _ (by decide) (by omega)).trans I.1, (l1 _ _ (by decide) (by omega)).trans I.2.1, (l1 _ _ (by decide) (by omega)).trans I.2.2.1, l6, (l1 _ _ (by decide) (by omega)).trans I.2.2.2.2.1, fun b y hy => (l1 _ _ (by decide) (by omega)).trans (I.2.2.2.2.2 b y hy)⟩
  have hg : ∀ (b : Nat) y, args[b]? = some y → σ1.l 95 b = y := fun b y hy => by
    have hb := (List.getElem?_eq_some_iff.mp hy).1
    rw [l95 b (by omega)]
    exact I.2.2.2.2.2 b y hy
  have go : C_X4_beginMethod_0 Z (e + 3) σ1 (Int32.ofNat H) (Int32.ofNat ph) (Int32.ofNat spot) (Int32.ofNat bk) 1 (yN Kx fun τ9 => Kx (.inl none) τ9) := hEn V P (e + 1) ph spot m c H bk R args 1 on S stk lt tn j σ1 K _ hph hi x2 x3 x4 C1 x5 x6 hg (Or.inr rfl) x7 A1 x8 (kk σ1 g1 I1 C1) hx
  refine ⟨b6, ⟨by decide, by decide, ?_, ?_, by decide⟩, fun q => ?_, fun q => ?_⟩
  · rw [show Int32.ofNat (32 * (dp + 1) + 8) < 0 ↔ 32 * (dp + 1) + 8 < 0 from oN_lt (b := 0) (by omega) (by decide)]
    omega
  · rw [t8]
    show _ + 3 ≤ 832
    omega
  · have np : ph ≠ 3 := fun z => q (by rw [z]; rfl)
    rw [h0 np] at go
    exact go
  · have ep : ph = 3 := by
      rw [show (3 : Int32) = Int32.ofNat 3 from rfl, oN_eq (by omega) (by decide)] at q
      exact q
    have r3 := (x2.1 3).1
    obtain ⟨s1, s2⟩ := h3 ep
    refine cl_size (role := 3) A1.fx (by omega) (by decide) C1 ?_
    show C_X4_beginMethod_0 Z (e + 3) σ1 (Int32.ofNat H) (Int32.ofNat ph) (Int32.ofNat (R 3).1.length - 1 - Int32.ofNat tu) (Int32.ofNat bk) 1 _
    rw [oN_p1 (by omega), oN_sub (by omega), ← s1]
    exact go
/-- the values of plain ones are joined -/
theorem cl_joinV (A : McA C W wy a0 ch U f fuel V S 0 P dp lt on stk tn (j + 2) σ) (X : InX C W dp c H bk nv R args stk) (I : InS (dp + 1) bk H 0 tu jv args σ) (hm : σ.l 94 (32 * (dp + 1) + 1) = Int32.toInt64 (Int32.ofNat m)) (h1 : 1 ≤ m) (h2 : m ≤ W.2.2.2.length) (hg : gnW W.2.2.2 m = 0) (hmc : mcW W.2.2.2 m = c)
    (kk : ∀ τ, MFr (dp + 2) (fun jj => jj < 32 * (dp + 1)) V V σ τ → InS (dp + 1) bk H 0 (if (jqV (jnW W.2.1 c) jv v).2 = true then 120 else tu) (jqV (jnW W.2.1 c) jv v).1 args τ → McA C W wy a0 ch U f fuel V S 0 P dp lt on stk tn (j + 2) τ → Kx (.inl none) τ) : C_X4_joinValue_0 Z (e + 2) σ (Int32.ofNat (dp + 1)) v Kx := by
  obtain ⟨x1, x2, x3, x4, x5, x6, x7, x8, x9, x10⟩ := X
  have hF : dp + 1 ≤ 25 := by omega
  obtain ⟨mc, m122⟩ := A.mc x1.1 h1 h2 hg hmc
  obtain ⟨jn, jn4, c24⟩ := A.jn x3
  have z6 : Int32.ofNat (dp + 1) * 32 + 6 = Int32.ofNat (32 * (dp + 1) + 6) := (f32_ix (q := 6) hF (by decide)).1
  have z7 : Int32.ofNat (dp + 1) * 32 + 7 = Int32.ofNat (32 * (dp + 1) + 7) := (f32_ix (q := 7) hF (by decide)).1
  have b6 := (f32_ix (q := 6) hF (by decide)).2.1
  have t6 := (f32_ix (q := 6) hF (by decide)).2.2
  have b7 := (f32_ix (q := 7) hF (by decide)).2.1
  have t7 := (f32_ix (q := 7) hF (by decide)).2.2
  have fin : ∀ (l7 : Int32) (l8 : Int64), l8 = (jqV (jnW W.2.1 c) jv v).1 → (l7 = 0 ↔ (jqV (jnW W.2.1 c) jv v).2 = false) → C_X4_joinValue_172 Z (e + 2) σ (Int32.ofNat (dp + 1) * 32) l7 l8 Kx := by
    intro l7 l8 e8 e7
    refine T_X4_joinValue_172 A.fx ?_
    rw [z6, z7, t6, t7, e8]
    refine ⟨b7, fun q => ?_, fun q => ⟨b6, ?_⟩⟩
    · rw [e7.mp q, if_neg (by decide)] at kk
      have y1 : XF (fun a => a = 94 ∨ a = 95) σ (σ.wl 94 (32 * (dp + 1) + 7) (jqV (jnW W.2.1 c) jv v).1) := (XF.refl _ _).wl (Or.inl rfl)
      refine kk _ ((y1.mono (E' := mE) (fun a q => by unfold mE; omega)).mf _ _ (fun jj q => wl_ne (by omega))) ⟨?_, ?_, ?_, ?_, wl_eq, fun b y hy => ?_⟩ (A.fr y1)
      · rw [wl_ne (by omega)]; exact I.1
      · rw [wl_ne (by omega)]; exact I.2.1
      · rw [wl_ne (by omega)]; exact I.2.2.1
      · rw [wl_ne (by omega)]; exact I.2.2.2.1
      · rw [wl_ne (by omega)]; exact I.2.2.2.2.2 b y hy
    · have q' : (jqV (jnW W.2.1 c) jv v).2 = true := by
        cases z : (jqV (jnW W.2.1 c) jv v).2
        · exact absurd (e7.mpr z) q
        · rfl
      rw [if_pos q'] at kk
      have y1 : XF (fun a => a = 94 ∨ a = 95) σ ((σ.wl 94 (32 * (dp + 1) + 7) (jqV (jnW W.2.1 c) jv v).1).wl 94 (32 * (dp + 1) + 6) (120 : Int64)) := ((XF.refl _ _).wl (Or.inl rfl)).wl (Or.inl rfl)
      refine kk _ ((y1.mono (E' := mE) (fun a q => by unfold mE; omega)).mf _ _ (fun jj q => (wl_ne (by omega)).trans (wl_ne (by omega)))) ⟨?_, ?_, ?_, ?_, ?_, fun b y hy => ?_⟩ (A.fr y1)
      · rw [wl_ne (by omega), wl_ne (by omega)]; exact I.1
      · rw [wl_ne (by omega), wl_ne (by omega)]; exact I.2.1
      · rw [wl_ne (by omega), wl_ne (by omega)]; exact I.2.2.1
      · rw [wl_eq]; decide
      · rw [wl_ne (by omega), wl_eq]
      · rw [wl_ne (by omega), wl_ne (by omega)]; exact I.2.2.2.2.2 b y hy
  refine T_X4_joinValue_0 A.fx ?_
  refine cl_inFrame (q := 7) A.fx hF (by decide) I.2.2.2.2.1 (cl_inFrame (q := 1) A.fx hF (by decide) hm ?_)
  show ib (nmV (Int32.toInt64 (Int32.ofNat m))) 122 ∧ _
  rw [nm_64, oN_t (by omega), mc, oN_t (by omega), jn]
  refine ⟨ib_oN m122 (by decide), ib_oN c24 (by decide), ?_⟩
  have ne : ∀ a b : Nat, a ≤ 4 → b ≤ 4 → a ≠ b → ¬ Int32.ofNat a = Int32.ofNat b := fun a b ha hb h q => h ((oN_eq (by omega) (by omega)).mp q)
  have cs : jnW W.2.1 c = 0 ∨ jnW W.2.1 c = 1 ∨ jnW W.2.1 c = 2 ∨ jnW W.2.1 c = 3 ∨ jnW W.2.1 c = 4 := by omega
  rcases cs with q | q | q | q | q
  · rw [q] at fin ⊢
    refine ⟨fun z => absurd z (by decide), fun z => absurd z (by decide), fun z => absurd z (by decide), fun z => absurd z (by decide), fun _ _ _ _ => ?_⟩
    exact fin 0 v rfl ⟨fun _ => rfl, fun _ => rfl⟩
  · rw [q] at fin ⊢
    refine ⟨fun _ => T_X4_valueOf_0 A.fx ?_, fun z => absurd z (by decide), fun z => absurd z (by decide), fun z => absurd z (by decide), fun z => absurd rfl z⟩
    exact fin 0 _ rfl ⟨fun _ => rfl, fun _ => rfl⟩
  · rw [q] at fin ⊢
    refine ⟨fun z => absurd z (by decide), fun _ => ?_, fun z => absurd z (by decide), fun z => absurd z (by decide), fun _ z => absurd rfl z⟩
    refine ⟨fun z => ?_, fun z => ?_⟩
    · have z : ¬ nmV v = 0 := z
      refine T_X4_joinValue_121 A.fx (T_X4_valueOf_0 A.fx ⟨fun _ => T_X4_joinValue_136 A.fx (fin 0 _ ?_ ⟨fun _ => ?_, fun _ => rfl⟩), fun z' => absurd z' z⟩)
      · show vlX 1 1 = vlX 1 (if nmV v = 0 then 0 else 1)
        rw [if_neg z]
      · show decide (nmV v = 0) = false
        exact decide_eq_false z
    · have z : nmV v = 0 := z
      refine T_X4_joinValue_121 A.fx (T_X4_valueOf_0 A.fx ⟨fun z' => absurd z z', fun _ => T_X4_joinValue_136 A.fx (fin 1 _ ?_ ⟨fun z' => absurd z' (by decide), fun z' => ?_⟩)⟩)
      · show vlX 1 0 = vlX 1 (if nmV v = 0 then 0 else 1)
        rw [if_pos z]
      · have z' : decide (nmV v = 0) = false := z'
        exact absurd z (of_decide_eq_false z')
  · rw [q] at fin ⊢
    refine ⟨fun z => absurd z (by decide), fun z => absurd z (by decide), fun _ => ?_, fun z => absurd z (by decide), fun _ _ z => absurd rfl z⟩
    refine ⟨fun z => ?_, fun z => ?_⟩
    · have z : ¬ nmV v = 0 := z
      refine T_X4_joinValue_152 A.fx (T_X4_valueOf_0 A.fx ⟨fun z' => absurd z' z, fun _ => T_X4_joinValue_167 A.fx (fin 1 _ ?_ ⟨fun z' => absurd z' (by decide), fun z' => ?_⟩)⟩)
      · show vlX 1 1 = vlX 1 (if nmV v = 0 then 0 else 1)
        rw [if_neg z]
      · have z' : decide (nmV v ≠ 0) = false := z'
        exact absurd z (of_decide_eq_false z')
    · have z : nmV v = 0 := z
      refine T_X4_joinValue_152 A.fx (T_X4_valueOf_0 A.fx ⟨fun _ => T_X4_joinValue_167 A.fx (fin 0 _ ?_ ⟨fun _ => ?_, fun _ => rfl⟩), fun z' => absurd z z'⟩)
      · show vlX 1 0 = vlX 1 (if nmV v = 0 then 0 else 1)
        rw [if_pos z]
      · show decide (nmV v ≠ 0) = false
        exact decide_eq_false (fun y => y z)
  · rw [q] at fin ⊢
    refine ⟨fun z => absurd z (by decide), fun z => absurd z (by decide), fun z => absurd z (by decide), fun _ => T_X4_valueOf_0 A.fx ?_, fun _ _ _ z => absurd rfl z⟩
    exact fin 0 _ rfl ⟨fun _ => rfl, fun _ => rfl⟩
/-- how many plain ones run -/
theorem cl_turns (A : McA C W wy a0 ch U f fuel V S 0 P dp lt on stk tn j σ) (X : InX C W dp c H bk nv R args stk) (hC : CcM H R σ) (h0 : 0 < (R 0).1.length) (kk : Kx (.inl (some (.int (Int32.ofNat (if jnW W.2.1 c = 0 then 1 else (R 0).1.length))))) σ) : C_X4_plainTurns_0 Z (e + 2) σ (Int32.ofNat H) Kx := by
  obtain ⟨x1, x2, x3, x4, x5, x6, x7, x8, x9, x10⟩ := X
  obtain ⟨m, hm⟩ : ∃ m, (R 0).1[0]? = some m := ⟨_, List.getElem?_eq_getElem h0⟩
  have hmem := List.mem_of_getElem? hm
  obtain ⟨⟨m1, m2⟩, m3⟩ := (x2.1 0).2 m hmem
  obtain ⟨mc, m122⟩ := A.mc x1.1 m1 m2 (x2.2.1 0 m hmem) m3
  obtain ⟨jn, jn4, c24⟩ := A.jn x3
  refine T_X4_plainTurns_0 A.fx (cl_inRow (role := 0) (i := 0) A.fx (by omega) (by decide) hC hm ?_)
  show ib (Int32.ofNat m) 122 ∧ _
  rw [oN_t (by omega), mc, oN_t (by omega), jn, show (0 : Int32) = Int32.ofNat 0 from rfl, oN_eq (by omega) (by decide)]
  refine ⟨ib_oN m122 (by decide), ib_oN c24 (by decide), fun q => ?_, fun q => ?_⟩
  · rw [if_neg q] at kk
    exact cl_size (role := 0) A.fx (by omega) (by decide) hC kk
  · rw [if_pos q] at kk
    exact kk
end INS

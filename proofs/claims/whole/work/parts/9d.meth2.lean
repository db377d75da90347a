/-! THE REFERENCE'S READER: method(), from its E on -/
theorem thX.mono {σ τ : Sg} {M mn pl : Nat} (hM : MtP M) (hmn : mn ≤ 120) (h : ∀ a, 50 ≤ a → a < 3365 → a ≠ 54 → τ.i a = σ.i a ∧ τ.r a = σ.r a) : thX τ M mn pl ↔ thX σ M mn pl := by
  have hr := hM.rg
  have h0 := h M (by omega) (by omega) (by omega)
  have h1 := h (M + 1) (by omega) (by omega) (by omega)
  have h2 := h (M + 2) (by omega) (by omega) (by omega)
  have h3 := h (M + 3) (by omega) (by omega) (by omega)
  have key : ∀ j, 1 ≤ j → j ≤ mn → (thQ τ M pl j ↔ thQ σ M pl j) := by
    intro j j1 j2
    unfold thQ spQ
    rw [h0.1, h1.1, h2.1, h3.1, (h (2497 + 4 * j) (by omega) (by omega) (by omega)).1, (h (2497 + 4 * j) (by omega) (by omega) (by omega)).2, (h (2497 + 4 * j + 1) (by omega) (by omega) (by omega)).1, (h (2497 + 4 * j + 2) (by omega) (by omega) (by omega)).1, (h (2497 + 4 * j + 3) (by omega) (by omega) (by omega)).1]
  unfold thX
  rw [h0.2]
  constructor
  · rintro ⟨g1, j, g2, g3, g4⟩
    exact ⟨g1, j, g2, g3, (key j g2 g3).mp g4⟩
  · rintro ⟨g1, j, g2, g3, g4⟩
    exact ⟨g1, j, g2, g3, (key j g2 g3).mpr g4⟩
section METH2
variable {Z : zT} {d : Nat} {t : Nat → Int32} {n : Nat} {env : Env} {B1 x1 : Int32} {σ τ : Sg} {p c o : Nat} {vs : List (Nat × Nat)} {es E : Evs} {m : Nat} {lst : List Nat} {cap u : Nat} {K : kS} {M : Nat}
/-- one method more -/
theorem rs_m397 {mn : Nat} (hM : MtP M) (hmn : mn ≤ 120) (S : RS t n 5 env (B1, x1, Rf.ptr 5) σ p c o vs es m lst cap u) (e6 : σ.i 0 6 = Int32.ofNat mn) (h : ∀ τ, RS t n 5 env (B1, x1, Rf.ptr 5) τ p c o vs es m lst cap u → MF 5 M σ τ lst cap lst cap (fun _ => False) → (∀ a, a ≠ 0 → τ.i a = σ.i a) → τ.r = σ.r → τ.l = σ.l → τ.sh = σ.sh → τ.i 0 6 = Int32.ofNat (if mn < 120 then mn + 1 else mn) → K (.inl none) τ) : B_X23_method_397 Z (d + 1) σ K := by
  obtain ⟨b1, b2, b3, b4, b5⟩ := S.bd
  refine S_X23_method_397 S.fx ⟨fun z => ?_, fun z => ?_⟩
  · rw [e6] at z
    have := (oN_le (a := 120) (by omega) (by omega)).mp z
    exact h σ S (MF.refl _ _ _ _ _ _) (fun _ _ => rfl) rfl rfl rfl (by rw [if_neg (by omega)]; exact e6)
  · rw [e6] at z
    have hlt : mn < 120 := Nat.lt_of_not_le fun y => z ((oN_le (a := 120) (by omega) (by omega)).mpr y)
    have e : ∀ j, j ≠ 6 → (σ.wi 0 6 (σ.i 0 6 + 1)).i 0 j = σ.i 0 j := fun j hj => wi_ne (by omega)
    refine h _ (S.gen (τ := σ.wi 0 6 (σ.i 0 6 + 1)) S.fx rfl (fun a ha => wi_row (by omega)) (e 15 (by decide)) (S.en.mono (fun a a1 a2 => wi_row (by omega)) (fun j hj => e j (by omega))) S.md rfl (fun _ _ => rfl) ?_ (S.vr.mono (e 32 (by decide)) (fun j _ => wi_ne (by omega))) S.vo ((e 20 (by decide)).trans S.op) ((e 21 (by decide)).trans S.ct) (S.rl.mono (e 23 (by decide)) (e 24 (by decide)) (e 27 (by decide))) ((e 22 (by decide)).trans S.cc) ⟨b4, b5⟩) (mf_0 (Or.inr (Or.inr rfl))) (fun a ha => wi_row ha) rfl rfl rfl ?_
    · obtain ⟨w1, w2, w3, w4, w5, w6⟩ := S.cur
      exact ⟨w1, (e 18 (by decide)).trans w2, (e 16 (by decide)).trans w3, (e 17 (by decide)).trans w4, fun a b => (e 19 (by decide)).trans (w5 a b), fun a b => ⟨(e 26 (by decide)).trans (w6 a b).1, (w6 a b).2⟩⟩
    · rw [wi_at, e6, if_pos hlt, oN_1]
/-- what a twin breaks -/
def twE (tw : Evs) (es : Evs) (q : Nat) (P : Prop) : Prop := (tw = [(q, 2)] ∧ es = [] ∧ P) ∨ (tw = [] ∧ ¬ (es = [] ∧ P))
theorem rs_m346 (hZ : ZK Z) (hd : 70 ≤ d) {mn pl q : Nat} {cO : Option Nat} (hM : MtP M) (hmn : mn ≤ 120) (hq : q ≤ 8192) (S : RS t n 5 env (B1, x1, Rf.ptr 5) σ p c o vs (E ++ es) m lst cap u) (hu : u + 2 ≤ 23000) (hvs : vs.length ≤ 3) (e6 : σ.i 0 6 = Int32.ofNat mn) (hesl : es.length ≤ 2000000) (hcO : ∀ k, cO = some k → k < 24 ∧ σ.i M 0 = Int32.ofNat k ∧ σ.i (2409 + 3 * k) 1 = Int32.ofNat pl ∧ pl ≤ 3 ∧ ∃ nm, env.2.1 nm = some k) (hcN : cO = none → es ≠ [])
    (h1 : ∀ p8 c8 es8 y, pX t n (wiE env (wiO cO)) 12 false (vsN t vs) p 0 = .inr (p8, c8, es8, y) → tyS t n p8 = 7 → ∀ τ tw m' lst' cap', twE tw (es ++ es8) q (thX τ M mn pl) → RS t n 5 (wiE env (wiO cO)) (B1, x1, Rf.ptr 5) τ (nxS t n p8) c8 0 vs (E ++ (es ++ es8) ++ tw) m' lst' cap' u → MF 5 M σ τ lst cap lst' cap' (fun i => m ≤ i) → m ≤ m' → p ≤ nxS t n p8 → (∀ a, M ≤ a → a < M + 4 → τ.i a = σ.i a) → (∀ k, k ≠ 9 → τ.r M k = σ.r M k) → TrN τ (Rg lst' m m') y (τ.r M 9) → τ.i 0 6 = Int32.ofNat (if mn < 120 then mn + 1 else mn) → K (.inl none) τ)
    (h0 : ∀ b, (pX t n (wiE env (wiO cO)) 12 false (vsN t vs) p 0 = .inl b ∨ ∃ c8 es8 y, pX t n (wiE env (wiO cO)) 12 false (vsN t vs) p 0 = .inr (b, c8, es8, y) ∧ tyS t n b ≠ 7) → ∀ τ a, WM n 5 M σ lst m cap τ a b → K (.inr ("DispatchHouseModel$Wrong", a)) τ) : B_X23_method_346 Z (d + 1) σ (Int32.ofNat q) (B1 + Int32.ofNat E.length) M (Int32.ofInt (wiO cO)) K := by
  obtain ⟨b1, b2, b3, b4, b5⟩ := S.bd
  have hr := hM.rg
  have hpn := S.pn
  refine S_X23_method_346 S.fx hM.sh ?_
  have e : ∀ j, j ≠ 33 → j ≠ 21 → j ≠ 20 → (((σ.wi 0 33 (Int32.ofInt (wiO cO))).wi 0 21 0).wi 0 20 0).i 0 j = σ.i 0 j := fun j j1 j2 j3 => ((wi_ne (by omega)).trans (wi_ne (by omega))).trans (wi_ne (by omega))
  have ea : ∀ a, a ≠ 0 → (((σ.wi 0 33 (Int32.ofInt (wiO cO))).wi 0 21 0).wi 0 20 0).i a = σ.i a := fun a ha => ((wi_row ha).trans (wi_row ha)).trans (wi_row ha)
  have S1 : RS t n 5 (wiE env (wiO cO)) (B1, x1, Rf.ptr 5) (((σ.wi 0 33 (Int32.ofInt (wiO cO))).wi 0 21 0).wi 0 20 0) p 0 0 vs (E ++ es) m lst cap u := by
    refine S.gen (τ := ((σ.wi 0 33 (Int32.ofInt (wiO cO))).wi 0 21 0).wi 0 20 0) S.fx rfl (fun a a1 => ea a (by omega)) (e 15 (by decide) (by decide) (by decide)) (S.en.wi (w := wiO cO) ((wi_ne (by omega)).trans ((wi_ne (by omega)).trans (wi_at _ _ _ _))) ⟨_, rfl, ?_⟩ (fun a a1 a2 => ea a (by omega)) (fun j hj => e j (by omega) (by omega) (by omega))) S.md rfl (fun _ _ => rfl) ?_ (S.vr.mono (e 32 (by decide) (by decide) (by decide)) (fun j _ => by rw [ea 54 (by decide)])) ⟨by omega, by omega⟩ (wi_at _ _ _ _) ((wi_ne (by omega)).trans (wi_at _ _ _ _)) (S.rl.mono (e 23 (by decide) (by decide) (by decide)) (e 24 (by decide) (by decide) (by decide)) (e 27 (by decide) (by decide) (by decide))) ((e 22 (by decide) (by decide) (by decide)).trans S.cc) ⟨b4, b5⟩
    · cases cO with
      | none => exact ⟨by decide, Or.inl (by decide)⟩
      | some k =>
        obtain ⟨-, -, -, -, nm, hnm⟩ := hcO k rfl
        refine ⟨?_, Or.inr ⟨nm, k, hnm, rfl⟩⟩
        show (-2 : Int) ≤ (k : Int)
        omega
    · obtain ⟨w1, w2, w3, w4, w5, w6⟩ := S.cur
      exact ⟨w1, (e 18 (by decide) (by decide) (by decide)).trans w2, (e 16 (by decide) (by decide) (by decide)).trans w3, (e 17 (by decide) (by decide) (by decide)).trans w4, fun a b => (e 19 (by decide) (by decide) (by decide)).trans (w5 a b), fun a b => ⟨(e 26 (by decide) (by decide) (by decide)).trans (w6 a b).1, (w6 a b).2⟩⟩
  have H1 : MF 5 M σ (((σ.wi 0 33 (Int32.ofInt (wiO cO))).wi 0 21 0).wi 0 20 0) lst cap lst cap (fun i => m ≤ i) := (((MF.refl 5 M σ lst cap (fun i => m ≤ i)).tr (mf_0 (k := 33) (Or.inr (Or.inl rfl))) (fun _ z => z.elim)).tr (mf_0 (k := 21) (Or.inl (by decide))) (fun _ z => z.elim)).tr (mf_0 (k := 20) (Or.inl (by decide))) (fun _ z => z.elim)
  have hw9 : (wiE env (wiO cO)).2.2.2.2.2 ≠ 999 := by
    show wiO cO ≠ 999
    cases hcc : cO with
    | none => decide
    | some k =>
      have := (hcO k hcc).1
      show (k : Int) ≠ 999
      omega
  refine (fol_X (B := (B1, x1)) hZ hw9 12 0 d (by omega) (by omega)).1 _ p 0 vs (E ++ es) m lst cap u _ S1 hu (fun p8 c8 es8 y hf τ2 m2 lst2 cap2 r2 S2 G2 hm2 hp2 T2 hr2 => Or.inl ⟨r2, rfl, ?_⟩) (fun b hf τ2 a w => Or.inr ⟨_, rfl, h0 b (Or.inl hf) τ2 a ((w.wm).tr H1 (fun _ z => z) (Nat.le_refl _))⟩)
  obtain ⟨S3, G3⟩ := S2.mwr hM (k := 9) (x := r2) (Or.inr rfl)
  have H3 := (H1.tr G2.mf (fun _ z => z)).tr G3 (fun _ z => z.elim)
  have hpn2 := S2.pn
  refine rs_want (y := 7) (by decide) hZ (by omega) S3 (fun h7 τ4 S4 G4 => ?_) (fun n7 τ4 a w => h0 p8 (Or.inr ⟨c8, es8, y, hf, n7⟩) τ4 a ((w.wm).tr H3 (fun _ z => z) hm2))
  have H4 := H3.tr G4.mf (fun _ z => z.elim)
  have hg := nxS_gt (t := t) (n := n) (p := p8) (ty_pos (t := t) (by omega))
  have hbd := bd_x 12 false _ _ _ _ _ _ _ hf
  have hi4 : ∀ a, M ≤ a → a < M + 4 → τ4.i a = σ.i a := fun a a1 a2 => by
    rw [rf_lo S3 G4 (by omega) (by omega) (by omega)]
    show τ2.i a = _
    rw [rf_lo S1 G2 (by omega) (by omega) (by omega), ea a (by omega)]
  have hr4 : ∀ k, k ≠ 9 → τ4.r M k = σ.r M k := fun k hk => by
    rw [rf_Mr S3 G4 (by omega) (by omega) (by omega), wr_ne (by omega), rf_Mr S1 G2 (by omega) (by omega) (by omega)]
    rfl
  have hr9 : τ4.r M 9 = r2 := by
    rw [rf_Mr S3 G4 (by omega) (by omega) (by omega), wr_at]
  have e64 : τ4.i 0 6 = Int32.ofNat mn := by
    rw [G4.2.2.1 6 (by decide)]
    show τ2.i 0 6 = _
    rw [G2.2.2.1 6 (by decide), e 6 (by decide) (by decide) (by decide)]
    exact e6
  have T4 : TrN τ4 (Rg lst2 m m2) y r2 := by
    have T3 : TrN (τ2.wr M 9 r2) (Rg lst2 m m2) y r2 := TrN.mono (σ := τ2) (τ := τ2.wr M 9 r2) (fun z hz hs => ⟨hz, hs, rfl, rfl, wr_row (σ := τ2) (a := M) (k := 9) (v := r2) (b := z) (fun q => by
      have := nd_ge S2.fx hs
      omega)⟩) y r2 T2
    exact T3.fr S3 G4 (fun _ _ _ z => z)
  rw [List.append_assoc] at S4
  have hlen : (E ++ (es ++ es8)).length = E.length + (es ++ es8).length := List.length_append
  have hsm : (es ++ es8).length ≤ 2100000 := by
    rw [List.length_append]
    omega
  have h27 : τ4.i 0 27 = B1 + Int32.ofNat E.length + Int32.ofNat (es ++ es8).length := by
    rw [S4.rl.2.1, hlen, Int32.add_assoc, oN_add]
  have heq27 : τ4.i 0 27 = B1 + Int32.ofNat E.length ↔ es ++ es8 = [] := by
    rw [h27]
    constructor
    · intro z
      have z2 : Int32.ofNat (es ++ es8).length = 0 := by
        have z3 : B1 + Int32.ofNat E.length + Int32.ofNat (es ++ es8).length = B1 + Int32.ofNat E.length + 0 := by rw [z, Int32.add_zero]
        exact (Int32.add_right_inj _).mp z3
      have := (oN_eq (b := 0) (by omega) (by omega)).mp z2
      exact List.eq_nil_of_length_eq_zero this
    · intro z
      rw [z]
      exact Int32.add_zero _
  have fin : ∀ (τ5 : Sg) (tw : Evs), twE tw (es ++ es8) q (thX τ5 M mn pl) → RS t n 5 (wiE env (wiO cO)) (B1, x1, Rf.ptr 5) τ5 (nxS t n p8) c8 0 vs (E ++ (es ++ es8) ++ tw) m2 lst2 cap2 (u - 2) → RF 5 vs.length τ4 τ5 lst2 cap2 lst2 cap2 (fun _ => False) → B_X23_method_397 Z (d + 1) τ5 K := by
    intro τ5 tw htw S5 G5
    have e65 : τ5.i 0 6 = Int32.ofNat mn := by
      rw [G5.2.2.1 6 (by decide)]
      exact e64
    refine rs_m397 hM hmn S5 e65 (fun τ6 S6 G6 ea6 er6 el6 es6 e66 => ?_)
    refine h1 p8 c8 es8 y hf h7 τ6 tw m2 lst2 cap2 ?_ (S6.wk (by omega) (by omega)) ((H4.tr G5.mf (fun _ z => z.elim)).tr G6 (fun _ z => z.elim)) hm2 (by omega) (fun a a1 a2 => ?_) (fun k hk => ?_) ?_ e66
    · have := thX.mono (σ := τ5) (τ := τ6) (pl := pl) hM hmn (fun a a1 a2 a3 => ⟨ea6 a (by omega), by rw [er6]⟩)
      unfold twE at htw ⊢
      rw [this]
      exact htw
    · rw [ea6 a (by omega), rf_lo S4 G5 (by omega) (by omega) (by omega)]
      exact hi4 a a1 a2
    · rw [er6, rf_Mr S4 G5 (by omega) (by omega) (by omega)]
      exact hr4 k hk
    · rw [er6, rf_Mr S4 G5 (by omega) (by omega) (by omega), hr9]
      refine (T4.fr S4 G5 (fun _ _ _ z => z)).mono (fun z hz hs => ⟨hz, ?_, ea6 z ?_, by rw [el6], by rw [er6]⟩)
      · rw [es6]
        exact hs
      · have := nd_ge S5.fx hs
        omega
  refine ⟨fun z => ?_, fun z => ?_⟩
  · exact fin τ4 [] (Or.inr ⟨rfl, fun y => z (heq27.mpr y.1)⟩) (by rw [List.append_nil]; exact S4) (RF.refl _ _ _ _ _ _)
  · have hnil := heq27.mp z
    cases cO with
    | none => exact absurd (List.append_eq_nil_iff.mp hnil).1 (hcN rfl)
    | some k =>
      obtain ⟨k1, k2, k3, k4, -⟩ := hcO k rfl
      obtain ⟨d, rfl⟩ : ∃ e, d = e + 1 := ⟨d - 1, by omega⟩
      have hM0 : τ4.i M 0 = Int32.ofNat k := by
        rw [hi4 M (Nat.le_refl _) (by omega)]
        exact k2
      have hpk : τ4.i (2409 + 3 * k) 1 = Int32.ofNat pl := by
        rw [rf_lo S3 G4 (by omega) (by omega) (by omega)]
        show τ2.i (2409 + 3 * k) 1 = _
        rw [rf_lo S1 G2 (by omega) (by omega) (by omega), ea _ (by omega)]
        exact k3
      refine rf_isThere S4.fx hM e64 hmn hM0 k1 hpk k4 (fun hx => ⟨fun y => absurd y (by decide), fun _ => ?_⟩) (fun hx => ⟨fun _ => ?_, fun y => absurd rfl y⟩)
      · refine rs_breaks (r := 2) (by omega) hq (by decide) S4 (fun τ5 S5 G5 => ?_)
        refine fin τ5 [(q, 2)] (Or.inl ⟨rfl, hnil, ?_⟩) S5 G5
        exact (thX.mono hM hmn (fun a a1 a2 a3 => ⟨rf_lo S4 G5 (by omega) a2 a3, rf_Mr S4 G5 (by omega) a2 a3⟩)).mpr hx
      · exact fin τ4 [] (Or.inr ⟨rfl, fun y => hx y.2⟩) (by rw [List.append_nil]; exact S4) (RF.refl _ _ _ _ _ _)
end METH2

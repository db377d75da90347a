/-! THE REFERENCE'S READER: method() -/
/-- a Method as it was read -/
def MtR (τ : Sg) (M : Nat) (lst : List Nat) (a b : Nat) (D : Mtd) (num pl : Nat) : Prop := τ.i M 0 = Int32.ofInt D.1 ∧ τ.i M 1 = Int32.ofNat D.2.1 ∧ τ.i M 2 = Int32.ofInt D.2.2.1 ∧ τ.i M 3 = Int32.ofNat num ∧ τ.i M 10 = 0 ∧ SpD τ M D.2.2.2.1 ∧ (pl ≤ D.2.2.2.1.length → τ.i M 4 = Int32.ofNat D.2.2.2.2.2.2) ∧ TsN τ (Rg lst a b) D.2.2.2.2.1 (τ.r M 8) ∧ TrN τ (Rg lst a b) D.2.2.2.2.2.1 (τ.r M 9)
theorem sp_ext {t : Nat → Int32} {n : Nat} {env : Env} {places : Nat} : ∀ f p k vs es acc p' V es' acc', pSp t n env places f p k vs es acc = .inr (p', V, es', acc') → ∃ x, es' = es ++ x
  | 0, p, k, vs, es, acc, p', V, es', acc', h => by cases h
  | f + 1, p, k, vs, es, acc, p', V, es', acc', h => by
    rw [pSp] at h
    split at h
    · split at h
      · cases h
      · split at h
        · cases h
        · split at h
          · obtain ⟨x, hx⟩ := sp_ext f _ _ _ _ _ _ _ _ _ h
            exact ⟨_, by rw [hx, List.append_assoc, List.append_assoc, List.append_assoc]⟩
          · split at h
            · cases h
              exact ⟨_, by rw [List.append_assoc, List.append_assoc, List.append_assoc]⟩
            · cases h
    · cases h
section METH3
variable {Z : zT} {d : Nat} {t : Nat → Int32} {n : Nat} {env : Env} {B : Int32 × Int32 × Rf} {σ τ : Sg} {p c o : Nat} {vs : List (Nat × Nat)} {es E : Evs} {m : Nat} {lst : List Nat} {cap u : Nat} {K : kS} {M : Nat}
theorem mf_r {N : Nat} {x : Rf} (hN : N = 5 ∨ N = 7) : MF N M σ (σ.wr 0 34 x) lst cap lst cap (fun _ => False) := ⟨⟨[], (List.append_nil _).symm, fun v hv => (by cases hv), RmL.refl _ _⟩, fun a _ h1 _ _ _ _ _ => ⟨rfl, rfl, fun _ => wr_row h1⟩, fun j h1 h2 h3 => rfl, rfl, fun k _ h => wr_ne (by omega), Or.inl (wr_ne (by omega))⟩
theorem rs_method (hZ : ZK Z) (hd : 70 ≤ d) {mn : Nat} (hmn : mn ≤ 120) (hMM : M = if mn < 120 then 2497 + 4 * (mn + 1) else 50) (S : RX t n env B σ p E m lst cap u) (hu : u + 2 ≤ 23000) (e6 : σ.i 0 6 = Int32.ofNat mn)
    (h1 : ∀ p' es' D, pMt t n env mn p = .inr (p', es', D) → ∀ τ tw x c' vs' m' lst' cap', twE tw es' p (thX τ M mn (plO env (env.2.1 (nmS t n p)))) → RS t n 5 (wiE env (wiO (env.2.1 (nmS t n p)))) (B.1, x, Rf.ptr 5) τ p' c' 0 vs' (E ++ es' ++ tw) m' lst' cap' u → MF 5 M σ τ lst cap lst' cap' (fun i => m ≤ i) → m ≤ m' → p ≤ p' → MtR τ M lst' m m' D (mn + 1) (plO env (env.2.1 (nmS t n p))) → τ.i 0 6 = Int32.ofNat (if mn < 120 then mn + 1 else mn) → K (.inl none) τ)
    (h0 : ∀ q, pMt t n env mn p = .inl q → ∀ τ a, WM n 5 M σ lst m cap τ a q → K (.inr ("DispatchHouseModel$Wrong", a)) τ) : B_X23_method_0 Z (d + 1) σ K := by
  have hM : MtP M := by
    rw [hMM]
    split
    · exact Or.inr ⟨mn + 1, by omega, by omega, rfl⟩
    · exact Or.inl rfl
  have hr := hM.rg
  have hpn := S.pn
  obtain ⟨b1, b2, b3, b4, b5⟩ := S.bd
  have h27 : σ.i 0 27 = B.1 + Int32.ofNat E.length := S.rl.2.1
  refine S_X23_method_0 S.fx ?_
  rw [S.cur.2.1, h27]
  refine rx_name hZ (by omega) S (fun hty hq hl τ1 S1 G1 => ?_) (fun n2 τ1 a w => h0 p (by unfold pMt; rw [if_neg n2]) τ1 a w.wm)
  have hp : p < n := ty_pos (t := t) (by omega)
  have hg := nxS_gt (t := t) hp
  have hnx := nxS_le t (n := n) (p := p) (by omega)
  have enm : txN t p (lnS t n p) = nmS t n p := rfl
  obtain ⟨cO, hcO⟩ : ∃ cO, env.2.1 (nmS t n p) = cO := ⟨_, rfl⟩
  obtain ⟨pl, hpl⟩ : ∃ pl, plO env cO = pl := ⟨_, rfl⟩
  rw [hcO] at h1
  rw [hpl] at h1
  have enc : ∀ k, cO = some k → k < 24 ∧ pl ≤ 3 ∧ τ1.i (2409 + 3 * k) 1 = Int32.ofNat pl := by
    intro k hk
    obtain ⟨ks, cs, ls, -, ⟨k1, k2, k3, k4, k5⟩, -⟩ := S1.en
    have hk2 := hcO.trans hk
    rw [k4] at hk2
    have hlt := fi_lt hk2
    have hk3 : env.2.2.2.2.1 k = pl := by
      rw [← hpl, hk]
      rfl
    rw [← hk3]
    exact ⟨by omega, (k5 k hlt).2⟩
  have hpl3 : pl ≤ 3 := by
    cases hk : cO with
    | none =>
      rw [hk] at hpl
      rw [← hpl]
      exact Nat.zero_le _
    | some k => exact (enc k hk).2.1
  have epM : pMt t n env mn p = if tyS t n (nxS t n p) = 4 then
      (match pSp t n env pl (n + 1 - nxS t n (nxS t n p)) (nxS t n (nxS t n p)) 0 [] ((if cO = none then [(p, 3)] else []) ++ (if mn = 120 then [(p, 7)] else [])) [] with
      | .inl q => .inl q
      | .inr (p3, V, es3, acc) => match pIn t n env (if rlO (tyS t n p3) = 0 then p3 else nxS t n p3) with
        | .inl q => .inl q
        | .inr (p5, es5, ly) => match pIf t n env V p5 with
          | .inl q => .inl q
          | .inr (p6, k6, es6, x) =>
            if tyS t n p6 = 14 then
              (match pX t n (wiE env (wiO cO)) 12 false V (nxS t n p6) 0 with
              | .inl q => .inl q
              | .inr (p8, _, es8, y) => if tyS t n p8 = 7 then .inr (nxS t n p8, es3 ++ es5 ++ es6 ++ es8, idx cO, rlO (tyS t n p3), ly, acc, x, y, k6 + hsN pl acc) else .inl p8)
            else .inl p6)
    else .inl (nxS t n p) := by
    unfold pMt
    rw [if_pos hty, hcO, hpl]
    rfl
  -- from the '=' on
  have go329 : ∀ (τ : Sg) (p3 p5 p6 k6 c6 : Nat) (vs6 : List (Nat × Nat)) (es3 es5 es6 : Evs) (acc : List Spc) (ly : Int) (x : Ast) (m6 : Nat) (lst6 : List Nat) (cap6 : Nat), p ≤ p6 → vs6.length ≤ 3 → (es3 ++ es5 ++ es6).length ≤ 2000000 → (cO = none → es3 ++ es5 ++ es6 ≠ []) → RS t n 5 env (B.1, Int32.ofNat k6, Rf.ptr 5) τ p6 c6 0 vs6 (E ++ (es3 ++ es5 ++ es6)) m6 lst6 cap6 (u - 2) → MF 5 M σ τ lst cap lst6 cap6 (fun i => m ≤ i) → m ≤ m6 → τ.i 0 6 = Int32.ofNat mn → τ.i M 0 = Int32.ofInt (idx cO) → τ.i M 1 = Int32.ofNat (rlO (tyS t n p3)) → τ.i M 2 = Int32.ofInt ly → τ.i M 3 = Int32.ofNat (mn + 1) → τ.i M 10 = 0 → SpD τ M acc → (pl ≤ acc.length → τ.i M 4 = Int32.ofNat (k6 + hsN pl acc)) → TsN τ (Rg lst6 m m6) x (τ.r M 8) → (∀ k, cO = some k → τ.i (2409 + 3 * k) 1 = Int32.ofNat pl) → pMt t n env mn p = (if tyS t n p6 = 14 then
              (match pX t n (wiE env (wiO cO)) 12 false (vsN t vs6) (nxS t n p6) 0 with
              | .inl q => .inl q
              | .inr (p8, _, es8, y) => if tyS t n p8 = 7 then .inr (nxS t n p8, es3 ++ es5 ++ es6 ++ es8, idx cO, rlO (tyS t n p3), ly, acc, x, y, k6 + hsN pl acc) else .inl p8)
            else .inl p6) → B_X23_method_329 Z (d + 1) τ (Int32.ofNat p) (B.1 + Int32.ofNat E.length) (Int32.ofInt (idx cO)) M K := by
    intro τ p3 p5 p6 k6 c6 vs6 es3 es5 es6 acc ly x m6 lst6 cap6 hp6 hv6 hsl hcN S6 H6 hm6 e66 i0 i1 i2 i3 i10 D6 i4 T6 hpk ep6
    refine S_X23_method_329 S6.fx hM.sh (rs_want (y := 14) (by decide) hZ (by omega) S6 (fun h14 τ7 S7 G7 => ?_) (fun n14 τ7 a w => h0 p6 (by rw [ep6, if_neg n14]) τ7 a ((w.wm).tr H6 (fun _ z => z) hm6)))
    rw [if_pos h14] at ep6
    have hg6 := nxS_gt (t := t) (n := n) (p := p6) (ty_pos (t := t) (by omega))
    have H7 := H6.tr G7.mf (fun _ z => z.elim)
    have lo7 : ∀ a, 50 ≤ a → a < 3365 → a ≠ 54 → τ7.i a = τ.i a ∧ τ7.r a = τ.r a := fun a a1 a2 a3 => ⟨rf_lo S6 G7 (by omega) a2 a3, rf_Mr S6 G7 (by omega) a2 a3⟩
    have hM7 := lo7 M (by omega) (by omega) (by omega)
    have T7 : TsN τ7 (Rg lst6 m m6) x (τ7.r M 8) := by
      rw [hM7.2]
      exact T6.fr S6 G7 (fun _ _ _ z => z)
    have go : B_X23_method_346 Z (d + 1) τ7 (Int32.ofNat p) (B.1 + Int32.ofNat E.length) M (Int32.ofInt (wiO cO)) K := by
      refine rs_m346 (mn := mn) (pl := pl) (cO := cO) hZ hd hM hmn (by omega) S7 (by omega) hv6 (by rw [G7.2.2.1 6 (by decide)]; exact e66) hsl (fun k hk => ?_) hcN (fun p8 c8 es8 y hf h7 τ8 tw m8 lst8 cap8 htw S8 H8 hm8 hp8 ei8 er8 T8 e68 => ?_) (fun b hb τ8 a w => h0 b ?_ τ8 a (w.tr H7 (fun _ z => z) hm6))
      · obtain ⟨g1, g2, g3⟩ := enc k hk
        refine ⟨g1, ?_, ?_, g2, _, hcO.trans hk⟩
        · rw [hM7.1, i0, hk]
          rfl
        · rw [(lo7 (2409 + 3 * k) (by omega) (by omega) (by omega)).1]
          exact hpk k hk
      · refine h1 (nxS t n p8) (es3 ++ es5 ++ es6 ++ es8) _ (by rw [ep6, hf]; dsimp only; rw [if_pos h7]) τ8 tw (Int32.ofNat k6) c8 vs6 m8 lst8 cap8 htw (S8.wk (by omega) (by omega)) (H7.tr H8 (fun j hj => by omega)) (by omega) (by omega) ⟨?_, ?_, ?_, ?_, ?_, ?_, ?_, ?_, T8.wk (by omega) (Nat.le_refl _)⟩ e68
        · rw [ei8 M (Nat.le_refl _) (by omega), hM7.1]
          exact i0
        · rw [ei8 M (Nat.le_refl _) (by omega), hM7.1]
          exact i1
        · rw [ei8 M (Nat.le_refl _) (by omega), hM7.1]
          exact i2
        · rw [ei8 M (Nat.le_refl _) (by omega), hM7.1]
          exact i3
        · rw [ei8 M (Nat.le_refl _) (by omega), hM7.1]
          exact i10
        · intro i s hs
          have := D6 i s hs
          rw [ei8 (M + 1) (by omega) (by omega), ei8 (M + 2) (by omega) (by omega), ei8 (M + 3) (by omega) (by omega), (lo7 (M + 1) (by omega) (by omega) (by omega)).1, (lo7 (M + 2) (by omega) (by omega) (by omega)).1, (lo7 (M + 3) (by omega) (by omega) (by omega)).1]
          exact this
        · intro hl
          rw [ei8 M (Nat.le_refl _) (by omega), hM7.1]
          exact i4 hl
        · rw [er8 8 (by decide)]
          refine (TsN.mono (fun z hz hs => ?_) x _ T7)
          obtain ⟨i, j1, j2, j3⟩ := hz
          have hzg := nd_ge S7.fx hs
          have hlt := (List.getElem?_eq_some_iff.mp hs).1
          have hsh8 : τ8.sh[z]? = some (Sh.obj 21) := by
            obtain ⟨⟨mo, m1, m2, m3⟩, -⟩ := H8
            exact m3.get hs
          obtain ⟨k1, k2, k3⟩ := H8.2.1 z hlt (by omega) (by omega) (by omega) (by omega) (by omega) (fun j hj hmj => by
            obtain ⟨a1, a2⟩ := List.getElem?_eq_some_iff.mp j3
            obtain ⟨a3, a4⟩ := List.getElem?_eq_some_iff.mp hj
            have := (List.getElem_inj S7.ls.2.2.2.2.1).mp (a2.trans a4.symm)
            omega)
          refine ⟨⟨i, j1, by omega, H8.pre i z j3⟩, hsh8, k1, k2, k3 (fun q => ?_)⟩
          have := S7.ls.arr q
          rw [hs] at this
          cases this
      · rcases hb with hb | ⟨c8, es8, y, hb, hn⟩
        · rw [ep6, hb]
        · rw [ep6, hb]
          dsimp only
          rw [if_neg hn]
    cases hk : cO with
    | none =>
      rw [hk] at go
      exact ⟨fun z => absurd z (by decide), fun _ => go⟩
    | some k =>
      rw [hk] at go
      refine ⟨fun _ => go, fun z => absurd ((oN_le (a := 0) (by omega) (by have := (enc k hk).1; omega)).mpr (Nat.zero_le k)) z⟩
  -- behind [if TEST]
  have go231 : ∀ (τ : Sg) (p3 p5 c5 : Nat) (x2 : Int32) (x3 : Rf) (vs5 : List (Nat × Nat)) (es3 es5 : Evs) (acc : List Spc) (ly : Int), p ≤ p5 → (es3 ++ es5).length ≤ 1000000 → (cO = none → es3 ++ es5 ≠ []) → RS t n 5 env (B.1, x2, x3) τ p5 c5 0 vs5 (E ++ (es3 ++ es5)) m lst cap (u - 2) → MF 5 M σ τ lst cap lst cap (fun _ => False) → τ.i 0 6 = Int32.ofNat mn → τ.i M 0 = Int32.ofInt (idx cO) → τ.i M 1 = Int32.ofNat (rlO (tyS t n p3)) → τ.i M 2 = Int32.ofInt ly → τ.i M 3 = Int32.ofNat (mn + 1) → τ.i M 10 = 0 → SpD τ M acc → τ.r M 8 = Rf.nul → (∀ k, cO = some k → τ.i (2409 + 3 * k) 1 = Int32.ofNat pl) → pMt t n env mn p = (match pIf t n env (vsN t vs5) p5 with
          | .inl q => .inl q
          | .inr (p6, k6, es6, x) =>
            if tyS t n p6 = 14 then
              (match pX t n (wiE env (wiO cO)) 12 false (vsN t vs5) (nxS t n p6) 0 with
              | .inl q => .inl q
              | .inr (p8, _, es8, y) => if tyS t n p8 = 7 then .inr (nxS t n p8, es3 ++ es5 ++ es6 ++ es8, idx cO, rlO (tyS t n p3), ly, acc, x, y, k6 + hsN pl acc) else .inl p8)
            else .inl p6) → B_X23_method_231 Z (d + 1) τ (Int32.ofNat p) (B.1 + Int32.ofNat E.length) (Int32.ofInt (idx cO)) M K := by
    intro τ p3 p5 c5 x2 x3 vs5 es3 es5 acc ly hp5 hsl hcN S5 H5 e65 i0 i1 i2 i3 i10 D5 r8 hpk ep5
    have hvo5 := S5.vo
    obtain ⟨c1, c2, c3, c4, c5'⟩ := S5.bd
    -- made, open, comparisons
    have e : ∀ j, j ≠ 20 → j ≠ 22 → (((τ.wr 0 34 (Rf.ptr 5)).wi 0 20 0).wi 0 22 0).i 0 j = τ.i 0 j := fun j j1 j2 => (wi_ne (by omega)).trans (wi_ne (by omega))
    have ea : ∀ a, a ≠ 0 → (((τ.wr 0 34 (Rf.ptr 5)).wi 0 20 0).wi 0 22 0).i a = τ.i a := fun a ha => (wi_row ha).trans (wi_row ha)
    have S6 : RS t n 5 env (B.1, Int32.ofNat 0, Rf.ptr 5) (((τ.wr 0 34 (Rf.ptr 5)).wi 0 20 0).wi 0 22 0) p5 c5 0 vs5 (E ++ (es3 ++ es5)) m lst cap (u - 2) := by
      refine S5.gen (τ := ((τ.wr 0 34 (Rf.ptr 5)).wi 0 20 0).wi 0 22 0) (B' := (B.1, Int32.ofNat 0, Rf.ptr 5)) (FX.w (a := 0) (k := 34) (v := Rf.ptr 5) S5.fx cM_34) rfl (fun a a1 => ea a (by omega)) (e 15 (by decide) (by decide)) (S5.en.mono (fun a a1 a2 => ea a (by omega)) (fun j hj => e j (by omega) (by omega))) (show (τ.wr 0 34 (Rf.ptr 5)).r 0 34 = Rf.ptr 5 from wr_at _ _ _ _) (show (τ.wr 0 34 (Rf.ptr 5)).r (5 + 1) 1 = τ.r (5 + 1) 1 from wr_ne (by omega)) (fun b hb => show (τ.wr 0 34 (Rf.ptr 5)).r b = τ.r b from wr_row (fun z => ?_)) ?_ (S5.vr.mono (e 32 (by decide) (by decide)) (fun j _ => by rw [ea 54 (by decide)])) ⟨by omega, by omega⟩ ((wi_ne (by omega)).trans (wi_at _ _ _ _)) ((e 21 (by decide) (by decide)).trans S5.ct) (S5.rl.mono (e 23 (by decide) (by decide)) (e 24 (by decide) (by decide)) (e 27 (by decide) (by decide))) (wi_at _ _ _ _) ⟨c4, c5'⟩
      · have := oa_ge S5.fx (S5.ls.arr hb)
        omega
      · obtain ⟨w1, w2, w3, w4, w5, w6⟩ := S5.cur
        exact ⟨w1, (e 18 (by decide) (by decide)).trans w2, (e 16 (by decide) (by decide)).trans w3, (e 17 (by decide) (by decide)).trans w4, fun a b => (e 19 (by decide) (by decide)).trans (w5 a b), fun a b => ⟨(e 26 (by decide) (by decide)).trans (w6 a b).1, fun z => (wr_ne (by omega)).trans ((w6 a b).2 z)⟩⟩
    have H6 : MF 5 M σ (((τ.wr 0 34 (Rf.ptr 5)).wi 0 20 0).wi 0 22 0) lst cap lst cap (fun i => m ≤ i) := (((((MF.refl 5 M σ lst cap (fun i => m ≤ i)).tr H5 (fun _ z => z.elim)).tr (mf_r (Or.inl rfl)) (fun _ z => z.elim)).tr (mf_0 (k := 20) (Or.inl (by decide))) (fun _ z => z.elim)).tr (mf_0 (k := 22) (Or.inl (by decide))) (fun _ z => z.elim))
    -- the measure
    have go279 : ∀ (τ8 : Sg) (p6 k6 m8 : Nat) (lst8 : List Nat) (cap8 : Nat) (es6 : Evs) (x : Ast), p5 ≤ p6 → es6.length ≤ 500000 → RS t n 5 env (B.1, Int32.ofNat k6, Rf.ptr 5) τ8 p6 c5 0 vs5 (E ++ (es3 ++ es5 ++ es6)) m8 lst8 cap8 (u - 2) → MF 5 M σ τ8 lst cap lst8 cap8 (fun i => m ≤ i) → m ≤ m8 → (∀ k, k ≠ 4 → τ8.i M k = τ.i M k) → (∀ a, M < a → a < M + 4 → τ8.i a = τ.i a) → τ8.i 0 6 = Int32.ofNat mn → (∀ k, cO = some k → τ8.i (2409 + 3 * k) 1 = Int32.ofNat pl) → τ8.i M 4 = Int32.ofNat k6 → TsN τ8 (Rg lst8 m m8) x (τ8.r M 8) → pIf t n env (vsN t vs5) p5 = .inr (p6, k6, es6, x) → B_X23_method_279 Z (d + 1) τ8 (Int32.ofNat p) (B.1 + Int32.ofNat E.length) (Int32.ofInt (idx cO)) M 0 K := by
      intro τ8 p6 k6 m8 lst8 cap8 es6 x hp6 hl6 S8 H8 hm8 eM8 eA8 e68 hpk8 e48 T8 hif
      rw [hif] at ep5
      have D8 : SpD τ8 M acc := by
        intro i s hs
        have := D5 i s hs
        rw [eA8 (M + 1) (by omega) (by omega), eA8 (M + 2) (by omega) (by omega), eA8 (M + 3) (by omega) (by omega)]
        exact this
      have hsl8 : (es3 ++ es5 ++ es6).length ≤ 2000000 := by
        rw [List.length_append]
        omega
      have hcN8 : cO = none → es3 ++ es5 ++ es6 ≠ [] := fun z y => hcN z (List.append_eq_nil_iff.mp y).1
      cases hk : cO with
      | none =>
        have hpl0 : pl = 0 := by
          rw [hk] at hpl
          exact hpl.symm
        refine S_X23_method_279 S8.fx hM.sh ⟨fun _ => ?_, fun z => absurd (by decide) z⟩
        have := go329 τ8 p3 p5 p6 k6 c5 vs5 es3 es5 es6 acc ly x m8 lst8 cap8 (by omega) (by omega) hsl8 hcN8 S8 H8 hm8 e68 (by rw [eM8 0 (by decide)]; exact i0) (by rw [eM8 1 (by decide)]; exact i1) (by rw [eM8 2 (by decide)]; exact i2) (by rw [eM8 3 (by decide)]; exact i3) (by rw [eM8 10 (by decide)]; exact i10) D8 (fun _ => by rw [e48, hpl0]; rfl) T8 hpk8 ep5
        rw [hk] at this
        exact this
      | some k =>
        obtain ⟨g1, g2, g3⟩ := enc k hk
        refine rs_measure (acc := acc) (pl := pl) hM hpl3 g1 S8 (hpk8 k hk) D8 e48 (fun τ9 S9 H9 ea9 ek9 er9 e49 => ?_)
        have hM9 : ∀ a, a ≠ M → τ9.i a = τ8.i a := ea9
        have D9 : SpD τ9 M acc := by
          intro i s hs
          have := D8 i s hs
          rw [ea9 (M + 1) (by omega), ea9 (M + 2) (by omega), ea9 (M + 3) (by omega)]
          exact this
        have T9 : TsN τ9 (Rg lst8 m m8) x (τ9.r M 8) := by
          rw [er9]
          refine TsN.mono (fun z hz hs => ?_) x _ T8
          have hzg := nd_ge S8.fx hs
          have hlt := (List.getElem?_eq_some_iff.mp hs).1
          obtain ⟨y1, y2, y3⟩ := H9.2.1 z hlt (by omega) (by omega) (by omega) (by omega) (by omega) (fun _ _ q => q)
          refine ⟨hz, ?_, y1, y2, by rw [er9]⟩
          obtain ⟨⟨mo, m1, m2, m3⟩, -⟩ := H9
          exact m3.get hs
        have := go329 τ9 p3 p5 p6 k6 c5 vs5 es3 es5 es6 acc ly x m8 lst8 cap8 (by omega) (by omega) hsl8 hcN8 S9 (H8.tr H9 (fun _ z => z.elim)) hm8 (by rw [ea9 0 (by omega)]; exact e68) (by rw [ek9 0 (by decide), eM8 0 (by decide)]; exact i0) (by rw [ek9 1 (by decide), eM8 1 (by decide)]; exact i1) (by rw [ek9 2 (by decide), eM8 2 (by decide)]; exact i2) (by rw [ek9 3 (by decide), eM8 3 (by decide)]; exact i3) (by rw [ek9 10 (by decide), eM8 10 (by decide)]; exact i10) D9 e49 T9 (fun k2 hk2 => by rw [ea9 _ (by have := (enc k2 hk2).1; omega)]; exact hpk8 k2 hk2) ep5
        rw [hk] at this
        exact this
    refine S_X23_method_231 S5.fx hM.sh (rs_skip (y := 29) (by decide) hZ (by omega) S6 (fun h29 τ7 S7 G7 => ⟨fun z => absurd z (by decide), fun _ => ?_⟩) (fun n29 => ⟨fun _ => ?_, fun z => absurd rfl z⟩))
    · have hg5 := nxS_gt (t := t) (n := n) (p := p5) (ty_pos (t := t) (by omega))
      have H7 := H6.tr G7.mf (fun _ z => z.elim)
      have hifE : pIf t n env (vsN t vs5) p5 = pTt t n (pTs t n env 12) (vsN t vs5) (nxS t n p5) 0 := by
        unfold pIf
        rw [if_pos h29]
      obtain ⟨d, rfl⟩ : ∃ y, d = y + 2 := ⟨d - 2, by omega⟩
      refine folT_tt (d := d) hZ (by omega) (folT_s (B0 := B.1) hZ 12 0 d (by omega) (by omega)) τ7 _ c5 0 vs5 _ m lst cap _ _ S7 (by omega) (fun p8 k8 es8 x hf τ8 m8 lst8 cap8 r8' S8 G8 hm8 hp8 T8 hr8 => Or.inl ⟨r8', rfl, ?_⟩) (fun q hf τ8 a w => Or.inr ⟨_, rfl, h0 q (by rw [ep5, hifE, hf]) τ8 a ((w.wm).tr H7 (fun _ z => z) (Nat.le_refl _))⟩)
      have hbd := bd_tt (bd_ts (env := env) 12) _ _ _ _ _ _ _ hf
      have hpn8 := S8.pn
      obtain ⟨S9, G9⟩ := S8.mwr hM (k := 8) (x := r8') (Or.inl rfl)
      obtain ⟨S10, G10⟩ := S9.mwi hM (a := M) (k := 4) (x := τ8.i 0 22) (by omega)
      have H10 := ((H7.tr G8.mf (fun _ z => z)).tr G9 (fun _ z => z.elim)).tr G10 (fun _ z => z.elim)
      have eas : E ++ (es3 ++ es5) ++ es8 = E ++ (es3 ++ es5 ++ es8) := List.append_assoc _ _ _
      rw [eas] at S10
      have lo8 : ∀ a, 9 ≤ a → a < 3365 → a ≠ 54 → τ8.i a = τ.i a := fun a a1 a2 a3 => by
        rw [rf_lo S7 G8 a1 a2 a3, rf_lo S6 G7 a1 a2 a3, ea a (by omega)]
      refine go279 _ p8 k8 m8 lst8 cap8 es8 x (by omega) (by omega) (S10.wk (by omega) (by omega)) H10 hm8 (fun k hk => ?_) (fun a a1 a2 => ?_) ?_ (fun k hk => ?_) ?_ ?_ (by rw [hifE, hf])
      · rw [wi_ne (by omega)]
        show τ8.i M k = _
        rw [lo8 M (by omega) (by omega) (by omega)]
      · rw [wi_row (by omega)]
        show τ8.i a = _
        exact lo8 a (by omega) (by omega) (by omega)
      · rw [wi_ne (by omega)]
        show τ8.i 0 6 = _
        rw [G8.2.2.1 6 (by decide), G7.2.2.1 6 (by decide), e 6 (by decide) (by decide)]
        exact e65
      · have := (enc k hk).1
        rw [wi_row (by omega)]
        show τ8.i (2409 + 3 * k) 1 = _
        rw [lo8 _ (by omega) (by omega) (by omega)]
        exact hpk k hk
      · rw [wi_at]
        exact S8.cc
      · show TsN _ _ x ((τ8.wr M 8 r8').r M 8)
        rw [wr_at]
        refine TsN.mono (fun z hz hs => ?_) x _ T8
        have hzg := nd_ge S8.fx hs
        exact ⟨hz, hs, wi_row (by omega), rfl, wr_row (σ := τ8) (by omega)⟩
    · have hifE : pIf t n env (vsN t vs5) p5 = .inr (p5, 0, [], .nil) := by
        unfold pIf
        rw [if_neg n29]
      obtain ⟨S10, G10⟩ := S6.mwi hM (a := M) (k := 4) (x := (((τ.wr 0 34 (Rf.ptr 5)).wi 0 20 0).wi 0 22 0).i 0 22) (by omega)
      refine go279 _ p5 0 m lst cap [] .nil (Nat.le_refl _) (by decide) (by rw [List.append_nil]; exact S10) (H6.tr G10 (fun _ z => z.elim)) (Nat.le_refl _) (fun k hk => ?_) (fun a a1 a2 => ?_) ?_ (fun k hk => ?_) ?_ ?_ hifE
      · rw [wi_ne (by omega), ea M (by omega)]
      · rw [wi_row (by omega), ea a (by omega)]
      · rw [wi_ne (by omega), e 6 (by decide) (by decide)]
        exact e65
      · have := (enc k hk).1
        rw [wi_row (by omega), ea _ (by omega)]
        exact hpk k hk
      · rw [wi_at]
        exact wi_at _ _ _ _
      · show (((τ.wr 0 34 (Rf.ptr 5)).wi 0 20 0).wi 0 22 0).r M 8 = _
        show (τ.wr 0 34 (Rf.ptr 5)).r M 8 = _
        rw [wr_ne (by omega)]
        exact r8
  -- role and layer
  have go185 : ∀ (τ : Sg) (p3 p4 c4 : Nat) (vs4 : List (Nat × Nat)) (es3 : Evs) (acc : List Spc), p ≤ p4 → p4 = (if rlO (tyS t n p3) = 0 then p3 else nxS t n p3) → es3.length ≤ 900000 → (cO = none → es3 ≠ []) → RS t n 5 env B τ p4 c4 0 vs4 (E ++ es3) m lst cap (u - 2) → MF 5 M σ τ lst cap lst cap (fun _ => False) → τ.i 0 6 = Int32.ofNat mn → τ.i M 0 = Int32.ofInt (idx cO) → τ.i M 2 = -1 → τ.i M 3 = Int32.ofNat (mn + 1) → τ.i M 10 = 0 → SpD τ M acc → τ.r M 8 = Rf.nul → (∀ k, cO = some k → τ.i (2409 + 3 * k) 1 = Int32.ofNat pl) → pMt t n env mn p = (match pIn t n env p4 with
        | .inl q => .inl q
        | .inr (p5, es5, ly) => match pIf t n env (vsN t vs4) p5 with
          | .inl q => .inl q
          | .inr (p6, k6, es6, x) =>
            if tyS t n p6 = 14 then
              (match pX t n (wiE env (wiO cO)) 12 false (vsN t vs4) (nxS t n p6) 0 with
              | .inl q => .inl q
              | .inr (p8, _, es8, y) => if tyS t n p8 = 7 then .inr (nxS t n p8, es3 ++ es5 ++ es6 ++ es8, idx cO, rlO (tyS t n p3), ly, acc, x, y, k6 + hsN pl acc) else .inl p8)
            else .inl p6) → B_X23_method_185 Z (d + 1) τ (Int32.ofNat p) (B.1 + Int32.ofNat E.length) (Int32.ofInt (idx cO)) M M (Int32.ofNat (rlO (tyS t n p3))) K := by
    intro τ p3 p4 c4 vs4 es3 acc hp4 hp4e hsl hcN S4 H4 e64 i0 i2 i3 i10 D4 r8 hpk ep4
    obtain ⟨S5, G5⟩ := S4.mwi hM (a := M) (k := 1) (x := Int32.ofNat (rlO (tyS t n p3))) (by omega)
    have H5 := H4.tr G5 (fun _ z => z)
    have hpn4 := S4.pn
    have fin : ∀ (τ6 : Sg) (p5 : Nat) (es5 : Evs) (ly : Int), p4 ≤ p5 → es5.length ≤ 1 → RS t n 5 env B τ6 p5 c4 0 vs4 (E ++ (es3 ++ es5)) m lst cap (u - 2) → MF 5 M σ τ6 lst cap lst cap (fun _ => False) → τ6.i 0 6 = Int32.ofNat mn → (∀ k, k ≠ 1 → k ≠ 2 → τ6.i M k = τ.i M k) → τ6.i M 1 = Int32.ofNat (rlO (tyS t n p3)) → τ6.i M 2 = Int32.ofInt ly → (∀ a, 50 ≤ a → a < 3365 → a ≠ 54 → a ≠ M → τ6.i a = τ.i a) → τ6.r M 8 = Rf.nul → pIn t n env p4 = .inr (p5, es5, ly) → B_X23_method_231 Z (d + 1) τ6 (Int32.ofNat p) (B.1 + Int32.ofNat E.length) (Int32.ofInt (idx cO)) M K := by
      intro τ6 p5 es5 ly hp5 hl5 S6 H6 e66 eM6 e16 e26 eA6 r86 hin
      rw [hin] at ep4
      refine go231 τ6 p3 p5 c4 B.2.1 B.2.2 vs4 es3 es5 acc ly (by omega) (by rw [List.length_append]; omega) (fun z y => hcN z (List.append_eq_nil_iff.mp y).1) S6 H6 e66 (by rw [eM6 0 (by decide) (by decide)]; exact i0) e16 e26 (by rw [eM6 3 (by decide) (by decide)]; exact i3) (by rw [eM6 10 (by decide) (by decide)]; exact i10) ?_ r86 (fun k hk => by rw [eA6 _ (by omega) (by have := (enc k hk).1; omega) (by omega) (by have := (enc k hk).1; omega)]; exact hpk k hk) ep4
      intro i s hs
      have := D4 i s hs
      rw [eA6 (M + 1) (by omega) (by omega) (by omega) (by omega), eA6 (M + 2) (by omega) (by omega) (by omega) (by omega), eA6 (M + 3) (by omega) (by omega) (by omega) (by omega)]
      exact this
    refine S_X23_method_185 S4.fx hM.sh hM.sh (rs_skip (y := 28) (by decide) hZ (by omega) S5 (fun h28 τ6 S6 G6 => ⟨fun z => absurd z (by decide), fun _ => ?_⟩) (fun n28 => ⟨fun _ => ?_, fun z => absurd rfl z⟩))
    · have hg4 := nxS_gt (t := t) (n := n) (p := p4) (ty_pos (t := t) (by omega))
      have hnx4 := nxS_le t (n := n) (p := p4) (by omega)
      have H6 := H5.tr G6.mf (fun _ z => z)
      have hinE : pIn t n env p4 = if tyS t n (nxS t n p4) = 2 then .inr (nxS t n (nxS t n p4), (if env.2.2.1 (nmS t n (nxS t n p4)) = none then [(nxS t n p4, 3)] else []), idx (env.2.2.1 (nmS t n (nxS t n p4)))) else .inl (nxS t n p4) := by
        unfold pIn
        rw [if_pos h28]
      refine rs_name hZ (by omega) S6 (fun h2 hq2 hl2 τ7 S7 G7 => ?_) (fun n2 τ7 a w => h0 _ (by rw [ep4, hinE, if_neg n2]) τ7 a ((w.wm).tr H6 (fun _ z => z.elim) (Nat.le_refl _)))
      rw [if_pos h2] at hinE
      have hg5 := nxS_gt (t := t) (n := n) (p := nxS t n p4) (ty_pos (t := t) (by omega))
      have H7 := H6.tr G7.mf (fun _ z => z)
      refine rs_layer (by omega) S7 hq2 hl2 ?_
      have enm2 : txN t (nxS t n p4) (lnS t n (nxS t n p4)) = nmS t n (nxS t n p4) := rfl
      rw [enm2]
      dsimp only [yI]
      rw [wi_at]
      obtain ⟨S8, G8⟩ := S7.mwi hM (a := M) (k := 2) (x := Int32.ofInt (idx (env.2.2.1 (nmS t n (nxS t n p4))))) (by omega)
      have H8 := H7.tr G8 (fun _ z => z)
      have lo7 : ∀ a, 9 ≤ a → a < 3365 → a ≠ 54 → τ7.i a = (τ.wi M 1 (Int32.ofNat (rlO (tyS t n p3)))).i a := fun a a1 a2 a3 => by
        rw [rf_lo S6 G7 a1 a2 a3, rf_lo S5 G6 a1 a2 a3]
      have r7 : τ7.r M 8 = Rf.nul := by
        rw [rf_Mr S6 G7 (by omega) (by omega) (by omega), rf_Mr S5 G6 (by omega) (by omega) (by omega)]
        exact r8
      have e67 : τ7.i 0 6 = Int32.ofNat mn := by
        rw [G7.2.2.1 6 (by decide), G6.2.2.1 6 (by decide), wi_ne (by omega)]
        exact e64
      have enk : ∀ k, env.2.2.1 (nmS t n (nxS t n p4)) = some k → k < 24 := by
        intro k hk
        obtain ⟨ks, cs, ls, -, -, ⟨k1, k2, k3, k4⟩, -⟩ := S7.en
        rw [k4] at hk
        have := fi_lt hk
        omega
      have fin2 : ∀ (τ9 : Sg) (es9 : Evs), es9 = (if env.2.2.1 (nmS t n (nxS t n p4)) = none then [(nxS t n p4, 3)] else []) → RS t n 5 env B τ9 (nxS t n (nxS t n p4)) c4 0 vs4 (E ++ (es3 ++ es9)) m lst cap (u - 2 - 2 - 2) → RF 5 vs4.length (τ7.wi M 2 (Int32.ofInt (idx (env.2.2.1 (nmS t n (nxS t n p4)))))) τ9 lst cap lst cap (fun _ => False) → B_X23_method_231 Z (d + 1) τ9 (Int32.ofNat p) (B.1 + Int32.ofNat E.length) (Int32.ofInt (idx cO)) M K := by
        intro τ9 es9 he S9 G9
        have lo9 : ∀ a, 9 ≤ a → a < 3365 → a ≠ 54 → τ9.i a = (τ7.wi M 2 (Int32.ofInt (idx (env.2.2.1 (nmS t n (nxS t n p4)))))).i a := fun a a1 a2 a3 => rf_lo S8 G9 a1 a2 a3
        refine fin τ9 _ es9 _ (by omega) (by rw [he]; exact ife_len _ _) (S9.wk (by omega) (by omega)) (H8.tr G9.mf (fun _ z => z)) ?_ (fun k k1 k2 => ?_) ?_ ?_ (fun a a1 a2 a3 a4 => ?_) ?_ (by rw [hinE, he])
        · rw [G9.2.2.1 6 (by decide), wi_ne (by omega)]
          exact e67
        · rw [lo9 M (by omega) (by omega) (by omega), wi_ne (by omega), lo7 M (by omega) (by omega) (by omega), wi_ne (by omega)]
        · rw [lo9 M (by omega) (by omega) (by omega), wi_ne (by omega), lo7 M (by omega) (by omega) (by omega), wi_at]
        · rw [lo9 M (by omega) (by omega) (by omega), wi_at]
        · rw [lo9 a (by omega) a2 a3, wi_row a4, lo7 a (by omega) a2 a3, wi_row a4]
        · rw [rf_Mr S8 G9 (by omega) (by omega) (by omega)]
          exact r7
      cases hk : env.2.2.1 (nmS t n (nxS t n p4)) with
      | some k =>
        have k24 := enk k hk
        rw [hk] at fin2 S8
        refine ⟨fun _ => fin2 _ [] (by rw [if_neg (by intro z; cases z)]) (by rw [List.append_nil]; exact S8) (RF.refl _ _ _ _ _ _), fun z => absurd ((oN_le (a := 0) (by omega) (by omega)).mpr (Nat.zero_le k)) z⟩
      | none =>
        rw [hk] at fin2 S8
        refine ⟨fun z => absurd z (by decide), fun _ => ?_⟩
        rw [S6.cur.2.1]
        refine rs_breaks (r := 3) (by omega) (by omega) (by decide) S8 (fun τ9 S9 G9 => ?_)
        rw [List.append_assoc] at S9
        exact fin2 τ9 [(nxS t n p4, 3)] (by rw [if_pos rfl]) S9 G9
    · refine fin _ p4 [] (-1) (Nat.le_refl _) (by decide) (by rw [List.append_nil]; exact S5) H5 ?_ (fun k k1 k2 => wi_ne (by omega)) (wi_at _ _ _ _) ?_ (fun a a1 a2 a3 a4 => wi_row a4) r8 (by unfold pIn; rw [if_neg n28])
      · rw [wi_ne (by omega)]
        exact e64
      · rw [wi_ne (by omega)]
        exact i2
  -- the name, told or not; the count of methods
  have go72 : ∀ (τ : Sg) (es2 : Evs), es2 = (if cO = none then [(p, 3)] else []) ++ (if mn = 120 then [(p, 7)] else []) → RX t n env B τ (nxS t n p) (E ++ es2) m lst cap (u - 2) → RF 5 0 σ τ lst cap lst cap (fun _ => False) → B_X23_method_72 Z (d + 1) τ (Int32.ofNat p) (B.1 + Int32.ofNat E.length) (Int32.ofInt (idx cO)) M K := by
    intro τ es2 he2 S2 G2
    have e62 : τ.i 0 6 = Int32.ofNat mn := by
      rw [G2.2.2.1 6 (by decide)]
      exact e6
    refine S_X23_method_72 S2.fx hM.sh ?_
    have e63 : (τ.wi M 0 (Int32.ofInt (idx cO))).i 0 6 + 1 = Int32.ofNat (mn + 1) := by
      rw [wi_ne (by omega), e62, oN_1]
    rw [e63]
    have H3 : MF 5 M τ (τ.wi M 0 (Int32.ofInt (idx cO))) lst cap lst cap (fun _ => False) := mf_wM hM (by omega)
    have H4 : MF 5 M (τ.wi M 0 (Int32.ofInt (idx cO))) ((τ.wi M 0 (Int32.ofInt (idx cO))).wi M 3 (Int32.ofNat (mn + 1))) lst cap lst cap (fun _ => False) := mf_wM hM (by omega)
    have H5 : MF 5 M ((τ.wi M 0 (Int32.ofInt (idx cO))).wi M 3 (Int32.ofNat (mn + 1))) (((τ.wi M 0 (Int32.ofInt (idx cO))).wi M 3 (Int32.ofNat (mn + 1))).wi M 10 0) lst cap lst cap (fun _ => False) := mf_wM hM (by omega)
    have H6 : MF 5 M (((τ.wi M 0 (Int32.ofInt (idx cO))).wi M 3 (Int32.ofNat (mn + 1))).wi M 10 0) ((((τ.wi M 0 (Int32.ofInt (idx cO))).wi M 3 (Int32.ofNat (mn + 1))).wi M 10 0).wi M 2 (-1)) lst cap lst cap (fun _ => False) := mf_wM hM (by omega)
    have H7 : MF 5 M ((((τ.wi M 0 (Int32.ofInt (idx cO))).wi M 3 (Int32.ofNat (mn + 1))).wi M 10 0).wi M 2 (-1)) (((((τ.wi M 0 (Int32.ofInt (idx cO))).wi M 3 (Int32.ofNat (mn + 1))).wi M 10 0).wi M 2 (-1)).wr M 8 Rf.nul) lst cap lst cap (fun _ => False) := mf_wrM hM
    have hcs : ΦR.cst M 8 = false := by
      show cstR M 8 = false
      unfold cstR
      rw [hM.sh]
      rfl
    have F7 : FX ΦR (((((τ.wi M 0 (Int32.ofInt (idx cO))).wi M 3 (Int32.ofNat (mn + 1))).wi M 10 0).wi M 2 (-1)).wr M 8 Rf.nul).sh (((((τ.wi M 0 (Int32.ofInt (idx cO))).wi M 3 (Int32.ofNat (mn + 1))).wi M 10 0).wi M 2 (-1)).wr M 8 Rf.nul).r := FX.w (a := M) (k := 8) (v := Rf.nul) S2.fx hcs
    obtain ⟨τ7, hτ7⟩ : ∃ y, y = ((((τ.wi M 0 (Int32.ofInt (idx cO))).wi M 3 (Int32.ofNat (mn + 1))).wi M 10 0).wi M 2 (-1)).wr M 8 Rf.nul := ⟨_, rfl⟩
    rw [← hτ7] at H7 F7 ⊢
    obtain ⟨d1, d2, d3, d4, d5⟩ := S2.bd
    have e : ∀ j, j ≠ 32 → (τ7.wi 0 32 0).i 0 j = τ7.i 0 j := fun j hj => wi_ne (by omega)
    have g0 : ∀ j, j ≠ 32 → (τ7.wi 0 32 0).i 0 j = τ.i 0 j := fun j hj => by
      rw [e j hj, hτ7]
      show ((((τ.wi M 0 (Int32.ofInt (idx cO))).wi M 3 (Int32.ofNat (mn + 1))).wi M 10 0).wi M 2 (-1)).i 0 j = _
      rw [wi_ne (by omega), wi_ne (by omega), wi_ne (by omega), wi_ne (by omega)]
    have gA : ∀ a, a ≠ 0 → a ≠ M → (τ7.wi 0 32 0).i a = τ.i a := fun a a0 a1 => by
      rw [wi_row a0, hτ7]
      show ((((τ.wi M 0 (Int32.ofInt (idx cO))).wi M 3 (Int32.ofNat (mn + 1))).wi M 10 0).wi M 2 (-1)).i a = _
      rw [wi_row a1, wi_row a1, wi_row a1, wi_row a1]
    have gs : τ7.sh = τ.sh := by
      rw [hτ7]
      rfl
    have gr : ∀ a k, ¬ (a = M ∧ k = 8) → τ7.r a k = τ.r a k := fun a k hk => by
      rw [hτ7]
      exact wr_ne hk
    have gR : ∀ a, a ≠ M → τ7.r a = τ.r a := fun a ha => funext fun k => gr a k (fun q => ha q.1)
    have X8 : RX t n env B (τ7.wi 0 32 0) (nxS t n p) (E ++ es2) m lst cap (u - 2) := by
      refine S2.gen (τ := τ7.wi 0 32 0) F7 gs (fun a ha => gA a (by omega) (by omega)) (g0 15 (by decide)) (S2.en.mono (fun a a1 a2 => gA a (by omega) (by omega)) (fun k hk => g0 k (by omega))) ((gr 0 34 (by omega)).trans S2.md) (gr 6 1 (by omega)) (fun b hb => gR b (fun z => ?_)) ?_ ((g0 20 (by decide)).trans S2.op) (S2.rl.mono (g0 23 (by decide)) (g0 24 (by decide)) (g0 27 (by decide))) ((g0 22 (by decide)).trans S2.cc) ⟨d4, d5⟩
      · have := oa_ge S2.fx (S2.ls.arr hb)
        omega
      · obtain ⟨w1, w2, w3, w4, w5, w6⟩ := S2.cur
        exact ⟨w1, (g0 18 (by decide)).trans w2, (g0 16 (by decide)).trans w3, (g0 17 (by decide)).trans w4, fun a b => (g0 19 (by decide)).trans (w5 a b), fun a b => ⟨(g0 26 (by decide)).trans (w6 a b).1, fun z => (gr 0 25 (by omega)).trans ((w6 a b).2 z)⟩⟩
    obtain ⟨c, S8⟩ := X8.rs (wi_at _ _ _ _)
    have H8 : MF 5 M σ (τ7.wi 0 32 0) lst cap lst cap (fun _ => False) := ((((((G2.mf.tr H3 (fun _ z => z)).tr H4 (fun _ z => z)).tr H5 (fun _ z => z)).tr H6 (fun _ z => z)).tr H7 (fun _ z => z))).tr (mf_0 (k := 32) (Or.inl (by decide))) (fun _ z => z)
    have f0 : ∀ k, (τ7.wi 0 32 0).i M k = (((((τ.wi M 0 (Int32.ofInt (idx cO))).wi M 3 (Int32.ofNat (mn + 1))).wi M 10 0).wi M 2 (-1))).i M k := fun k => by
      rw [wi_row (by omega), hτ7]
      rfl
    have fA : ∀ a, a ≠ 0 → a ≠ M → (τ7.wi 0 32 0).i a = τ.i a := fun a a0 a1 => by
      rw [wi_row a0, hτ7]
      show ((((τ.wi M 0 (Int32.ofInt (idx cO))).wi M 3 (Int32.ofNat (mn + 1))).wi M 10 0).wi M 2 (-1)).i a = _
      rw [wi_row a1, wi_row a1, wi_row a1, wi_row a1]
    have f8 : (τ7.wi 0 32 0).r M 8 = Rf.nul := by
      rw [hτ7]
      exact wr_at _ _ _ _
    have f6 : (τ7.wi 0 32 0).i 0 6 = Int32.ofNat mn := by
      rw [e 6 (by decide), hτ7]
      show ((((τ.wi M 0 (Int32.ofInt (idx cO))).wi M 3 (Int32.ofNat (mn + 1))).wi M 10 0).wi M 2 (-1)).i 0 6 = _
      rw [wi_ne (by omega), wi_ne (by omega), wi_ne (by omega), wi_ne (by omega)]
      exact e62
    refine rs_want (y := 4) (by decide) hZ (by omega) S8 (fun h4 τ9 S9 G9 => ?_) (fun n4 τ9 a w => h0 _ (by rw [epM, if_neg n4]) τ9 a ((w.wm).tr H8 (fun _ z => z.elim) (Nat.le_refl _)))
    rw [if_pos h4] at epM
    have hg2 := nxS_gt (t := t) (n := n) (p := nxS t n p) (ty_pos (t := t) (by omega))
    have hpn9 := S9.pn
    have H9 := H8.tr G9.mf (fun _ z => z)
    have lo9 : ∀ a, 9 ≤ a → a < 3365 → a ≠ 54 → τ9.i a = (τ7.wi 0 32 0).i a := fun a a1 a2 a3 => rf_lo S8 G9 a1 a2 a3
    have hpk9 : ∀ k, cO = some k → τ9.i (2409 + 3 * k) 1 = Int32.ofNat pl := fun k hk => by
      obtain ⟨g1, g2, g3⟩ := enc k hk
      rw [lo9 _ (by omega) (by omega) (by omega), fA _ (by omega) (by omega), rx_lo S G2 (by omega) (by omega) (by omega), ← rx_lo S G1 (by omega) (by omega) (by omega)]
      exact g3
    have he2l : es2.length ≤ 2 := by
      rw [he2, List.length_append]
      have k1 := ife_len (cO = none) (p, 3)
      have k2 := ife_len (mn = 120) (p, 7)
      omega
    have go140 : B_X23_method_140 Z (d + 1) τ9 (Int32.ofNat p) (B.1 + Int32.ofNat E.length) (Int32.ofInt (idx cO)) M M (Int32.ofNat pl) K := by
      refine S_X23_method_140 S9.fx hM.sh hM.sh ?_
      obtain ⟨d, rfl⟩ : ∃ y, d = y + 1 := ⟨d - 1, by omega⟩
      refine S_X23_specs_0 S9.fx ?_
      refine rs_specs (E := E) hZ (by omega) hM hpl3 (n + 1 - nxS t n (nxS t n p)) τ9 (nxS t n (nxS t n p)) 0 [] es2 [] _ _ (by omega) (by omega) S9 rfl (fun i s hs => by cases hs) (fun p3 V es3 acc hsp τ10 vs10 hv10 S10 H10 hp10 D10 hk10 => ?_) (fun q hsp τ10 a w => h0 q (by rw [epM, ← he2]; show (match pSp t n env pl (n + 1 - nxS t n (nxS t n p)) (nxS t n (nxS t n p)) 0 (vsN t []) es2 [] with | .inl q => _ | .inr (p3, V, es3, acc) => _) = _; rw [hsp]) τ10 a (w.tr H9 (fun _ z => z.elim) (Nat.le_refl _)))
      have hpn10 := S10.pn
      have hbd := (bd_sp _ _ _ (vsN t []) _ _ _ _ _ _ (show (0 : Nat) ≤ 3 from Nat.zero_le 3) hsp).1
      obtain ⟨xe, hxe⟩ := sp_ext _ _ _ _ _ _ _ _ _ _ hsp
      have H10' := H9.tr H10 (fun _ z => z)
      obtain ⟨hMi, hMr, h610⟩ := hk10
      have lo10 : ∀ a, 50 ≤ a → a < 3365 → a ≠ 54 → ¬ (M ≤ a ∧ a < M + 4) → τ10.i a = τ9.i a := fun a a1 a2 a3 a4 => by
        have hs9 := sh_ge S9.fx
        exact (H10.2.1 a (by omega) (by omega) a3 (by omega) (by omega) a4 (fun i hi q => q)).1
      have e610 : τ10.i 0 6 = Int32.ofNat mn := by
        rw [h610, G9.2.2.1 6 (by decide)]
        exact f6
      have M9 : ∀ k, τ9.i M k = (τ7.wi 0 32 0).i M k := fun k => by rw [lo9 M (by omega) (by omega) (by omega)]
      have r9 : τ9.r M 8 = Rf.nul := by
        rw [rf_Mr S8 G9 (by omega) (by omega) (by omega)]
        exact f8
      have ep10 : pMt t n env mn p = (match pIn t n env (if rlO (tyS t n p3) = 0 then p3 else nxS t n p3) with
        | .inl q => .inl q
        | .inr (p5, es5, ly) => match pIf t n env (vsN t vs10) p5 with
          | .inl q => .inl q
          | .inr (p6, k6, es6, x) =>
            if tyS t n p6 = 14 then
              (match pX t n (wiE env (wiO cO)) 12 false (vsN t vs10) (nxS t n p6) 0 with
              | .inl q => .inl q
              | .inr (p8, _, es8, y) => if tyS t n p8 = 7 then .inr (nxS t n p8, es3 ++ es5 ++ es6 ++ es8, idx cO, rlO (tyS t n p3), ly, acc, x, y, k6 + hsN pl acc) else .inl p8)
            else .inl p6) := by
        rw [epM, ← he2, hv10]
        show (match pSp t n env pl (n + 1 - nxS t n (nxS t n p)) (nxS t n (nxS t n p)) 0 (vsN t []) es2 [] with | .inl q => _ | .inr (p3, V, es3, acc) => _) = _
        rw [hsp]
      have go : ∀ (τ11 : Sg) (p4 : Nat), p3 ≤ p4 → p4 = (if rlO (tyS t n p3) = 0 then p3 else nxS t n p3) → RS t n 5 env B τ11 p4 c 0 vs10 (E ++ es3) m lst cap (u - 2) → RF 5 vs10.length τ10 τ11 lst cap lst cap (fun _ => False) → B_X23_method_185 Z (d + 1 + 1) τ11 (Int32.ofNat p) (B.1 + Int32.ofNat E.length) (Int32.ofInt (idx cO)) M M (Int32.ofNat (rlO (tyS t n p3))) K := by
        intro τ11 p4 hp4 hp4e S11 G11
        have lo11 : ∀ a, 9 ≤ a → a < 3365 → a ≠ 54 → τ11.i a = τ10.i a := fun a a1 a2 a3 => rf_lo S10 G11 a1 a2 a3
        have M11 : ∀ k, τ11.i M k = (τ7.wi 0 32 0).i M k := fun k => by rw [lo11 M (by omega) (by omega) (by omega), hMi, M9]
        refine go185 τ11 p3 p4 c vs10 es3 acc (by omega) hp4e (by omega) (fun z y => ?_) S11 (H10'.tr G11.mf (fun _ z => z)) (by rw [G11.2.2.1 6 (by decide)]; exact e610) ?_ ?_ ?_ ?_ (D10.fr S10 G11 hM) ?_ (fun k hk => ?_) (by rw [hp4e]; exact ep10)
        · rw [hxe, he2, if_pos z] at y
          cases y
        · rw [M11, f0, wi_ne (by omega), wi_ne (by omega), wi_ne (by omega), wi_at]
        · rw [M11, f0, wi_at]
        · rw [M11, f0, wi_ne (by omega), wi_ne (by omega), wi_at]
        · rw [M11, f0, wi_ne (by omega), wi_at]
        · rw [rf_Mr S10 G11 (by omega) (by omega) (by omega), hMr]
          exact r9
        · have := (enc k hk).1
          rw [lo11 _ (by omega) (by omega) (by omega), lo10 _ (by omega) (by omega) (by omega) (by omega)]
          exact hpk9 k hk
      refine rs_skip (y := 25) (by decide) hZ (by omega) S10 (fun h25 τ11 S11 G11 => ⟨fun z => absurd z (by decide), fun _ => ?_⟩) (fun n25 => ⟨fun _ => ?_, fun z => absurd rfl z⟩)
      · have hg3 := nxS_gt (t := t) (n := n) (p := p3) (ty_pos (t := t) (by omega))
        have er : rlO (tyS t n p3) = 1 := by rw [h25]; rfl
        have := go τ11 (nxS t n p3) (by omega) (by rw [er, if_neg (by decide)]) (S11.wk (by omega) (by omega)) G11
        rw [er] at this
        exact this
      refine rs_skip (y := 26) (by decide) hZ (by omega) S10 (fun h26 τ11 S11 G11 => ⟨fun z => absurd z (by decide), fun _ => ?_⟩) (fun n26 => ⟨fun _ => ?_, fun z => absurd rfl z⟩)
      · have hg3 := nxS_gt (t := t) (n := n) (p := p3) (ty_pos (t := t) (by omega))
        have er : rlO (tyS t n p3) = 2 := by rw [h26]; rfl
        have := go τ11 (nxS t n p3) (by omega) (by rw [er, if_neg (by decide)]) (S11.wk (by omega) (by omega)) G11
        rw [er] at this
        exact this
      refine rs_skip (y := 27) (by decide) hZ (by omega) S10 (fun h27' τ11 S11 G11 => ⟨fun z => absurd z (by decide), fun _ => ?_⟩) (fun n27 => ⟨fun _ => ?_, fun z => absurd rfl z⟩)
      · have hg3 := nxS_gt (t := t) (n := n) (p := p3) (ty_pos (t := t) (by omega))
        have er : rlO (tyS t n p3) = 3 := by rw [h27']; rfl
        have := go τ11 (nxS t n p3) (by omega) (by rw [er, if_neg (by decide)]) (S11.wk (by omega) (by omega)) G11
        rw [er] at this
        exact this
      · have er : rlO (tyS t n p3) = 0 := by
          unfold rlO
          rw [if_neg n25, if_neg n26, if_neg n27]
        have := go τ10 p3 (Nat.le_refl _) (by rw [er, if_pos rfl]) (S10.wk (by omega) (by omega)) (RF.refl _ _ _ _ _ _)
        rw [er] at this
        exact this
    cases hk : cO with
    | none =>
      have hpl0 : pl = 0 := by
        rw [hk] at hpl
        exact hpl.symm
      rw [hk, hpl0] at go140
      exact ⟨fun z => absurd z (by decide), fun _ => go140⟩
    | some k =>
      obtain ⟨g1, g2, g3⟩ := enc k hk
      rw [hk] at go140
      refine ⟨fun _ => ⟨ib_oN g1 (by decide), ?_⟩, fun z => absurd ((oN_le (a := 0) (by omega) (by omega)).mpr (Nat.zero_le k)) z⟩
      rw [show (Int32.ofInt (idx (some k))).toNatClampNeg = k from oN_t (by omega), hpk9 k hk]
      exact go140
  -- the count of methods
  have go29 : ∀ (τ : Sg) (es1 : Evs), es1 = (if cO = none then [(p, 3)] else []) → RX t n env B τ (nxS t n p) (E ++ es1) m lst cap (u - 2) → RF 5 0 σ τ lst cap lst cap (fun _ => False) → B_X23_method_29 Z (d + 1) τ (Int32.ofNat p) (B.1 + Int32.ofNat E.length) (Int32.ofInt (idx cO)) K := by
    intro τ es1 he1 S2 G2
    have go45 : ∀ (τ3 : Sg) (es3 : Evs), es3 = (if mn = 120 then [(p, 7)] else []) → RX t n env B τ3 (nxS t n p) (E ++ (es1 ++ es3)) m lst cap (u - 2) → RF 5 0 σ τ3 lst cap lst cap (fun _ => False) → B_X23_method_45 Z (d + 1) τ3 (Int32.ofNat p) (B.1 + Int32.ofNat E.length) (Int32.ofInt (idx cO)) K := by
      intro τ3 es3 he3 S3 G3
      have e63 : τ3.i 0 6 = Int32.ofNat mn := by
        rw [G3.2.2.1 6 (by decide)]
        exact e6
      have g := go72 τ3 (es1 ++ es3) (by rw [he1, he3]) S3 G3
      refine S_X23_method_45 S3.fx ?_
      rw [e63]
      refine ⟨fun z => ?_, fun z => ?_⟩
      · have := (oN_le (a := 120) (by omega) (by omega)).mp z
        rw [hMM, if_neg (by omega)] at g
        exact g
      · have hlt : mn < 120 := Nat.lt_of_not_le fun y => z ((oN_le (a := 120) (by omega) (by omega)).mpr y)
        rw [oN_1, oN_t (by omega)]
        rw [hMM, if_pos hlt] at g
        exact ⟨ib_oN (by omega) (by decide), g⟩
    have e62 : τ.i 0 6 = Int32.ofNat mn := by
      rw [G2.2.2.1 6 (by decide)]
      exact e6
    refine S_X23_method_29 S2.fx ?_
    rw [e62]
    refine ⟨fun z => go45 τ [] ?_ (by rw [List.append_nil]; exact S2) G2, fun z => ?_⟩
    · rw [if_neg (fun y => z (by rw [y]; rfl))]
    · have hm := (oN_eq (b := 120) (by omega) (by omega)).mp z
      refine rx_breaks (r := 7) (by omega) (by omega) (by decide) S2 (fun τ3 S3 G3 => ?_)
      rw [List.append_assoc] at S3
      exact go45 τ3 [(p, 7)] (by rw [if_pos hm]) S3 (G2.tr G3 (fun _ z => z) (Nat.le_refl _))
  refine rx_call (by omega) S1 hq hl ?_
  rw [enm, hcO]
  cases hk : cO with
  | none =>
    refine ⟨fun z => absurd z (by decide), fun _ => ?_⟩
    refine rx_breaks (r := 3) (by omega) (by omega) (by decide) S1 (fun τ2 S2 G2 => ?_)
    have := go29 τ2 [(p, 3)] (by rw [if_pos hk]) S2 (G1.tr G2 (fun _ z => z) (Nat.le_refl _))
    rw [hk] at this
    exact this
  | some k =>
    obtain ⟨g1, -, -⟩ := enc k hk
    refine ⟨fun _ => ?_, fun z => absurd ((oN_le (a := 0) (by omega) (by omega)).mpr (Nat.zero_le k)) z⟩
    have := go29 τ1 [] (by rw [if_neg (by rw [hk]; intro z; cases z)]) (by rw [List.append_nil]; exact S1) G1
    rw [hk] at this
    exact this
end METH3

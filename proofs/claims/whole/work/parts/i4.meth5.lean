/-! THE CLASS: a method, as the document has it -/
section MT5
variable {t : Nat → Int32} {n : Nat} {env : Env}
/-- what a method's name breaks -/
def mtE (t : Nat → Int32) (n : Nat) (env : Env) (mn p : Nat) : Evs := (if env.2.1 (nmS t n p) = none then [(p, 3)] else []) ++ (if mn = 120 then [(p, 7)] else [])
theorem mt_eq {mn p : Nat} : pMt t n env mn p = if tyS t n p = 2 then (if tyS t n (nxS t n p) = 4 then
      (match pSp t n env (plO env (env.2.1 (nmS t n p))) (n + 1 - nxS t n (nxS t n p)) (nxS t n (nxS t n p)) 0 [] (mtE t n env mn p) [] with
      | .inl q => .inl q
      | .inr (p3, V, es3, acc) => match pTl t n env (wiO (env.2.1 (nmS t n p))) V p3 with
        | .inl q => .inl q
        | .inr (p', es', ly, x, k6, y) => .inr (p', es3 ++ es', idx (env.2.1 (nmS t n p)), rlO (tyS t n p3), ly, acc, x, y, k6 + hsN (plO env (env.2.1 (nmS t n p))) acc)) else .inl (nxS t n p)) else .inl p := by
  unfold pMt
  by_cases z : tyS t n p = 2
  · rw [if_pos z, if_pos z]
    by_cases z4 : tyS t n (nxS t n p) = 4
    · rw [if_pos z4, if_pos z4]
      show (match pSp t n env (plO env (env.2.1 (nmS t n p))) (n + 1 - nxS t n (nxS t n p)) (nxS t n (nxS t n p)) 0 [] (mtE t n env mn p) [] with
        | .inl q => _
        | .inr (p3, V, es3, acc) => _) = _
      cases pSp t n env (plO env (env.2.1 (nmS t n p))) (n + 1 - nxS t n (nxS t n p)) (nxS t n (nxS t n p)) 0 [] (mtE t n env mn p) [] with
      | inl q => rfl
      | inr x3 =>
        obtain ⟨p3, V, es3, acc⟩ := x3
        dsimp only
        unfold pTl
        cases pIn t n env (if rlO (tyS t n p3) = 0 then p3 else nxS t n p3) with
        | inl q => rfl
        | inr x5 =>
          obtain ⟨p5, es5, ly⟩ := x5
          dsimp only
          cases pIf t n env V p5 with
          | inl q => rfl
          | inr x6 =>
            obtain ⟨p6, k6, es6, x⟩ := x6
            dsimp only
            by_cases z14 : tyS t n p6 = 14
            · rw [if_pos z14, if_pos z14]
              cases pX t n (wiE env (wiO (env.2.1 (nmS t n p)))) 12 false V (nxS t n p6) 0 with
              | inl q => rfl
              | inr x8 =>
                obtain ⟨p8, c8, es8, y⟩ := x8
                dsimp only
                by_cases z7 : tyS t n p8 = 7
                · rw [if_pos z7, if_pos z7]
                  simp only [List.append_assoc]
                · rw [if_neg z7, if_neg z7]
            · rw [if_neg z14, if_neg z14]
    · rw [if_neg z4, if_neg z4]
  · rw [if_neg z, if_neg z]
theorem sp_nil {places : Nat} : ∀ f p k vs es acc p' V acc', pSp t n env places f p k vs es acc = .inr (p', V, [], acc') → es = []
  | 0, p, k, vs, es, acc, p', V, acc', h => by cases h
  | f + 1, p, k, vs, es, acc, p', V, acc', h => by
    rw [sp_step (vs := vs)] at h
    split at h
    · cases h
    · split at h
      · have := sp_nil f _ _ _ _ _ _ _ _ h
        exact (List.append_eq_nil_iff.mp (List.append_eq_nil_iff.mp (List.append_eq_nil_iff.mp this).1).1).1
      · split at h
        · have h2 := congrArg (fun x => x.2.2.1) (Sum.inr.inj h)
          dsimp only at h2
          exact (List.append_eq_nil_iff.mp (List.append_eq_nil_iff.mp (List.append_eq_nil_iff.mp (List.append_eq_nil_iff.mp h2).1).1).1).1
        · cases h
def mtD (t : Nat → Int32) (n : Nat) (W : Wld) (p1 : Nat) : Nat ⊕ (Nat × Evs × Mtd) → Nat ⊕ (Nat × Evs × Wld)
  | .inl q => .inl q
  | .inr (p', es, D) => .inr (p', es ++ (if es = [] ∧ twB W.2.2.2 D (plO (enW W.1 W.2.1 W.2.2.1 (-1)) ((enW W.1 W.2.1 W.2.2.1 (-1)).2.1 (nmS t n p1))) = true then [(p1, 2)] else []), W.1, W.2.1, W.2.2.1, if W.2.2.2.length < 120 then W.2.2.2 ++ [(D, false)] else W.2.2.2)
theorem pDe_24 {W : Wld} {p : Nat} (hy : tyS t n p = 24) : pDe t n W p = mtD t n W (nxS t n p) (pMt t n (enW W.1 W.2.1 W.2.2.1 (-1)) W.2.2.2.length (nxS t n p)) := by
  unfold pDe
  rw [if_neg (by omega), if_neg (by omega), if_neg (by omega), if_pos hy]
  cases pMt t n (enW W.1 W.2.1 W.2.2.1 (-1)) W.2.2.2.length (nxS t n p) with
  | inl q => rfl
  | inr x => rfl
theorem hDe_in {W : Wld} {p q : Nat} {es : Evs} (h : pDe t n W p = .inl q) : hDe t n W (.inr (p, es)) = .inl q := by
  unfold hDe hbd
  dsimp only
  rw [h]
theorem hDe_ir {W W' : Wld} {p p' : Nat} {es es' : Evs} (h : pDe t n W p = .inr (p', es', W')) : hDe t n W (.inr (p, es)) = .inr (p', es ++ es') := by
  unfold hDe hbd
  dsimp only
  rw [h]
theorem plO_W {W : Wld} {w : Int} (k : Nat) : plO (enW W.1 W.2.1 W.2.2.1 w) (some k) = plW W.2.1 k := by
  unfold plO plW
  show ((W.2.1[k]?).map (·.2.1)).getD 0 = _
  cases W.2.1[k]? with
  | none => rfl
  | some x => rfl
end MT5
section MT6
variable {Z : zT} {d : Nat} {t : Nat → Int32} {n N : Nat} {B : Nat × Nat × Nat × Nat × Nat} {C : Nat × Nat × Nat × Nat} {W : Wld} {σ τ υ : Sg} {K : kS} {vs V : List (List Int32)} {R : HR}
theorem BdS.cg (h : BdS t n N vs R σ) (g1 : ∀ j, j ≤ 6 → τ.i 40 j = σ.i 40 j) (g2 : τ.i 28 3 = σ.i 28 3) (g3 : ∀ j, τ.l 29 j = σ.l 29 j ∧ τ.l 30 j = σ.l 30 j) : BdS t n N vs R τ := by
  rcases R with q | ⟨p, es⟩
  · obtain ⟨⟨b1, b2, b3⟩, b4, b5⟩ := h
    exact ⟨⟨(g1 3 (by decide)).trans b1, (g1 4 (by decide)).trans b2, b3⟩, g2.trans b4, b5⟩
  · obtain ⟨⟨⟨i, i1, i2, i3⟩, b2⟩, ⟨b4, b5, b6⟩, ru, hev⟩ := h
    refine ⟨⟨⟨i, i1, (g1 3 (by decide)).trans i2, i3⟩, (g1 4 (by decide)).trans b2⟩, ⟨g2.trans b4, b5, b6.keep (fun k _ => g3 _)⟩, ?_, hev⟩
    unfold RuC at ru ⊢
    rw [g1 5 (by decide), g1 6 (by decide)]
    exact ru
theorem OpF.md {m : Nat} (h : OpF m σ τ) : MdF m σ τ := ⟨h.1, h.2.1, fun a j q => h.2.2.1 a j (fun z => q (by unfold mdI; omega)) (fun z => q (by unfold mdI; omega)), fun a j q => h.2.2.2 a j (fun z => q (by unfold mdL; omega))⟩
theorem OpF.bd {m : Nat} (g : OpF m σ τ) (h : BdS t n N vs R σ) : BdS t n N vs R τ := h.cg (fun j _ => g.2.2.1 40 j (by omega) (by omega)) (g.2.2.1 28 3 (by omega) (by omega)) (fun j => ⟨g.2.2.2 29 j (by omega), g.2.2.2 30 j (by omega)⟩)
/-- from the method's opening on -/
theorem md_56 {i a0 : Nat} {o : Int} {es E0 : Evs} (hd : 200 ≤ d) (hi : i ≤ N) (ho : -1 ≤ o ∧ o < W.2.1.length) (hB : HB t n N B C W σ) (hWf : WfW W) (M : WMc C a0 W.2.2.2 σ) (hat : a0 + 902 ≤ 923648) (o7 : σ.i 40 7 = 1) (o8 : σ.i 40 8 = Int32.ofInt o) (h : BdS t n N vs R σ)
    (hE : ∀ p Ec, R = .inr (p, Ec) → EqB p Ec (es ++ E0) ∧ (Ec = [] → 0 ≤ o ∧ W.2.2.2.length ≤ 119))
    (kd0 : ∀ τ C' a1 vs' q, R = .inl q → HB t n N B C' W τ → BdS t n N vs' (.inl q) τ → WMc C' a1 W.2.2.2 τ → a1 ≤ a0 + 901 → GfM W.2.2.2.length C C' σ τ → K (.inl none) τ)
    (kd : ∀ τ C' a1 vs' p Ec q, R = .inr (p, Ec) → (tyS t n p = 4 → (match pSp t n (enW W.1 W.2.1 W.2.2.1 (-1)) (if 0 ≤ o then plW W.2.1 o.toNat else 0) (n + 1 - nxS t n p) (nxS t n p) 0 [] E0 [] with
      | .inl q' => q = q'
      | .inr (p3, V, _, _) => pTl t n (enW W.1 W.2.1 W.2.2.1 (-1)) (if 0 ≤ o then o else -2) V p3 = .inl q)) → (¬ tyS t n p = 4 → q = p) → HB t n N B C' W τ → BdS t n N vs' (.inl q) τ → WMc C' a1 W.2.2.2 τ → a1 ≤ a0 + 901 → GfM W.2.2.2.length C C' σ τ → K (.inl none) τ)
    (kw : ∀ τ C' a1 vs' p Ec p3 V es3 acc p' es' Y Ec', R = .inr (p, Ec) → tyS t n p = 4 → pSp t n (enW W.1 W.2.1 W.2.2.1 (-1)) (if 0 ≤ o then plW W.2.1 o.toNat else 0) (n + 1 - nxS t n p) (nxS t n p) 0 [] E0 [] = .inr (p3, V, es3, acc) → pTl t n (enW W.1 W.2.1 W.2.2.1 (-1)) (if 0 ≤ o then o else -2) V p3 = .inr (p', es', Y) → Ec' ≠ [] → EqB p' Ec' (es ++ es3 ++ es') → HB t n N B C' W τ → BdS t n N vs' (.inr (p', Ec')) τ → WMc C' a1 W.2.2.2 τ → a1 ≤ a0 + 901 → GfM W.2.2.2.length C C' σ τ → K (.inl none) τ)
    (ky : ∀ τ C' a1 vs' p Ec p3 V acc p' ly x k6 y, R = .inr (p, Ec) → tyS t n p = 4 → es = [] → 0 ≤ o → pSp t n (enW W.1 W.2.1 W.2.2.1 (-1)) (if 0 ≤ o then plW W.2.1 o.toNat else 0) (n + 1 - nxS t n p) (nxS t n p) 0 [] E0 [] = .inr (p3, V, [], acc) → pTl t n (enW W.1 W.2.1 W.2.2.1 (-1)) (if 0 ≤ o then o else -2) V p3 = .inr (p', [], ly, x, k6, y) → HB t n N B C' W τ → a1 ≤ a0 + 901 → GfM W.2.2.2.length C C' σ τ → W.2.2.2.length ≤ 119 → (twB W.2.2.2 (o, rlO (tyS t n p3), ly, acc, x, y, k6 + hsN (plW W.2.1 o.toNat) acc) (plW W.2.1 o.toNat) = true → WMc C' a1 W.2.2.2 τ → BdS t n N vs' (.inr (p', [(sgP t n i, 2)])) τ → K (.inl none) τ) ∧ (twB W.2.2.2 (o, rlO (tyS t n p3), ly, acc, x, y, k6 + hsN (plW W.2.1 o.toNat) acc) (plW W.2.1 o.toNat) = false → WMc C' a1 (W.2.2.2 ++ [((o, rlO (tyS t n p3), ly, acc, x, y, k6 + hsN (plW W.2.1 o.toNat) acc), false)]) τ → BdS t n N vs' (.inr (p', [])) τ → K (.inl none) τ)) : C_X7_readMethod_56 Z (d + 1) σ (Int32.ofNat (W.2.2.2.length + 1)) (Int32.ofNat i) K := by
  obtain ⟨e, rfl⟩ : ∃ e, d = e + 4 := ⟨d - 4, by omega⟩
  have l120 := M.2.1
  have l24 := hB.2.2.2.2.2.2.2.1.2.1
  have hCo := hB.2.2.2.2.1
  obtain ⟨-, -, -, -, y0, y1, y2, -⟩ := hCo
  refine T_X7_readMethod_56 hB.1 ?_
  rw [o8]
  refine cl_openM hB.1 (by omega) (fun τ1 g1 a11 a12 a13 a18 a23 aS => ?_)
  have hB1 := hB.md g1.md y0
  have b1 := g1.bd h
  have o81 : τ1.i 40 8 = Int32.ofInt o := (g1.2.2.1 40 8 (by omega) (by omega)).trans o8
  have o71 : τ1.i 40 7 = 1 := (g1.2.2.1 40 7 (by omega) (by omega)).trans o7
  have pk : ∀ k : Nat, k < W.2.1.length → ∃ x, W.2.1[k]? = some x ∧ x.2.1 = plW W.2.1 k := fun k hk => by
    refine ⟨W.2.1[k], List.getElem?_eq_getElem hk, ?_⟩
    unfold plW
    rw [List.getElem?_eq_getElem hk]
    rfl
  have w8 : Int32.ofInt o = Int32.ofInt (if (if 0 ≤ o then o else -2) < 0 then -1 else (if 0 ≤ o then o else -2)) := by
    by_cases z : 0 ≤ o
    · rw [if_pos z, if_neg (by omega)]
    · rw [if_neg z, if_pos (by omega), show o = -1 by omega]
  have wn : 1 ≤ (if 0 ≤ o then plW W.2.1 o.toNat else 3) ∧ (if 0 ≤ o then plW W.2.1 o.toNat else 3) ≤ 3 := by
    by_cases z : 0 ≤ o
    · rw [if_pos z]
      exact plW_ok hWf.2.1 (by omega)
    · rw [if_neg z]
      omega
  have pe : (if 0 ≤ o then (if 0 ≤ o then plW W.2.1 o.toNat else 3) else 0) = if 0 ≤ o then plW W.2.1 o.toNat else 0 := by
    by_cases z : 0 ≤ o
    · rw [if_pos z, if_pos z, if_pos z]
    · rw [if_neg z, if_neg z]
  -- behind the SPECs
  have tls : ∀ τ2, SpF (W.2.2.2.length + 1) τ1 τ2 → TlS (W.2.2.2.length + 1) (if 0 ≤ o then o else -2) W C a0 τ2 := fun τ2 f2 => by
    have mdA : MdF (W.2.2.2.length + 1) σ τ2 := g1.md.tr f2.md
    refine ⟨M.md mdA ⟨y0, y1, y2⟩, ⟨(f2.2.2.1 12 _ (by omega) (by omega) (by omega)).trans a12, (f2.2.2.1 13 _ (by omega) (by omega) (by omega)).trans a13, (f2.2.2.1 18 _ (by omega) (by omega) (by omega)).trans a18, (f2.2.2.2 23 _ (by omega)).trans a23⟩, ⟨(f2.2.2.1 40 7 (by omega) (by omega) (by omega)).trans o71, ((f2.2.2.1 40 8 (by omega) (by omega) (by omega)).trans o81).trans w8⟩, ?_, hat⟩
    by_cases z : 0 ≤ o
    · rw [if_pos z]
      omega
    · rw [if_neg z]
      omega
  refine cl_specs (wn := if 0 ≤ o then plW W.2.1 o.toNat else 3) (w := -1) (es0 := es) (esP := E0) (by omega) wn ho (fun z => ?_) (fun z => if_neg (by omega)) hB1 y0 o81 b1 (fun τ2 vs' q hR f2 lv b2 => ?_) (fun τ2 vs' p Ec q hR c1 c2 f2 lv b2 => ?_) (fun τ2 vs' p Ec Ec' p3 V es3 acc hR c4 c1 f2 hj lv b2 hE2 hA2 => ?_) (fun p Ec hR => ?_)
  · obtain ⟨x, x1, x2⟩ := pk o.toNat (by omega)
    exact ⟨x, x1, by rw [if_pos z]; exact x2⟩
  · have mdA : MdF (W.2.2.2.length + 1) σ τ2 := g1.md.tr f2.md
    exact tl_dead (by omega) hi lv (hB.md mdA y0) (tls τ2 f2) hWf b2 (fun τ3 C' a1 k1 k2 k3 k4 k5 => kd0 τ3 C' a1 vs' q hR k1 k2 k3 k4 (k5.pre mdA))
  · have mdA : MdF (W.2.2.2.length + 1) σ τ2 := g1.md.tr f2.md
    rw [pe] at c1
    refine tl_dead (by omega) hi lv (hB.md mdA y0) (tls τ2 f2) hWf b2 (fun τ3 C' a1 k1 k2 k3 k4 k5 => kd τ3 C' a1 vs' p Ec q hR (fun z => ?_) c2 k1 k2 k3 k4 (k5.pre mdA))
    rw [c1 z]
  · have mdA : MdF (W.2.2.2.length + 1) σ τ2 := g1.md.tr f2.md
    rw [pe] at c1
    have knw : Ec' = [] → 0 ≤ o ∧ W.2.2.2.length ≤ 119 := fun z => by
      obtain ⟨z1, z2⟩ := List.append_eq_nil_iff.mp (hE2.nil.mp z)
      rw [z2] at c1
      have z3 := sp_nil _ _ _ _ _ _ _ _ _ c1
      obtain ⟨e1, e2⟩ := hE p Ec hR
      exact e2 (e1.nil.mpr (by rw [z1, z3]; rfl))
    refine tl_live (o := o.toNat) (acc := acc) (V := V) (by omega) hi hj lv (hB.md mdA y0) (tls τ2 f2) hWf b2 hE2 (fun q z => ?_) (fun z => ?_) (fun τ3 C' a1 q k0 k1 k2 k3 k4 k5 => kd τ3 C' a1 vs' p Ec q hR (fun _ => ?_) (fun y => absurd c4 y) k1 k2 k3 k4 (k5.pre mdA)) (fun τ3 C' a1 p' es' Y Ec2 k0 k1 k2 k3 k4 k5 k6 k7 => kw τ3 C' a1 vs' p Ec p3 V es3 acc p' es' Y Ec2 hR c4 c1 k0 k1 k2 k3 k4 k5 k6 (k7.pre mdA)) (fun τ3 C' a1 p' ly x k6 y k0 k1 k2 k3 k4 => ?_)
    · obtain ⟨e1, e2⟩ := knw z
      rw [if_pos e1] at q
      omega
    · obtain ⟨e1, e2⟩ := knw z
      obtain ⟨h1, h2, h3⟩ := hA2 z
      have eo : ((o.toNat : Nat) : Int) = o := Int.toNat_of_nonneg e1
      rw [if_pos e1] at h2 wn
      refine ⟨h1, h3, ?_, ?_, h2, wn.2, e2⟩
      · rw [f2.2.2.1 11 _ (by omega) (by omega) (by omega), a11, eo]
      · rw [if_pos e1, eo]
    · rw [c1]
      exact k0
    · obtain ⟨e1, e2⟩ := knw k0
      have eo : ((o.toNat : Nat) : Int) = o := Int.toNat_of_nonneg e1
      obtain ⟨z1, z2⟩ := List.append_eq_nil_iff.mp (hE2.nil.mp k0)
      rw [z2] at c1
      rw [eo]
      exact ky τ3 C' a1 vs' p Ec p3 V acc p' ly x k6 y hR c4 z1 e1 c1 k1 k2 k3 (k4.pre mdA) e2
  · obtain ⟨e1, e2⟩ := hE p Ec hR
    exact ⟨e1, fun z => ⟨(e2 z).1, aS⟩⟩
end MT6

/-! THE CLASS: terms of tests -/
section TRM
variable (t : Nat → Int32) (n : Nat) (vs : List (List Int32))
/-- a term: where it ends, what it breaks, its variable (or -1), its number -/
def pTm (p : Nat) : Nat ⊕ (Nat × Evs × Int × Int) :=
  if tyS t n p = 2 then (match pBh t n (nxS t n p) with
    | .inl q => .inl q
    | .inr (b, p2) => .inr (p2, spE vs (nmS t n p) p, spV vs (nmS t n p), b))
  else (match pSg t n p with
    | .inl q => .inl q
    | .inr (a, p1) => .inr (p1, [], -1, a))
def htm (R : HR) : HR := hbd R fun p es => match pTm t n vs p with
  | .inl q => .inl q
  | .inr (p1, e1, _, _) => .inr (p1, es ++ e1)
end TRM
/-- what reading a term writes -/
def TdF (σ τ : Sg) : Prop := τ.sh = σ.sh ∧ τ.r = σ.r ∧ (∀ a k, ¬ (a = 40 ∧ ((3 ≤ k ∧ k ≤ 6) ∨ k = 11)) → ¬ (a = 28 ∧ k = 3) → τ.i a k = σ.i a k) ∧ ∀ a k, ¬ ((a = 29 ∨ a = 30) ∧ 56 ≤ k) → a ≠ 40 → τ.l a k = σ.l a k
section TRM2
variable {Z : zT} {d : Nat} {t : Nat → Int32} {n N : Nat} {B : Nat × Nat × Nat × Nat × Nat} {C : Nat × Nat × Nat × Nat} {W : Wld} {σ τ υ : Sg} {K : kS} {vs : List (List Int32)} {R : HR}
theorem TdF.refl (σ : Sg) : TdF σ σ := ⟨rfl, rfl, fun _ _ _ _ => rfl, fun _ _ _ _ => rfl⟩
theorem HdF.td (h : HdF σ τ) : TdF σ τ := ⟨h.1, h.2.1, fun a k q1 q2 => h.2.2.1 a k (by omega) q2, fun a k q _ => h.2.2.2 a k q⟩
theorem TdF.tr (h : TdF σ τ) (g : TdF τ υ) : TdF σ υ := ⟨g.1.trans h.1, g.2.1.trans h.2.1, fun a k q1 q2 => (g.2.2.1 a k q1 q2).trans (h.2.2.1 a k q1 q2), fun a k q1 q2 => (g.2.2.2 a k q1 q2).trans (h.2.2.2 a k q1 q2)⟩
theorem TdF.wi {v : Int32} : TdF σ (σ.wi 40 11 v) := ⟨rfl, rfl, fun a k q1 _ => wi_ne (by omega), fun _ _ _ _ => rfl⟩
theorem TdF.wl {v : Int64} : TdF σ (σ.wl 40 12 v) := ⟨rfl, rfl, fun a k _ _ => rfl, fun a k _ q => wl_ne (fun z => q z.1)⟩
theorem HB.td (h : HB t n N B C W σ) (g : TdF σ τ) : HB t n N B C W τ := by
  obtain ⟨f, sa, ss, hn, ca, ne, ⟨k1, k2, k3, k4, k5⟩, ⟨q1, q2, q3, q4, q5⟩, ⟨l1, l2, l3, l4⟩⟩ := h
  have sa' := sa
  obtain ⟨-, -, -, -, ⟨n1, n2⟩, e0, e1, e2, e3, hc⟩ := sa
  have gi := g.2.2.1
  have gl := g.2.2.2
  refine ⟨by rw [g.1, g.2.1]; exact f, by unfold SgA; rw [g.1, g.2.1]; exact sa', ss.keep (gi 41 4 (by omega) (by omega)) (funext fun k => gi _ k (by omega) (by omega)) (funext fun k => gi _ k (by omega) (by omega)) (funext fun k => gl _ k (by omega) (by omega)) (funext fun k => gl _ k (by omega) (by omega)), hn, by unfold CoA; rw [g.1, g.2.1]; exact ca, ne, ⟨(gi 28 0 (by omega) (by omega)).trans k1, k2, k3.keep (fun k hk => ?_), k4, fun k x hx => (gi 3 k (by omega) (by omega)).trans (k5 k x hx)⟩, ⟨(gi 28 1 (by omega) (by omega)).trans q1, q2, q3.keep (fun k hk => ?_), q4, fun k x hx => ⟨(gi 31 k (by omega) (by omega)).trans (q5 k x hx).1, (q5 k x hx).2⟩⟩, ⟨(gi 28 2 (by omega) (by omega)).trans l1, l2, l3.keep (fun k hk => ?_), l4⟩⟩
  · rw [List.length_map] at hk
    exact ⟨gl 29 _ (by omega) (by omega), gl 30 _ (by omega) (by omega)⟩
  · rw [List.length_map] at hk
    exact ⟨gl 29 _ (by omega) (by omega), gl 30 _ (by omega) (by omega)⟩
  · exact ⟨gl 29 _ (by omega) (by omega), gl 30 _ (by omega) (by omega)⟩
/-- other fields of the reader -/
theorem BdS.w40 {k : Nat} {v : Int32} (h : BdS t n N vs R σ) (hk : 7 ≤ k) : BdS t n N vs R (σ.wi 40 k v) := by
  have e : ∀ j, j ≤ 6 → (σ.wi 40 k v).i 40 j = σ.i 40 j := fun j q => wi_ne (by omega)
  have e2 : (σ.wi 40 k v).i 28 3 = σ.i 28 3 := wi_ne (by omega)
  rcases R with q | ⟨p, es⟩
  · obtain ⟨⟨b1, b2, b3⟩, b4, b5⟩ := h
    exact ⟨⟨(e 3 (by decide)).trans b1, (e 4 (by decide)).trans b2, b3⟩, e2.trans b4, b5⟩
  · obtain ⟨⟨⟨i, i1, i2, i3⟩, b2⟩, ⟨b4, b5, b6⟩, ru, hev⟩ := h
    refine ⟨⟨⟨i, i1, (e 3 (by decide)).trans i2, i3⟩, (e 4 (by decide)).trans b2⟩, ⟨e2.trans b4, b5, b6⟩, ?_, hev⟩
    unfold RuC at ru ⊢
    rw [e 5 (by decide), e 6 (by decide)]
    exact ru
theorem BdS.wl {a k : Nat} {v : Int64} (h : BdS t n N vs R σ) (h1 : a ≠ 29) (h2 : a ≠ 30) : BdS t n N vs R (σ.wl a k v) := by
  rcases R with q | ⟨p, es⟩
  · exact h
  · obtain ⟨b1, ⟨b4, b5, b6⟩, b7⟩ := h
    exact ⟨b1, ⟨b4, b5, b6.keep (fun j _ => ⟨wl_ne (by omega), wl_ne (by omega)⟩)⟩, b7⟩
/-- the number behind a variable -/
theorem tm_71 {p : Nat} {es : Evs} {s0 : Int32} {X : Int} (hy : (tyS t n p = 9 ∧ s0 = 1) ∨ (tyS t n p = 10 ∧ s0 = -1)) (hB : HB t n N B C W σ) (h : BdS t n N vs (.inr (p, es)) σ) (e11 : σ.i 40 11 = Int32.ofInt X) (k : ∀ τ R', (R' = match pBh t n p with
    | .inl q => .inl q
    | .inr (_, p2) => .inr (p2, es)) → TdF σ τ → BdS t n N vs R' τ → τ.i 40 11 = Int32.ofInt X → (∀ b p2, pBh t n p = .inr (b, p2) → τ.l 40 12 = Int64.ofInt b) → K (.inl none) τ) : C_X7_readTerm_71 Z (d + 3) σ s0 K := by
  refine T_X7_readTerm_71 hB.1 (h_sign hB h ?_)
  show C_X7_take_0 Z (d + 2) σ (Int32.ofNat (tyS t n p)) _
  refine h_take (y := tyS t n p) (by omega) hB h (fun τ1 f1 b1 => ?_)
  have e1 : htk t n (tyS t n p) (.inr (p, es)) = .inr (nxS t n p, es) := if_pos rfl
  rw [e1] at b1
  have hB1 := hB.hd f1
  obtain ⟨i, i1, i2, -, i4⟩ := b1.pos hB1
  have i4 := i4 _ _ rfl
  have hB1' := hB1
  obtain ⟨fx, sa, ss, ⟨nn, hN1⟩, -⟩ := hB1'
  have hc := sa.2.2.2.2.2.2.2.2.2
  refine ⟨_, sa.2.2.1.1, _, sa.2.2.1.2, by rw [i2]; exact ib_oN (by omega) (by omega), ?_⟩
  rw [i2, oN_t (by omega), (ss.2.1 i i1).2.2.1, i4]
  have g2 : TdF σ (τ1.wl 40 12 (Int32.toInt64 s0 * hdS t n (nxS t n p))) := f1.td.tr TdF.wl
  have hB2 := hB.td g2
  refine h_take (y := 3) (by decide) hB2 (b1.wl (by decide) (by decide)) (fun τ2 f2 b2 => k τ2 (htk t n 3 (.inr (nxS t n p, es))) ?_ (g2.tr f2.td) b2 ?_ (fun b p2 e => ?_))
  · unfold pBh
    rw [if_pos (by omega)]
    by_cases z : tyS t n (nxS t n p) = 3
    · rw [if_pos z]
      exact if_pos z
    · rw [if_neg z]
      exact if_neg z
  · rw [f2.2.2.1 40 11 (by omega) (by omega)]
    show τ1.i 40 11 = _
    rw [f1.2.2.1 40 11 (by omega) (by omega)]
    exact e11
  · rw [f2.2.2.2 40 12 (by omega), wl_eq]
    unfold pBh at e
    rw [if_pos (by omega)] at e
    by_cases z : tyS t n (nxS t n p) = 3
    · rw [if_pos z] at e
      have e := congrArg Prod.fst (Sum.inr.inj e)
      dsimp only at e
      obtain ⟨v1, -, v3⟩ := hd_va z
      have lt := Int32.toInt_lt (vaS t n (nxS t n p))
      rcases hy with ⟨y1, y2⟩ | ⟨y1, y2⟩
      · rw [if_neg (by omega)] at e
        rw [y2, show Int32.toInt64 1 = 1 from rfl, Int64.one_mul, ← e, ← v1, Int64.ofInt_toInt]
      · rw [if_pos y1] at e
        rw [y2, show Int32.toInt64 (-1) = -1 from rfl, Int64.neg_mul, Int64.one_mul, ← e, ← v1, ← Int64.ofInt_toInt (-(hdS t n (nxS t n p)))]
        congr 1
        rw [Int64.toInt_neg, Int.bmod_eq_of_le (by omega) (by omega)]
    · rw [if_neg z] at e
      cases e
/-- a term -/
theorem cl_term (hB : HB t n N B C W σ) (h : BdS t n N vs R σ) (hv : vs.length ≤ 16) (hj : ∀ nm ∈ vs, nm ≠ []) (k : ∀ τ, TdF σ τ → BdS t n N vs (htm t n vs R) τ → (∀ p es p1 pa mo, R = .inr (p, es) → pTm t n vs p = .inr (p1, [], pa, mo) → τ.i 40 11 = Int32.ofInt (pa + 1) ∧ τ.l 40 12 = Int64.ofInt mo) → K (.inl none) τ) : C_X7_readTerm_0 Z (d + 3) σ K := by
  have tb := hsg_b (t := t) (n := n) R
  have g0 : TdF σ ((σ.wi 40 11 0).wl 40 12 0) := TdF.wi.tr TdF.wl
  have hB0 := hB.td g0
  have b0 : BdS t n N vs R ((σ.wi 40 11 0).wl 40 12 0) := (h.w40 (by decide)).wl (by decide) (by decide)
  refine T_X7_readTerm_0 hB.1 (h_sign hB0 b0 ?_)
  show (Int32.ofNat (hsg t n R) = Int32.ofNat 2 → _) ∧ (¬ Int32.ofNat (hsg t n R) = Int32.ofNat 2 → _)
  rw [oN_eq (by omega) (by decide)]
  refine ⟨fun z => ?_, fun z => ?_⟩
  · rcases R with q | ⟨p, es⟩
    · cases z
    · have z : tyS t n p = 2 := z
      refine h_var hB0 b0 hj (fun τ1 v v1 v2 hv' f1 b1 => ?_)
      have hv' := hv' p es rfl z
      have e1 : hkn t n (lstI vs) (.inr (p, es)) = .inr (nxS t n p, es ++ spE vs (nmS t n p) p) := if_pos z
      rw [e1] at b1
      have g1 : TdF σ (τ1.wi 40 11 (Int32.ofInt v + 1)) := (g0.tr f1.td).tr TdF.wi
      have hB1 := hB.td g1
      have b1' := b1.w40 (k := 11) (v := Int32.ofInt v + 1) (by decide)
      have e11 : (τ1.wi 40 11 (Int32.ofInt v + 1)).i 40 11 = Int32.ofInt (v + 1) := by
        rw [wi_eq, Int32.ofInt_add]
        rfl
      have tb2 : tyS t n (nxS t n p) ≤ 52 := ty_b
      have pa : ∀ p1 pa mo, pTm t n vs p = .inr (p1, [], pa, mo) → v = pa := fun p1 pa mo e => by
        unfold pTm at e
        rw [if_pos z] at e
        cases hb : pBh t n (nxS t n p) with
        | inl q =>
          rw [hb] at e
          cases e
        | inr y =>
          rw [hb] at e
          have e := congrArg Prod.snd (Sum.inr.inj e)
          have e3 : spE vs (nmS t n p) p = [] := congrArg Prod.fst e
          have e4 : spV vs (nmS t n p) = pa := congrArg (fun x => x.2.1) e
          unfold spE at e3
          unfold spV at e4
          cases hl : lstI vs (nmS t n p) with
          | none =>
            rw [hl] at e3
            cases e3
          | some j =>
            rw [hl] at e4 hv'
            rw [hv', ← e4]
            rfl
      -- the number
      have go : ∀ s0, ((tyS t n (nxS t n p) = 9 ∧ s0 = 1) ∨ (tyS t n (nxS t n p) = 10 ∧ s0 = -1)) → C_X7_readTerm_71 Z (d + 3) (τ1.wi 40 11 (Int32.ofInt v + 1)) s0 K := fun s0 hs => by
        refine tm_71 hs hB1 b1' e11 (fun τ2 R' eR f2 b2 c11 c12 => k τ2 (g1.tr f2) ?_ (fun p' es' p1 pa' mo e e2 => ?_))
        · have : htm t n vs (.inr (p, es)) = R' := by
            rw [eR]
            unfold htm hbd pTm
            dsimp only
            rw [if_pos z]
            cases pBh t n (nxS t n p) with
            | inl q => rfl
            | inr y => rfl
          rw [this]
          exact b2
        · have e := Sum.inr.inj e
          have ep : p = p' := congrArg Prod.fst e
          subst ep
          rw [pa _ _ _ e2] at c11
          refine ⟨c11, ?_⟩
          unfold pTm at e2
          rw [if_pos z] at e2
          cases hb : pBh t n (nxS t n p) with
          | inl q =>
            rw [hb] at e2
            cases e2
          | inr y =>
            rw [hb] at e2
            have := congrArg (fun x => x.2.2.2) (Sum.inr.inj e2)
            have : y.1 = mo := this
            rw [← this]
            exact c12 y.1 y.2 hb
      refine h_sign hB1 b1' ?_
      show (Int32.ofNat (tyS t n (nxS t n p)) = Int32.ofNat 9 → _) ∧ (¬ Int32.ofNat (tyS t n (nxS t n p)) = Int32.ofNat 9 → _)
      rw [oN_eq (by omega) (by decide)]
      refine ⟨fun y => T_X7_readTerm_57 hB1.1 (h_sign hB1 b1' ?_), fun y => h_sign hB1 b1' ?_⟩
      · show (¬ Int32.ofNat (tyS t n (nxS t n p)) = Int32.ofNat 9 → _) ∧ (Int32.ofNat (tyS t n (nxS t n p)) = Int32.ofNat 9 → _)
        rw [oN_eq (by omega) (by decide)]
        exact ⟨fun q => absurd y q, fun _ => go 1 (Or.inl ⟨y, rfl⟩)⟩
      · show (¬ Int32.ofNat (tyS t n (nxS t n p)) = Int32.ofNat 10 → _) ∧ (Int32.ofNat (tyS t n (nxS t n p)) = Int32.ofNat 10 → _)
        rw [oN_eq (by omega) (by decide)]
        refine ⟨fun q => k _ g1 ?_ (fun p' es' p1 pa' mo e e2 => ?_), fun q => T_X7_readTerm_57 hB1.1 (h_sign hB1 b1' ?_)⟩
        · have eb : pBh t n (nxS t n p) = .inr (0, nxS t n p) := if_neg (by omega)
          have : htm t n vs (.inr (p, es)) = .inr (nxS t n p, es ++ spE vs (nmS t n p) p) := by
            unfold htm hbd pTm
            dsimp only
            rw [if_pos z, eb]
          rw [this]
          exact b1'
        · have eb : pBh t n (nxS t n p) = .inr (0, nxS t n p) := if_neg (by omega)
          have e := Sum.inr.inj e
          have ep : p = p' := congrArg Prod.fst e
          subst ep
          refine ⟨by rw [← pa _ _ _ e2]; exact e11, ?_⟩
          unfold pTm at e2
          rw [if_pos z, eb] at e2
          have : (0 : Int) = mo := congrArg (fun x => x.2.2.2) (Sum.inr.inj e2)
          rw [← this]
          show τ1.l 40 12 = 0
          rw [f1.2.2.2 40 12 (by omega)]
          exact wl_eq (σ := σ.wi 40 11 0)
        · show (¬ Int32.ofNat (tyS t n (nxS t n p)) = Int32.ofNat 9 → _) ∧ (Int32.ofNat (tyS t n (nxS t n p)) = Int32.ofNat 9 → _)
          rw [oN_eq (by omega) (by decide)]
          exact ⟨fun _ => go (-1) (Or.inr ⟨q, rfl⟩), fun q' => absurd q' y⟩
  · refine h_number hB0 b0 (fun τ1 v hv' f1 b1 => ?_)
    have g1 : TdF σ (τ1.wl 40 12 (Int32.toInt64 v)) := (g0.tr f1.td).tr TdF.wl
    refine k _ g1 ?_ (fun p es p1 pa mo e e2 => ?_)
    · have : htm t n vs R = hnu t n R := by
        rcases R with q | ⟨p, es⟩
        · rfl
        · have z : ¬ tyS t n p = 2 := z
          unfold htm hnu hbd pTm
          dsimp only
          rw [if_neg z]
          cases pSg t n p with
          | inl q => rfl
          | inr y =>
            dsimp only
            rw [List.append_nil]
      rw [this]
      exact b1.wl (by decide) (by decide)
    · subst e
      have z : ¬ tyS t n p = 2 := z
      unfold pTm at e2
      rw [if_neg z] at e2
      cases hb : pSg t n p with
      | inl q =>
        rw [hb] at e2
        cases e2
      | inr y =>
        obtain ⟨x, p2⟩ := y
        rw [hb] at e2
        have e2 := Sum.inr.inj e2
        have a1 : (-1 : Int) = pa := congrArg (fun x => x.2.2.1) e2
        have a2 : x = mo := congrArg (fun x => x.2.2.2) e2
        have hv := hv' p es rfl x p2 hb
        refine ⟨?_, ?_⟩
        · show τ1.i 40 11 = _
          rw [f1.2.2.1 40 11 (by omega) (by omega), ← a1]
          show (σ.wi 40 11 0).i 40 11 = _
          exact wi_eq
        · obtain ⟨x1, x2⟩ := sg_ok hb
          rw [wl_eq, hv, ← a2]
          apply Int64.toInt_inj.mp
          rw [Int32.toInt_toInt64, Int32.toInt_ofInt, Int64.toInt_ofInt, show Int32.size = 4294967296 from rfl, show Int64.size = 18446744073709551616 from rfl, Int.bmod_eq_of_le (by omega) (by omega), Int.bmod_eq_of_le (by omega) (by omega)]
end TRM2

/-! THE CLASS: a method read, behind its SPECs -/
section PTL
variable (t : Nat → Int32) (n : Nat) (env : Env) (w : Int) (V : List (List Int32))
/-- what is behind the SPECs: where it ends, what it breaks, layer, test, comparisons, body -/
def pTl (p3 : Nat) : Nat ⊕ (Nat × Evs × Int × Ast × Nat × Ast) := match pIn t n env (if rlO (tyS t n p3) = 0 then p3 else nxS t n p3) with
  | .inl q => .inl q
  | .inr (p5, es5, ly) => match pIf t n env V p5 with
    | .inl q => .inl q
    | .inr (p6, k6, es6, x) =>
      if tyS t n p6 = 14 then
        (match pX t n (wiE env w) 12 false V (nxS t n p6) 0 with
        | .inl q => .inl q
        | .inr (p8, _, es8, y) => if tyS t n p8 = 7 then .inr (nxS t n p8, es5 ++ es6 ++ es8, ly, x, k6, y) else .inl p8)
      else .inl p6
end PTL
section PT2
variable {t : Nat → Int32} {n : Nat} {env : Env}
theorem in_in {p p1 : Nat} {e : Evs} {ly : Int} (h : pIn t n env p = .inr (p1, e, ly)) : p ≤ p1 ∧ In p p1 e := by
  unfold pIn at h
  by_cases z : tyS t n p = 28
  · rw [if_pos z] at h
    have hx := nx_le (t := t) (n := n) (p := p) (by omega)
    by_cases y : tyS t n (nxS t n p) = 2
    · rw [if_pos y] at h
      have hx2 := nx_le (t := t) (n := n) (p := nxS t n p) (by omega)
      have h := Sum.inr.inj h
      have h1 : nxS t n (nxS t n p) = p1 := congrArg Prod.fst h
      have h2 := congrArg (fun x => x.2.1) h
      dsimp only at h2
      rw [← h2, ← h1]
      exact ⟨by omega, in_ife (by omega) (by omega)⟩
    · rw [if_neg y] at h
      cases h
  · rw [if_neg z] at h
    have h := Sum.inr.inj h
    have h1 : p = p1 := congrArg Prod.fst h
    have h2 : [] = e := congrArg (fun x => x.2.1) h
    rw [← h2, ← h1]
    exact ⟨Nat.le_refl _, fun e he => by cases he⟩
theorem if_in {V : List (List Int32)} {p p1 k : Nat} {e : Evs} {x : Ast} (h : pIf t n env V p = .inr (p1, k, e, x)) : p ≤ p1 ∧ In p p1 e := by
  unfold pIf at h
  by_cases z : tyS t n p = 29
  · rw [if_pos z] at h
    have hx := nx_le (t := t) (n := n) (p := p) (by omega)
    obtain ⟨g1, g2⟩ := ev_tt (ev_ts 12) _ _ _ _ _ _ _ h
    exact ⟨by omega, g2.wk (by omega) (Nat.le_refl _)⟩
  · rw [if_neg z] at h
    have h := Sum.inr.inj h
    have h1 : p = p1 := congrArg Prod.fst h
    have h2 : [] = e := congrArg (fun x => x.2.2.1) h
    rw [← h2, ← h1]
    exact ⟨Nat.le_refl _, fun e he => by cases he⟩
theorem if_sy {V V' : List (List Int32)} {p : Nat} : psR (pIf t n env V p) = psR (pIf t n env V' p) := by
  unfold pIf
  by_cases z : tyS t n p = 29
  · rw [if_pos z, if_pos z]
    exact sy_tt (sy_ts 12) _ _ _ _ _
  · rw [if_neg z, if_neg z]
end PT2
/-- what is broken goes on together -/
theorem EqB.go {p p' b : Nat} {E E' F F' : Evs} (h : EqB p E E') (hF : In p b F) (hF' : In p b F') (hb : b ≤ p') (hs : E = [] → ∀ e, e ∈ F ↔ e ∈ F') (hp : p ≤ p') : EqB p' (E ++ F) (E' ++ F') := by
  by_cases y : E = []
  · rw [y, h.nil.mp y]
    exact eqb_set (hs y) hF hb
  · exact h.later y hF hF' hp
section MT4
variable {Z : zT} {d : Nat} {t : Nat → Int32} {n N : Nat} {B : Nat × Nat × Nat × Nat × Nat} {C : Nat × Nat × Nat × Nat} {W : Wld} {w : Int} {σ τ υ : Sg} {K : kS} {vs V : List (List Int32)} {R : HR}
/-- the fixed things before the tail of a method -/
def TlS (m : Nat) (w : Int) (W : Wld) (C : Nat × Nat × Nat × Nat) (a0 : Nat) (σ : Sg) : Prop := WMc C a0 W.2.2.2 σ ∧ (σ.i 12 m = 0 ∧ σ.i 13 m = -1 ∧ σ.i 18 m = 0 ∧ σ.l 23 m = -1) ∧ (σ.i 40 7 = 1 ∧ σ.i 40 8 = Int32.ofInt (if w < 0 then -1 else w)) ∧ ((w = -2 ∨ 0 ≤ w) ∧ w < W.2.1.length) ∧ a0 + 902 ≤ 923648
theorem WMc.md {C : Nat × Nat × Nat × Nat} {a0 : Nat} {ms : List (Mtd × Bool)} (h : WMc C a0 ms σ) (g : MdF (ms.length + 1) σ τ) (hc : (C.2.1 = 25 ∨ 102 ≤ C.2.1) ∧ (C.2.2.1 = 26 ∨ 102 ≤ C.2.2.1) ∧ (C.2.2.2 = 27 ∨ 102 ≤ C.2.2.2)) : WMc C a0 ms τ := h.keep (g.2.2.1 10 0 (by unfold mdI; omega)) ((g.2.2.1 24 3 (by unfold mdI; omega)).trans h.2.2.1) ⟨Nat.le_refl _, h.2.2.2.1.2⟩ (fun a j q => g.2.2.1 a j (by unfold mdI; unfold mtI at q; omega)) (fun a j q => g.2.2.2 a j (by unfold mdL; unfold mtL at q; omega)) (fun j _ => ⟨g.2.2.1 _ j (by unfold mdI; omega), g.2.2.1 _ j (by unfold mdI; omega), g.2.2.1 _ j (by unfold mdI; omega)⟩)
/-- dead behind the SPECs: to the end -/
theorem tl_dead {i a0 q : Nat} (hd : 193 ≤ d) (hi : i ≤ N) (hv : vs.length ≤ 3) (hB : HB t n N B C W σ) (T : TlS (W.2.2.2.length + 1) w W C a0 σ) (hWf : WfW W) (h : BdS t n N vs (.inl q) σ) (kd : ∀ τ C' a1, HB t n N B C' W τ → BdS t n N vs (.inl q) τ → WMc C' a1 W.2.2.2 τ → a1 ≤ a0 + 901 → GfM W.2.2.2.length C C' σ τ → K (.inl none) τ) : RoP Z d (W.2.2.2.length + 1) (Int32.ofNat i) K σ := by
  obtain ⟨e, rfl⟩ : ∃ e, d = e + 2 := ⟨d - 2, by omega⟩
  obtain ⟨M, ⟨i12, i13, i18, i23⟩, ⟨o7, o8⟩, hw, hat⟩ := T
  have l120 := M.2.1
  have hCo := hB.2.2.2.2.1
  obtain ⟨-, -, -, -, y0, y1, y2, -⟩ := hCo
  refine md_role (d := e + 1) (by omega) y0 hB h i12 (fun τ1 f1 b1 _ => ?_)
  have hB1 := hB.md f1.1 y0
  have i131 : τ1.i 13 (W.2.2.2.length + 1) = -1 := by rw [f1.2.1 13 (by omega) (by omega) (by omega)]; exact i13
  refine md_111 (d := e) (w := -1) (by omega) y0 hB1 b1 i131 (fun τ2 f2 b2 _ => ?_)
  have hB2 := hB1.md f2.1 y0
  have i182 : τ2.i 18 (W.2.2.2.length + 1) = 0 := by rw [f2.2.1 18 (by omega) (by omega) (by omega), f1.2.1 18 (by omega) (by omega) (by omega)]; exact i18
  have i232 : τ2.l 23 (W.2.2.2.length + 1) = -1 := by rw [f2.2.2.1.2, f1.2.2.1.2]; exact i23
  refine md_137 (d := e + 2) (w := -1) (by omega) (by omega) (by omega) (fun p es z => by cases z) y0 hB2 b2 i182 i232 (fun τ3 q' hq f3 b3 => ?_) (fun τ3 p es p' c' es' x e => by cases e)
  have eq : q' = q := by
    rcases hq with hq | ⟨p, es, hq, -⟩
    · exact (Sum.inl.inj hq).symm
    · cases hq
  subst eq
  have fA : MdF (W.2.2.2.length + 1) σ τ3 := (f1.1.tr f2.1).tr f3.1
  have hB3 := hB.md fA y0
  have o73 : τ3.i 40 7 = 1 := by rw [f3.2.2 7 (by omega) (by omega), f2.2.2.2 7 (by omega), f1.2.2.2 7 (by omega)]; exact o7
  have o83 : τ3.i 40 8 = Int32.ofInt (if w < 0 then -1 else w) := by rw [f3.2.2 8 (by omega) (by omega), f2.2.2.2 8 (by omega), f1.2.2.2 8 (by omega)]; exact o8
  exact md_169 (d := e + 2) (pl := 0) (D0 := fun y => (0, 0, 0, [], .nil, y, 0)) (by omega) hi hB3 b3 (M.md fA ⟨y0, y1, y2⟩) (fun p es z => by cases z) hv o73 o83 hw (fun _ p z => by cases z) hat hWf (Or.inr fun p z => by cases z) (fun p z => by cases z) (fun τ4 C' a1 _ g1 g2 g3 g4 g5 => kd τ4 C' a1 g1 g2 g3 g4 (g5.pre fA)) (fun τ4 C' a1 p p' c' p9 y z => by cases z)
/-- live behind the SPECs -/
theorem tl_live {i a0 p3 o : Nat} {Ec E : Evs} {acc : List Spc} (hd : 193 ≤ d) (hi : i ≤ N) (hj : ∀ nm ∈ vs, nm ≠ []) (hv : vs.length ≤ 3) (hB : HB t n N B C W σ) (T : TlS (W.2.2.2.length + 1) w W C a0 σ) (hWf : WfW W) (h : BdS t n N vs (.inr (p3, Ec)) σ) (hE : EqB p3 Ec E) (h2 : w = -2 → Ec ≠ []) (hA : Ec = [] → vs = V ∧ SpL (W.2.2.2.length + 1) acc σ ∧ σ.i 11 (W.2.2.2.length + 1) = Int32.ofInt o ∧ w = o ∧ acc.length = plW W.2.1 o ∧ plW W.2.1 o ≤ 3 ∧ W.2.2.2.length ≤ 119)
    (kd : ∀ τ C' a1 q, pTl t n (enW W.1 W.2.1 W.2.2.1 (-1)) w V p3 = .inl q → HB t n N B C' W τ → BdS t n N vs (.inl q) τ → WMc C' a1 W.2.2.2 τ → a1 ≤ a0 + 901 → GfM W.2.2.2.length C C' σ τ → K (.inl none) τ)
    (kw : ∀ τ C' a1 p' es' Y Ec', pTl t n (enW W.1 W.2.1 W.2.2.1 (-1)) w V p3 = .inr (p', es', Y) → Ec' ≠ [] → EqB p' Ec' (E ++ es') → HB t n N B C' W τ → BdS t n N vs (.inr (p', Ec')) τ → WMc C' a1 W.2.2.2 τ → a1 ≤ a0 + 901 → GfM W.2.2.2.length C C' σ τ → K (.inl none) τ)
    (ky : ∀ τ C' a1 p' ly x k6 y, Ec = [] → pTl t n (enW W.1 W.2.1 W.2.2.1 (-1)) w V p3 = .inr (p', [], ly, x, k6, y) → HB t n N B C' W τ → a1 ≤ a0 + 901 → GfM W.2.2.2.length C C' σ τ → (twB W.2.2.2 ((o : Int), rlO (tyS t n p3), ly, acc, x, y, k6 + hsN (plW W.2.1 o) acc) (plW W.2.1 o) = true → WMc C' a1 W.2.2.2 τ → BdS t n N vs (.inr (p', [(sgP t n i, 2)])) τ → K (.inl none) τ) ∧ (twB W.2.2.2 ((o : Int), rlO (tyS t n p3), ly, acc, x, y, k6 + hsN (plW W.2.1 o) acc) (plW W.2.1 o) = false → WMc C' a1 (W.2.2.2 ++ [(((o : Int), rlO (tyS t n p3), ly, acc, x, y, k6 + hsN (plW W.2.1 o) acc), false)]) τ → BdS t n N vs (.inr (p', [])) τ → K (.inl none) τ)) : RoP Z d (W.2.2.2.length + 1) (Int32.ofNat i) K σ := by
  obtain ⟨e, rfl⟩ : ∃ e, d = e + 2 := ⟨d - 2, by omega⟩
  obtain ⟨M, ⟨i12, i13, i18, i23⟩, ⟨o7, o8⟩, hw, hat⟩ := T
  have l120 := M.2.1
  have l24 := hB.2.2.2.2.2.2.2.1.2.1
  have hCo := hB.2.2.2.2.1
  obtain ⟨-, -, -, -, y0, y1, y2, -⟩ := hCo
  have p34 : p3 ≤ (if rlO (tyS t n p3) = 0 then p3 else nxS t n p3) := by
    by_cases z : rlO (tyS t n p3) = 0
    · rw [if_pos z]
      exact Nat.le_refl _
    · rw [if_neg z]
      have : 2 ≤ tyS t n p3 := by
        rw [rlO_eq] at z
        by_cases q : 25 ≤ tyS t n p3 ∧ tyS t n p3 ≤ 27
        · omega
        · rw [if_neg q] at z
          exact absurd rfl z
      have := nx_le (t := t) (n := n) (p := p3) this
      omega
  refine md_role (d := e + 1) (by omega) y0 hB h i12 (fun τ1 f1 b1 w1 => ?_)
  have w1 := w1 p3 Ec rfl
  have hB1 := hB.md f1.1 y0
  have i131 : τ1.i 13 (W.2.2.2.length + 1) = -1 := by rw [f1.2.1 13 (by omega) (by omega) (by omega)]; exact i13
  have b1 : BdS t n N vs (.inr (if rlO (tyS t n p3) = 0 then p3 else nxS t n p3, Ec)) τ1 := b1
  unfold pTl at kd kw ky
  generalize (if rlO (tyS t n p3) = 0 then p3 else nxS t n p3) = p4 at p34 b1 kd kw ky
  refine md_111 (d := e) (w := -1) (by omega) y0 hB1 b1 i131 (fun τ2 f2 b2 w2 => ?_)
  have hB2 := hB1.md f2.1 y0
  have i182 : τ2.i 18 (W.2.2.2.length + 1) = 0 := by rw [f2.2.1 18 (by omega) (by omega) (by omega), f1.2.1 18 (by omega) (by omega) (by omega)]; exact i18
  have i232 : τ2.l 23 (W.2.2.2.length + 1) = -1 := by rw [f2.2.2.1.2, f1.2.2.1.2]; exact i23
  -- dead from here on
  have dead : ∀ τ3 q, TzF (W.2.2.2.length + 1) τ2 τ3 → BdS t n N vs (.inl q) τ3 → (∀ τ C' a1, HB t n N B C' W τ → BdS t n N vs (.inl q) τ → WMc C' a1 W.2.2.2 τ → a1 ≤ a0 + 901 → GfM W.2.2.2.length C C' σ τ → K (.inl none) τ) → C_X7_readMethod_169 Z (e + 3) τ3 (Int32.ofNat (W.2.2.2.length + 1)) (Int32.ofNat i) K := fun τ3 q f3 b3 kq => by
    have fA : MdF (W.2.2.2.length + 1) σ τ3 := (f1.1.tr f2.1).tr f3.1
    have hB3 := hB.md fA y0
    have o73 : τ3.i 40 7 = 1 := by rw [f3.2.2 7 (by omega) (by omega), f2.2.2.2 7 (by omega), f1.2.2.2 7 (by omega)]; exact o7
    have o83 : τ3.i 40 8 = Int32.ofInt (if w < 0 then -1 else w) := by rw [f3.2.2 8 (by omega) (by omega), f2.2.2.2 8 (by omega), f1.2.2.2 8 (by omega)]; exact o8
    exact md_169 (d := e + 2) (pl := 0) (D0 := fun y => (0, 0, 0, [], .nil, y, 0)) (by omega) hi hB3 b3 (M.md fA ⟨y0, y1, y2⟩) (fun _ _ _ => hj) hv o73 o83 hw (fun _ p z => by cases z) hat hWf (Or.inr fun p z => by cases z) (fun p z => by cases z) (fun τ4 C' a1 _ g1 g2 g3 g4 g5 => kq τ4 C' a1 g1 g2 g3 g4 (g5.pre fA)) (fun τ4 C' a1 p p' c' p9 y z => by cases z)
  cases hin1 : pIn t n (enW W.1 W.2.1 W.2.2.1 (-1)) p4 with
  | inl q =>
    rw [hin1] at kd
    have eh : hin t n (enW W.1 W.2.1 W.2.2.1 (-1)) (.inr (p4, Ec)) = .inl q := by
      unfold hin hbd
      dsimp only
      rw [hin1]
    rw [eh] at b2
    refine md_137 (d := e + 2) (w := -1) (by omega) (by omega) (by omega) (fun _ _ _ => hj) y0 hB2 b2 i182 i232 (fun τ3 q' hq f3 b3 => ?_) (fun τ3 p es p' c' es' x e => by cases e)
    have eq : q' = q := by
      rcases hq with hq | ⟨p, es, hq, -⟩
      · exact (Sum.inl.inj hq).symm
      · cases hq
    subst eq
    exact dead τ3 q' f3 b3 (fun τ C' a1 g1 g2 g3 g4 g5 => kd τ C' a1 q' rfl g1 g2 g3 g4 g5)
  | inr x5 =>
    obtain ⟨p5, e5, ly⟩ := x5
    rw [hin1] at kd kw ky
    dsimp only at kd kw ky
    obtain ⟨le5, in5⟩ := in_in hin1
    have eh : hin t n (enW W.1 W.2.1 W.2.2.1 (-1)) (.inr (p4, Ec)) = .inr (p5, Ec ++ e5) := by
      unfold hin hbd
      dsimp only
      rw [hin1]
    rw [eh] at b2
    have hE5 : EqB p5 (Ec ++ e5) (E ++ e5) := (hE.wk p34).go in5 in5 (Nat.le_refl _) (fun _ _ => Iff.rfl) le5
    -- the test, on both sides
    have syT := if_sy (t := t) (n := n) (env := enW W.1 W.2.1 W.2.2.1 (-1)) (V := vs) (V' := V) (p := p5)
    refine md_137 (d := e + 2) (w := -1) (by omega) (by omega) (by omega) (fun _ _ _ => hj) y0 hB2 b2 i182 i232 (fun τ3 q' hq f3 b3 => ?_) (fun τ3 p es p6 c6 e6 x hR e6' f3 b3 hT => ?_)
    · have hq : pIf t n (enW W.1 W.2.1 W.2.2.1 (-1)) vs p5 = .inl q' := by
        rcases hq with hq | ⟨p, es, hq, hq2⟩
        · cases hq
        · cases hq
          exact hq2
      have hq2 : pIf t n (enW W.1 W.2.1 W.2.2.1 (-1)) V p5 = .inl q' := by
        rcases ps_or syT with ⟨q, r1, r2⟩ | ⟨p, a, b, r1, r2⟩
        · rw [hq] at r1
          rw [Sum.inl.inj r1, r2]
        · rw [hq] at r1
          cases r1
      rw [hq2] at kd
      exact dead τ3 q' f3 b3 (fun τ C' a1 g1 g2 g3 g4 g5 => kd τ C' a1 q' rfl g1 g2 g3 g4 g5)
    · have hR := Sum.inr.inj hR
      have ea : p5 = p := congrArg Prod.fst hR
      have eb : Ec ++ e5 = es := congrArg Prod.snd hR
      subst ea eb
      obtain ⟨k6, e6P, xP, hP⟩ : ∃ k6 e6P xP, pIf t n (enW W.1 W.2.1 W.2.2.1 (-1)) V p5 = .inr (p6, k6, e6P, xP) := by
        rcases ps_or syT with ⟨q, r1, r2⟩ | ⟨p, a, b, r1, r2⟩
        · rw [e6'] at r1
          cases r1
        · rw [e6'] at r1
          have : p6 = p := congrArg Prod.fst (Sum.inr.inj r1)
          rw [← this] at r2
          exact ⟨b.1, b.2.1, b.2.2, r2⟩
      rw [hP] at kd kw ky
      dsimp only at kd kw ky
      obtain ⟨le6, in6⟩ := if_in e6'
      obtain ⟨-, in6P⟩ := if_in hP
      have same6 : Ec ++ e5 = [] → c6 = k6 ∧ e6 = e6P ∧ x = xP := fun z => by
        obtain ⟨z1, -⟩ := List.append_eq_nil_iff.mp z
        obtain ⟨a1, -⟩ := hA z1
        rw [a1, hP] at e6'
        have := congrArg Prod.snd (Sum.inr.inj e6')
        exact ⟨(congrArg Prod.fst this).symm, (congrArg (fun x => x.2.1) this).symm, (congrArg (fun x => x.2.2) this).symm⟩
      have hE6 : EqB p6 (Ec ++ e5 ++ e6) (E ++ e5 ++ e6P) := hE5.go in6 in6P (Nat.le_refl _) (fun z e => by rw [(same6 z).2.1]) le6
      have fA : MdF (W.2.2.2.length + 1) σ τ3 := (f1.1.tr f2.1).tr f3.1
      have hB3 := hB.md fA y0
      have o73 : τ3.i 40 7 = 1 := by rw [f3.2.2 7 (by omega) (by omega), f2.2.2.2 7 (by omega), f1.2.2.2 7 (by omega)]; exact o7
      have o83 : τ3.i 40 8 = Int32.ofInt (if w < 0 then -1 else w) := by rw [f3.2.2 8 (by omega) (by omega), f2.2.2.2 8 (by omega), f1.2.2.2 8 (by omega)]; exact o8
      have syX := sy_x (t := t) (n := n) (env := enW W.1 W.2.1 W.2.2.1 w) (env' := wiE (enW W.1 W.2.1 W.2.2.1 (-1)) w) 12 false vs V (nxS t n p6) 0 0
      have lC : ∀ a j, 11 ≤ a → a ≤ 17 → a ≠ 12 → a ≠ 13 → τ3.i a j = σ.i a j := fun a j q1 q2 q3 q4 => by rw [f3.2.1 a q1 q2, f2.2.1 a q1 (by omega) q4, f1.2.1 a q1 (by omega) q3]
      refine md_169 (d := e + 2) (pl := plW W.2.1 o) (D0 := fun y => ((o : Int), rlO (tyS t n p3), ly, acc, x, y, c6 + hsN (plW W.2.1 o) acc)) (by omega) hi hB3 b3 (M.md fA ⟨y0, y1, y2⟩) (fun _ _ _ => hj) hv o73 o83 hw (fun q p z => ?_) hat hWf ?_ (fun p z y => ?_) (fun τ4 C' a1 z g1 g2 g3 g4 g5 => ?_) (fun τ4 C' a1 p p' c' p9 y z z14 zx z7 z9 g1 g2 g3 => ?_)
      · have z := congrArg Prod.snd (Sum.inr.inj z)
        exact h2 q (List.append_eq_nil_iff.mp (List.append_eq_nil_iff.mp z).1).1
      · by_cases q : Ec = []
        · exact Or.inl (hA q).2.2.2.2.2.2
        · refine Or.inr fun p z => ?_
          have z := congrArg Prod.snd (Sum.inr.inj z)
          exact q (List.append_eq_nil_iff.mp (List.append_eq_nil_iff.mp z).1).1
      · have z := congrArg Prod.snd (Sum.inr.inj z)
        obtain ⟨z1, z2⟩ := List.append_eq_nil_iff.mp z
        obtain ⟨z3, z4⟩ := List.append_eq_nil_iff.mp z1
        obtain ⟨a1, a2, a3, a4, a5, a6, a7⟩ := hA z3
        obtain ⟨tq, tc⟩ := hT z
        have m12 : τ3.i 12 (W.2.2.2.length + 1) = Int32.ofNat (rlO (tyS t n p3)) := by
          rw [f3.2.1 12 (by omega) (by omega), f2.2.1 12 (by omega) (by omega) (by omega)]
          exact w1
        have m13 : τ3.i 13 (W.2.2.2.length + 1) = Int32.ofInt ly := by
          rw [f3.2.1 13 (by omega) (by omega)]
          exact w2 p4 Ec p5 ly rfl (by rw [← z4]; exact hin1)
        refine ⟨⟨(lC 11 _ (by omega) (by omega) (by omega) (by omega)).trans a3, m12, m13, fun j hj => ?_, tq⟩, rfl, ⟨a5, a6, rfl⟩, fun _ => ?_, by omega⟩
        · obtain ⟨s1, s2, s3⟩ := a2 j hj
          exact ⟨(lC 15 _ (by omega) (by omega) (by omega) (by omega)).trans s1, (lC 16 _ (by omega) (by omega) (by omega) (by omega)).trans s2, (lC 17 _ (by omega) (by omega) (by omega) (by omega)).trans s3⟩
        · rename_i xn
          unfold pIf at e6'
          by_cases y29 : tyS t n p5 = 29
          · rw [if_pos y29] at e6'
            exact (ht_ls (ht_ls (ht_ts 12) (Or.inr rfl)) (Or.inl rfl) _ _ _ _ _ _ _ e6').1
          · rw [if_neg y29] at e6'
            have : Std.Format.nil = x := congrArg (fun x => x.2.2.2) (Sum.inr.inj e6')
            exact absurd this.symm xn
      · -- something is wrong, or dead
        by_cases y14 : tyS t n p6 = 14
        · have hx6 := nx_le (t := t) (n := n) (p := p6) (by omega)
          rw [if_pos y14] at kd kw
          have e14 : htk t n 14 (.inr (p6, Ec ++ e5 ++ e6)) = .inr (nxS t n p6, Ec ++ e5 ++ e6) := if_pos y14
          cases hpx : pX t n (enW W.1 W.2.1 W.2.2.1 w) 12 false vs (nxS t n p6) 0 with
          | inl q =>
            have hq2 : pX t n (wiE (enW W.1 W.2.1 W.2.2.1 (-1)) w) 12 false V (nxS t n p6) 0 = .inl q := by
              rcases ps_or syX with ⟨q', r1, r2⟩ | ⟨p, a, b, r1, r2⟩
              · rw [hpx] at r1
                rw [Sum.inl.inj r1, r2]
              · rw [hpx] at r1
                cases r1
            rw [hq2] at kd
            have eb : hbo t n (enW W.1 W.2.1 W.2.2.1 w) vs (.inr (p6, Ec ++ e5 ++ e6)) = .inl q := by
              unfold hbo
              rw [e14]
              unfold hbX hbd
              dsimp only
              rw [hpx]
              rfl
            rw [eb] at g2
            exact kd τ4 C' a1 q rfl g1 g2 g3 g4 (g5.pre fA)
          | inr x8 =>
            obtain ⟨p8, c8, e8, y8⟩ := x8
            obtain ⟨c8P, e8P, y8P, hq2⟩ : ∃ c8P e8P y8P, pX t n (wiE (enW W.1 W.2.1 W.2.2.1 (-1)) w) 12 false V (nxS t n p6) 0 = .inr (p8, c8P, e8P, y8P) := by
              rcases ps_or syX with ⟨q', r1, r2⟩ | ⟨p, a, b, r1, r2⟩
              · rw [hpx] at r1
                cases r1
              · rw [hpx] at r1
                have : p8 = p := congrArg Prod.fst (Sum.inr.inj r1)
                rw [← this] at r2
                exact ⟨b.1, b.2.1, b.2.2, r2⟩
            rw [hq2] at kd kw
            dsimp only at kd kw
            obtain ⟨lt8, in8⟩ := ev_x (t := t) (n := n) 12 false _ _ _ _ _ _ _ hpx
            obtain ⟨-, in8P⟩ := ev_x (t := t) (n := n) 12 false _ _ _ _ _ _ _ hq2
            have ebX : hbX t n (enW W.1 W.2.1 W.2.2.1 w) vs (.inr (nxS t n p6, Ec ++ e5 ++ e6)) = .inr (p8, Ec ++ e5 ++ e6 ++ e8) := by
              unfold hbX hbd
              dsimp only
              rw [hpx]
            by_cases y7 : tyS t n p8 = 7
            · have hx8 := nx_le (t := t) (n := n) (p := p8) (by omega)
              rw [if_pos y7] at kw
              have eb : hbo t n (enW W.1 W.2.1 W.2.2.1 w) vs (.inr (p6, Ec ++ e5 ++ e6)) = .inr (nxS t n p8, Ec ++ e5 ++ e6 ++ e8) := by
                unfold hbo
                rw [e14, ebX]
                exact if_pos y7
              rw [eb] at g2 z
              refine kw τ4 C' a1 _ _ _ _ rfl (fun q => ?_) ?_ g1 g2 g3 g4 (g5.pre fA)
              · rw [q] at z
                exact clI_nil _ z
              · rw [← List.append_assoc, ← List.append_assoc]
                refine ((hE6.wk (by omega)).go in8 in8P (Nat.le_refl _) (fun zz e => ?_) (by omega)).wk (by omega)
                obtain ⟨z1, z2⟩ := List.append_eq_nil_iff.mp zz
                obtain ⟨z3, z4⟩ := List.append_eq_nil_iff.mp z1
                obtain ⟨av, -⟩ := hA z3
                rw [av] at hpx
                have : pX t n (enW W.1 W.2.1 W.2.2.1 w) 12 false V (nxS t n p6) 0 = .inr (p8, c8P, e8P, y8P) := hq2
                rw [hpx] at this
                have : e8 = e8P := congrArg (fun x => x.2.2.1) (Sum.inr.inj this)
                rw [this]
            · rw [if_neg y7] at kd
              have eb : hbo t n (enW W.1 W.2.1 W.2.2.1 w) vs (.inr (p6, Ec ++ e5 ++ e6)) = .inl p8 := by
                unfold hbo
                rw [e14, ebX]
                exact if_neg y7
              rw [eb] at g2
              exact kd τ4 C' a1 p8 rfl g1 g2 g3 g4 (g5.pre fA)
        · rw [if_neg y14] at kd
          have eb : hbo t n (enW W.1 W.2.1 W.2.2.1 w) vs (.inr (p6, Ec ++ e5 ++ e6)) = .inl p6 := by
            unfold hbo
            have e14 : htk t n 14 (.inr (p6, Ec ++ e5 ++ e6)) = .inl p6 := if_neg y14
            rw [e14]
            rfl
          rw [eb] at g2
          exact kd τ4 C' a1 p6 rfl g1 g2 g3 g4 (g5.pre fA)
      · have z := Sum.inr.inj z
        have za : p6 = p := congrArg Prod.fst z
        have zb : Ec ++ e5 ++ e6 = [] := congrArg Prod.snd z
        subst za
        obtain ⟨z1, z2⟩ := List.append_eq_nil_iff.mp zb
        obtain ⟨z3, z4⟩ := List.append_eq_nil_iff.mp z1
        obtain ⟨av, -⟩ := hA z3
        obtain ⟨s1, s2, s3⟩ := same6 z1
        subst s1 s2 s3 z4 z2
        rw [av] at zx
        have zx : pX t n (wiE (enW W.1 W.2.1 W.2.2.1 (-1)) w) 12 false V (nxS t n p6) 0 = .inr (p', c', [], y) := zx
        rw [if_pos z14, zx] at ky
        dsimp only at ky
        rw [if_pos z7] at ky
        subst z9
        exact ky τ4 C' a1 _ _ _ _ _ z3 rfl g1 g2 (g3.pre fA)
end MT4

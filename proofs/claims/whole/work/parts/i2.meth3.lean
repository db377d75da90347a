/-! THE CLASS: a method read, from := on -/
section MT3
variable {Z : zT} {d : Nat} {t : Nat → Int32} {n N m : Nat} {B : Nat × Nat × Nat × Nat × Nat} {C C' : Nat × Nat × Nat × Nat} {W : Wld} {w : Int} {σ τ υ : Sg} {K : kS} {vs : List (List Int32)} {R : HR}
theorem MdF.dc {u : Nat} (C : Nat × Nat × Nat × Nat) (h : MdF (u + 1) σ τ) : DcF C C σ τ := (MdF.gf (C := C) h).2.1
theorem GfM.pre {u : Nat} (g : MdF (u + 1) σ τ) (h : GfM u C C' τ υ) : GfM u C C' σ υ := ⟨⟨fun a j q => (h.1.1 a j q).trans ((MdF.gf (C := C) g).1.1 a j q), fun j q => (h.1.2 j q).trans ((MdF.gf (C := C) g).1.2 j q)⟩, (g.dc C).tr h.2.1, by
  rcases h.2.2.1 with q | q
  · exact Or.inl ⟨q.1.trans g.1, q.2⟩
  · exact Or.inr ⟨by rw [q.1, g.1], q.2⟩, (MdF.gf (C := C) g).2.2.2.tr h.2.2.2 (g.dc C)⟩
theorem GfM.post {u : Nat} (h : GfM u C C' σ τ) (g : MdF (u + 1) τ υ) : GfM u C C' σ υ := ⟨⟨fun a j q => ((MdF.gf (C := C) g).1.1 a j q).trans (h.1.1 a j q), fun j q => ((MdF.gf (C := C) g).1.2 j q).trans (h.1.2 j q)⟩, h.2.1.tr (g.dc C'), by
  rcases h.2.2.1 with q | q
  · exact Or.inl ⟨g.1.trans q.1, q.2⟩
  · exact Or.inr ⟨by rw [g.1, q.1], q.2⟩, h.2.2.2.tr (MdF.gf (C := C') g).2.2.2 h.2.1⟩
theorem BoF.gf {S u : Nat} (h : BoF S C C' σ τ) (hs : 102 ≤ σ.sh.length) (hc : (C.2.1 = 25 ∨ 102 ≤ C.2.1) ∧ (C.2.2.1 = 26 ∨ 102 ≤ C.2.2.1) ∧ (C.2.2.2 = 27 ∨ 102 ≤ C.2.2.2)) (hS : S < C.1) (h1 : 1804 ≤ C.1) (h9 : 902 ≤ S) : GfM u C C' σ τ := by
  obtain ⟨b1, b2, b3, b4, b5, b6, b7⟩ := h
  refine ⟨⟨fun a j q => b3 a j (by omega) (by omega) (by omega) (by omega) (by omega) (by omega) (by omega), fun j _ => b3 14 j (by omega) (by omega) (by omega) (by omega) (by omega) (by omega) (by omega)⟩, ⟨b1, b2, fun a q1 q2 q3 q4 q5 => funext fun j => b3 a j q1 (fun z => q2 (Or.inl (by omega))) q3 q4 q5 (fun z => q2 (Or.inr (by omega))) (fun z => q2 (Or.inl (by omega))), fun a q1 q2 q3 q4 q5 q6 => funext fun j => b4 a j q1 (fun z => by omega), b5⟩, ?_, fun _ _ j q => b6 j (by omega)⟩
  rcases b7 with q | q
  · exact Or.inl q
  · refine Or.inr ⟨q.1, ?_⟩
    have := q.2.2
    omega
/-- what the method says, in the heap, without its body -/
def MtH (m : Nat) (D : Mtd) (σ : Sg) : Prop := σ.i 11 m = Int32.ofInt D.1 ∧ σ.i 12 m = Int32.ofNat D.2.1 ∧ σ.i 13 m = Int32.ofInt D.2.2.1 ∧ SpL m D.2.2.2.1 σ ∧ TsC m D.2.2.2.2.1 σ
theorem MtH.keep {D : Mtd} (h : MtH m D σ) (gi : ∀ a j, 11 ≤ a → a ≤ 21 → a ≠ 14 → τ.i a j = σ.i a j) (gl : ∀ j, τ.l 22 j = σ.l 22 j ∧ τ.l 23 j = σ.l 23 j) : MtH m D τ := by
  obtain ⟨c1, c2, c3, c4, t1, t2, t3, t4, t5⟩ := h
  refine ⟨(gi 11 m (by omega) (by omega) (by omega)).trans c1, (gi 12 m (by omega) (by omega) (by omega)).trans c2, (gi 13 m (by omega) (by omega) (by omega)).trans c3, fun j hj => ?_, (gi 18 m (by omega) (by omega) (by omega)).trans t1, t2, t3, fun j l hl => (t4 j l hl).keep ⟨gi 19 _ (by omega) (by omega) (by omega), gi 20 _ (by omega) (by omega) (by omega), gi 21 _ (by omega) (by omega) (by omega), (gl _).1⟩, (gl _).2.trans t5⟩
  obtain ⟨p1, p2, p3⟩ := c4 j hj
  exact ⟨(gi 15 _ (by omega) (by omega) (by omega)).trans p1, (gi 16 _ (by omega) (by omega) (by omega)).trans p2, (gi 17 _ (by omega) (by omega) (by omega)).trans p3⟩
theorem HB.w10 {v : Int32} (h : HB t n N B C W σ) : HB t n N B C W (σ.wi 10 0 v) := by
  obtain ⟨f, sa, ss, hn, ca, ne, ⟨k1, k2, k3, k4, k5⟩, ⟨q1, q2, q3, q4, q5⟩, ⟨l1, l2, l3, l4⟩⟩ := h
  have sa' := sa
  obtain ⟨-, -, -, -, ⟨n1, n2⟩, e0, e1, e2, e3, hc⟩ := sa
  exact ⟨f, sa', ss.keep (wi_ne (by omega)) (wi_row (by omega)) (wi_row (by omega)) rfl rfl, hn, ca, ne, ⟨(wi_ne (by omega)).trans k1, k2, k3, k4, fun k x hx => (wi_ne (by omega)).trans (k5 k x hx)⟩, ⟨(wi_ne (by omega)).trans q1, q2, q3, q4, fun k x hx => ⟨(wi_ne (by omega)).trans (q5 k x hx).1, (q5 k x hx).2⟩⟩, ⟨(wi_ne (by omega)).trans l1, l2, l3, l4⟩⟩
def hbo (t : Nat → Int32) (n : Nat) (env : Env) (vs : List (List Int32)) (R : HR) : HR := htk t n 7 (hbX t n env vs (htk t n 14 R))
theorem md_169 {i a0 pl : Nat} {D0 : Ast → Mtd} (hd : 192 ≤ d) (hi : i ≤ N) (hB : HB t n N B C W σ) (h : BdS t n N vs R σ) (M : WMc C a0 W.2.2.2 σ) (hj : ∀ p es, R = .inr (p, es) → ∀ nm ∈ vs, nm ≠ []) (hv : vs.length ≤ 3) (o7 : σ.i 40 7 = 1) (o8 : σ.i 40 8 = Int32.ofInt (if w < 0 then -1 else w)) (hw : (w = -2 ∨ 0 ≤ w) ∧ w < W.2.1.length) (h2 : w = -2 → ∀ p, R ≠ .inr (p, [])) (hat : a0 + 902 ≤ 923648) (hWf : WfW W) (hm : W.2.2.2.length ≤ 119 ∨ ∀ p, R ≠ .inr (p, []))
    (hM : ∀ p, R = .inr (p, []) → ∀ y, MtH (W.2.2.2.length + 1) (D0 y) σ ∧ (D0 y).2.2.2.2.2.1 = y ∧ ((D0 y).2.2.2.1.length = pl ∧ pl ≤ 3 ∧ plW W.2.1 (D0 y).1.toNat = pl) ∧ ((D0 y).2.2.2.2.1 ≠ .nil → 1 ≤ lfN (D0 y).2.2.2.2.1) ∧ (0 ≤ (D0 y).1 ∧ (D0 y).1 < 24))
    (kn : ∀ τ C' a1, clI (hbo t n (enW W.1 W.2.1 W.2.2.1 w) vs R) = 0 → HB t n N B C' W τ → BdS t n N vs (hbo t n (enW W.1 W.2.1 W.2.2.1 w) vs R) τ → WMc C' a1 W.2.2.2 τ → a1 ≤ a0 + 901 → GfM W.2.2.2.length C C' σ τ → K (.inl none) τ)
    (ky : ∀ τ C' a1 p p' c' p9 y, R = .inr (p, []) → tyS t n p = 14 → pX t n (enW W.1 W.2.1 W.2.2.1 w) 12 false vs (nxS t n p) 0 = .inr (p', c', [], y) → tyS t n p' = 7 → p9 = nxS t n p' → HB t n N B C' W τ → a1 ≤ a0 + 901 → GfM W.2.2.2.length C C' σ τ → (twB W.2.2.2 (D0 y) pl = true → WMc C' a1 W.2.2.2 τ → BdS t n N vs (.inr (p9, [(sgP t n i, 2)])) τ → K (.inl none) τ) ∧ (twB W.2.2.2 (D0 y) pl = false → WMc C' a1 (W.2.2.2 ++ [(D0 y, false)]) τ → BdS t n N vs (.inr (p9, [])) τ → K (.inl none) τ)) : C_X7_readMethod_169 Z (d + 1) σ (Int32.ofNat (W.2.2.2.length + 1)) (Int32.ofNat i) K := by
  obtain ⟨e, rfl⟩ : ∃ e, d = e + 2 := ⟨d - 2, by omega⟩
  have l24 := hB.2.2.2.2.2.2.2.1.2.1
  obtain ⟨m1, m2, m3, ⟨m4, m5, m6⟩, mm⟩ := id M
  have cle := m6.le
  refine T_X7_readMethod_169 hB.1 (h_take (y := 14) (by decide) hB h (fun τ1 f1 b1 => ⟨ib_oN (by omega) (by decide), ?_⟩))
  have hB1 := hB.hd f1
  have e24 : τ1.i 24 3 = Int32.ofNat a0 := (f1.2.2.1 24 3 (by omega) (by omega)).trans m3
  rw [e24, oN_t (by omega)]
  have fm : MdF (W.2.2.2.length + 1) σ (τ1.wi 14 (W.2.2.2.length + 1) (Int32.ofNat a0)) := (f1.md _).tr (MdF.wi (by unfold mdI; omega))
  have hCo := hB.2.2.2.2.1
  obtain ⟨⟨-, z2⟩, ⟨-, z4⟩, ⟨-, z6⟩, mC, y0, y1, y2, hy⟩ := hCo
  have hB2 := hB.md fm y0
  have cb : CB0 t n N B C W w (τ1.wi 14 (W.2.2.2.length + 1) (Int32.ofNat a0)) := HB.cb t n N B C W (w := w) hB2 ⟨by
      rw [if_neg (by omega)]
      exact (wi_ne (by omega)).trans ((f1.2.2.1 40 7 (by omega) (by omega)).trans o7), (wi_ne (by omega)).trans ((f1.2.2.1 40 8 (by omega) (by omega)).trans o8), by omega⟩
  have b2 : BdS t n N vs (htk t n 14 R) (τ1.wi 14 (W.2.2.2.length + 1) (Int32.ofNat a0)) := b1.wi (by decide) (by decide)
  have h14 : ∀ p, htk t n 14 R = .inr (p, []) → ∃ p0, R = .inr (p0, []) ∧ tyS t n p0 = 14 ∧ p = nxS t n p0 := fun p q => by
    rcases R with r | ⟨p0, es⟩
    · cases q
    · have q : (if tyS t n p0 = 14 then (.inr (nxS t n p0, es) : HR) else .inl p0) = .inr (p, []) := q
      by_cases z : tyS t n p0 = 14
      · rw [if_pos z] at q
        have q := Sum.inr.inj q
        have q1 : nxS t n p0 = p := congrArg Prod.fst q
        have q2 : es = [] := congrArg Prod.snd q
        subst q2
        exact ⟨p0, rfl, z, q1.symm⟩
      · rw [if_neg z] at q
        cases q
  have hj14 : ∀ p es, htk t n 14 R = .inr (p, es) → ∀ nm ∈ vs, nm ≠ [] := fun p es q => by
    rcases R with r | ⟨p0, es0⟩
    · cases q
    · exact hj p0 es0 rfl
  refine cl_bodyH (d := e + 1) (S := a0) (by omega) cb b2 (fun p es q => hj14 p es q) hv ⟨m5, by omega⟩ (fun q p y => ?_) (fun τ2 C' hB3 bo b3 c1 c2 hx => ?_)
  · obtain ⟨p0, q1, -⟩ := h14 p y
    exact h2 q p0 q1
  · have hs : 102 ≤ (τ1.wi 14 (W.2.2.2.length + 1) (Int32.ofNat a0)).sh.length := (List.getElem?_eq_some_iff.mp (hB2.1.s (a := 101) t0_101)).1
    have g2 : GfM W.2.2.2.length C C' (τ1.wi 14 (W.2.2.2.length + 1) (Int32.ofNat a0)) τ2 := bo.gf hs ⟨y0, y1, y2⟩ m5 cle.1 (by omega)
    have cap : capK C'.1 := by
      rcases bo.2.2.2.2.2.2 with q | q
      · rw [q.2]
        exact m6
      · have : C'.1 = 2 * C.1 := by
          have := q.2.2
          omega
        rw [this]
        exact m6.up (by have := q.2.1; omega)
    obtain ⟨x, x1, x2, x3⟩ := hx
    -- rows of the methods
    have lC : ∀ a, 11 ≤ a → a ≤ 23 → a < (τ1.wi 14 (W.2.2.2.length + 1) (Int32.ofNat a0)).sh.length ∧ a ≠ C.2.1 ∧ a ≠ C.2.2.1 ∧ a ≠ C.2.2.2 := fun a q1 q2 => by omega
    have rI : ∀ a j, 11 ≤ a → a ≤ 23 → τ2.i a j = (τ1.wi 14 (W.2.2.2.length + 1) (Int32.ofNat a0)).i a j := fun a j q1 q2 => by
      obtain ⟨r1, r2, r3, r4⟩ := lC a q1 q2
      exact bo.2.2.1 a j r1 (by omega) r2 r3 r4 (by omega) (by omega)
    have rL : ∀ a j, 11 ≤ a → a ≤ 23 → τ2.l a j = τ1.l a j := fun a j q1 q2 => bo.2.2.2.1 a j (by omega) (by omega)
    have r10 : τ2.i 10 0 = σ.i 10 0 := (bo.2.2.1 10 0 (by omega) (by omega) (by omega) (by omega) (by omega) (by omega) (by omega)).trans ((wi_ne (by omega)).trans (f1.2.2.1 10 0 (by omega) (by omega)))
    have cLow : ∀ c, (c = 25 ∨ c = 26 ∨ c = 27 ∨ 102 ≤ c) → ∀ j, (τ1.wi 14 (W.2.2.2.length + 1) (Int32.ofNat a0)).i c j = σ.i c j := fun c q j => (wi_ne (by omega)).trans (f1.2.2.1 c j (by omega) (by omega))
    refine h_take (y := 7) (by decide) hB3 b3 (fun τ3 f3 b4 => ?_)
    have hB4 := hB3.hd f3
    have gA : GfM W.2.2.2.length C C' σ τ3 := (g2.pre fm).post (f3.md _)
    have i3 : ∀ a j, a ≠ 40 → a ≠ 28 → τ3.i a j = τ2.i a j := fun a j q1 q2 => f3.2.2.1 a j (by omega) (by omega)
    have l3 : ∀ a j, a ≠ 29 → a ≠ 30 → τ3.l a j = τ2.l a j := fun a j q1 q2 => f3.2.2.2 a j (by omega)
    have hCo' := hB3.2.2.2.2.1
    obtain ⟨⟨-, -⟩, ⟨-, -⟩, ⟨-, -⟩, -, u0, u1, u2, -⟩ := hCo'
    have M4 : WMc C' (a0 + x) W.2.2.2 τ3 := by
      refine M.keep ((i3 10 0 (by omega) (by omega)).trans r10) ((i3 24 3 (by omega) (by omega)).trans x2) ⟨by omega, by omega, cap⟩ (fun a j q => ?_) (fun a j q => ?_) (fun j hj => ?_)
      · have qa : 11 ≤ a ∧ a ≤ 21 ∧ ¬ (a = 14 ∧ j = W.2.2.2.length + 1) := by
          unfold mtI at q
          omega
        rw [i3 a j (by omega) (by omega), rI a j (by omega) (by omega), wi_ne qa.2.2]
        exact f1.2.2.1 a j (by omega) (by omega)
      · have qa : a = 22 ∨ a = 23 := by
          unfold mtL at q
          omega
        rw [l3 a j (by omega) (by omega), rL a j (by omega) (by omega)]
        exact f1.2.2.2 a j (by omega)
      · obtain ⟨k1, k2, k3⟩ := bo.2.2.2.2.2.1 j hj
        refine ⟨?_, ?_, ?_⟩
        · rw [i3 _ j (by omega) (by omega), k1]
          exact cLow _ (by omega) j
        · rw [i3 _ j (by omega) (by omega), k2]
          exact cLow _ (by omega) j
        · rw [i3 _ j (by omega) (by omega), k3]
          exact cLow _ (by omega) j
    refine h_clean hB4 b4 ⟨fun z => kn τ3 C' (a0 + x) z hB4 b4 M4 (by omega) gA, fun z => ?_⟩
    -- nothing wrong
    obtain ⟨p9, e9⟩ := clI_ne z
    have e9' : hbo t n (enW W.1 W.2.1 W.2.2.1 w) vs R = .inr (p9, []) := e9
    obtain ⟨p, p', c', y, a1, a2, a3, a4, a5⟩ : ∃ p p' c' y, R = .inr (p, []) ∧ tyS t n p = 14 ∧ pX t n (enW W.1 W.2.1 W.2.2.1 w) 12 false vs (nxS t n p) 0 = .inr (p', c', [], y) ∧ tyS t n p' = 7 ∧ p9 = nxS t n p' := by
      unfold hbo at e9'
      cases hbX1 : hbX t n (enW W.1 W.2.1 W.2.2.1 w) vs (htk t n 14 R) with
      | inl q =>
        rw [hbX1] at e9'
        cases e9'
      | inr r =>
        obtain ⟨p', es'⟩ := r
        rw [hbX1] at e9'
        have e9' : (if tyS t n p' = 7 then (.inr (nxS t n p', es') : HR) else .inl p') = .inr (p9, []) := e9'
        by_cases y7 : tyS t n p' = 7
        · rw [if_pos y7] at e9'
          have e9' := Sum.inr.inj e9'
          have q1 : nxS t n p' = p9 := congrArg Prod.fst e9'
          have q2 : es' = [] := congrArg Prod.snd e9'
          subst q2
          cases hR1 : htk t n 14 R with
          | inl q =>
            rw [hR1] at hbX1
            cases hbX1
          | inr r =>
            obtain ⟨p1, es1⟩ := r
            rw [hR1] at hbX1
            have hbX1 : (match pX t n (enW W.1 W.2.1 W.2.2.1 w) 12 false vs p1 0 with
              | .inl q => (.inl q : HR)
              | .inr (p', _, es', _) => .inr (p', es1 ++ es')) = .inr (p', []) := hbX1
            cases hpx : pX t n (enW W.1 W.2.1 W.2.2.1 w) 12 false vs p1 0 with
            | inl q =>
              rw [hpx] at hbX1
              cases hbX1
            | inr r =>
              obtain ⟨p2, c2, es2, y⟩ := r
              rw [hpx] at hbX1
              have hbX1 := Sum.inr.inj hbX1
              have q3 : p2 = p' := congrArg Prod.fst hbX1
              obtain ⟨q4, q5⟩ := List.append_eq_nil_iff.mp (congrArg Prod.snd hbX1)
              subst q3 q4 q5
              obtain ⟨p0, r1, r2, r3⟩ := h14 p1 hR1
              subst r3
              exact ⟨p0, p2, c2, y, r1, r2, hpx, y7, q1.symm⟩
        · rw [if_neg y7] at e9'
          cases e9'
    obtain ⟨hMt, hDy, hpl, hnl, hD0⟩ := hM p a1 y
    have l119 : W.2.2.2.length ≤ 119 := by
      rcases hm with q | q
      · exact q
      · exact absurd a1 (q p)
    have hMt3 : MtH (W.2.2.2.length + 1) (D0 y) τ3 := hMt.keep (fun a j q1 q2 q3 => by
      rw [i3 a j (by omega) (by omega), rI a j q1 (by omega), wi_ne (by omega)]
      exact f1.2.2.1 a j (by omega) (by omega)) (fun j => ⟨by
        rw [l3 22 j (by omega) (by omega), rL 22 j (by omega) (by omega)]
        exact f1.2.2.2 22 j (by omega), by
        rw [l3 23 j (by omega) (by omega), rL 23 j (by omega) (by omega)]
        exact f1.2.2.2 23 j (by omega)⟩)
    obtain ⟨t1, t2, t3, t4, t5, t6, t7, t8, t9⟩ := id hMt3
    have ky := ky
    have b5 : BdS t n N vs (.inr (p9, [])) τ3 := by
      have e9'' : htk t n 7 (hbX t n (enW W.1 W.2.1 W.2.2.1 w) vs (htk t n 14 R)) = .inr (p9, []) := e9
      rw [e9''] at b4
      exact b4
    refine cl_twin (d := e) hB4.1 hWf M4 (D := D0 y) (pl := pl) ⟨t1, t2, t3, t4, t5, t6, hnl, hD0⟩ l24 hpl ?_
    by_cases tw : twB W.2.2.2 (D0 y) pl = true
    · rw [if_pos tw]
      refine ⟨fun q => absurd q (by decide), fun _ => h_break (rule := 2) hB4 b5 hi (by decide) (fun τ4 f4 b6 => ?_)⟩
      refine (ky τ4 C' (a0 + x) p p' c' p9 y a1 a2 a3 a4 a5 (hB4.hd f4) (by omega) (gA.post (f4.md _))).1 tw ?_ b6
      exact M4.keep (f4.2.2.1 10 0 (by omega) (by omega)) ((f4.2.2.1 24 3 (by omega) (by omega)).trans M4.2.2.1) ⟨Nat.le_refl _, by omega, cap⟩ (fun a j q => f4.2.2.1 a j (by unfold mtI at q; omega) (by unfold mtI at q; omega)) (fun a j q => f4.2.2.2 a j (by unfold mtL at q; omega)) (fun j hj => ⟨f4.2.2.1 _ j (by omega) (by omega), f4.2.2.1 _ j (by omega) (by omega), f4.2.2.1 _ j (by omega) (by omega)⟩)
    · have tw : twB W.2.2.2 (D0 y) pl = false := by
        cases q : twB W.2.2.2 (D0 y) pl with
        | true => exact absurd q tw
        | false => rfl
      rw [tw, if_neg (by decide)]
      refine ⟨fun _ => ?_, fun q => absurd rfl q⟩
      rw [M4.1, oN_1]
      have g4 : GfM W.2.2.2.length C C' σ (τ3.wi 10 0 (Int32.ofNat (W.2.2.2.length + 1))) := ⟨⟨fun a j q => (wi_ne (by omega)).trans (gA.1.1 a j q), fun j q => (wi_ne (by omega)).trans (gA.1.2 j q)⟩, gA.2.1.wi (Or.inl (by omega)), gA.2.2.1, gA.2.2.2.tr (CdK.ke (fun a j q => wi_ne (by omega))) gA.2.1⟩
      refine (ky _ C' (a0 + x) p p' c' p9 y a1 a2 a3 a4 a5 hB4.w10 (by omega) g4).2 tw ?_ (b5.wi (by decide) (by decide))
      have nm : (W.2.2.2 ++ [(D0 y, false)]).length = W.2.2.2.length + 1 := by
        rw [List.length_append]
        rfl
      refine ⟨by rw [wi_eq, nm], by omega, (wi_ne (by omega)).trans M4.2.2.1, M4.2.2.2.1, fun k v hk => ?_⟩
      have keep : ∀ (u : Nat) (v : Mtd × Bool), MtC C' (a0 + x) u v τ3 → MtC C' (a0 + x) u v (τ3.wi 10 0 (Int32.ofNat (W.2.2.2.length + 1))) := fun u v q => q.keep (Nat.le_refl u) (Nat.le_refl _) (fun a j r => wi_ne (by unfold mtI at r; omega)) (fun _ _ _ => rfl) (fun j _ => ⟨wi_ne (by omega), wi_ne (by omega), wi_ne (by omega)⟩)
      by_cases kk : k < W.2.2.2.length
      · rw [List.getElem?_append_left kk] at hk
        exact keep _ _ (M4.2.2.2.2 k v hk)
      · have hl := (List.getElem?_eq_some_iff.mp hk).1
        have ek : k = W.2.2.2.length := by omega
        subst ek
        rw [List.getElem?_append_right (Nat.le_refl _), Nat.sub_self] at hk
        have ev : (D0 y, false) = v := Option.some.inj hk
        subst ev
        refine keep _ _ ⟨t1, t2, t3, t4, ⟨t5, t6, t7, t8, t9⟩, a0, ?_, m4, ?_, ?_⟩
        · rw [i3 14 _ (by omega) (by omega), rI 14 _ (by omega) (by omega)]
          exact wi_eq
        · have e14 : htk t n 14 R = .inr (nxS t n p, []) := by
            rw [a1]
            exact if_pos a2
          have := (x3 _ p' c' y e14 a3).1
          show a0 + (cdB (D0 y).2.2.2.2.2.1 false a0 0).length + 1 ≤ a0 + x
          rw [hDy]
          omega
        · have e14 : htk t n 14 R = .inr (nxS t n p, []) := by
            rw [a1]
            exact if_pos a2
          have cd := (x3 _ p' c' y e14 a3).2
          show CdH a0 C'.2.1 C'.2.2.1 C'.2.2.2 (cdB (D0 y).2.2.2.2.2.1 false a0 0 ++ [(25, 0, 0)]) τ3
          rw [hDy]
          intro j q hq
          obtain ⟨k1, k2, k3⟩ := cd j q hq
          exact ⟨(i3 _ _ (by omega) (by omega)).trans k1, (i3 _ _ (by omega) (by omega)).trans k2, (i3 _ _ (by omega) (by omega)).trans k3⟩
end MT3

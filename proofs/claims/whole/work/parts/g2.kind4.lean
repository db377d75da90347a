/-! THE CLASS: a kind read, its end -/
section RK4
variable {Z : zT} {d : Nat} {t : Nat → Int32} {n N : Nat} {B : Nat × Nat × Nat × Nat × Nat} {C : Nat × Nat × Nat × Nat} {W : Wld} {σ τ υ : Sg} {K : kS} {vs : List (List Int32)} {R : HR}
theorem KF.dc {k : Nat} (C : Nat × Nat × Nat × Nat) (h : KF k σ τ) : DcF C C σ τ := ⟨⟨[], by rw [h.1, List.append_nil]⟩, fun a _ _ => by rw [h.2.2.1], fun a _ q _ _ _ => funext fun j => h.2.2.2 a j (fun z => q (Or.inl (by unfold kfI at z; omega))), fun a _ _ _ _ _ _ => by rw [h.2.1], Or.inl rfl, Or.inl rfl, Or.inl rfl⟩
theorem WK.hk {ks : List Knd} (h : WK ks σ) (hl : ks.length ≤ 24) (g : HdK σ τ) : WK ks τ := h.keep hl (fun k _ => ⟨g.2.2.1 4 k (by omega) (by omega) (by omega) (by omega), g.2.2.1 5 k (by omega) (by omega) (by omega) (by omega), fun w _ i _ => ⟨g.2.2.1 7 _ (by omega) (by omega) (by omega) (by omega), g.2.2.1 8 _ (by omega) (by omega) (by omega) (by omega)⟩⟩)
/-- what a kind's reading leaves of the ints -/
def GfK (σ τ : Sg) : Prop := (∀ a k, 10 ≤ a → ¬ (a = 40 ∧ 3 ≤ k ∧ k ≤ 6) → ¬ (a = 28 ∧ (k = 3 ∨ k = 0)) → τ.i a k = σ.i a k) ∧ (∀ a k, a ≠ 29 → a ≠ 30 → τ.l a k = σ.l a k) ∧ τ.sh = σ.sh
theorem HdK.gf (h : HdK σ τ) : GfK σ τ := ⟨fun a k q1 q2 q3 => h.2.2.1 a k q2 (by omega) (by omega) (by omega), fun a k q1 q2 => h.2.2.2 a k (by omega), h.1⟩
theorem KF.gf {k : Nat} (h : KF k σ τ) : GfK σ τ := ⟨fun a k q1 q2 q3 => h.2.2.2 a k (by unfold kfI; omega), fun a k _ _ => by rw [h.2.1], h.1⟩
theorem GfK.tr (h : GfK σ τ) (g : GfK τ υ) : GfK σ υ := ⟨fun a k q1 q2 q3 => (g.1 a k q1 q2 q3).trans (h.1 a k q1 q2 q3), fun a k q1 q2 => (g.2.1 a k q1 q2).trans (h.2.1 a k q1 q2), g.2.2.trans h.2.2⟩
def hba (t : Nat → Int32) (n : Nat) (R : HR) : HR := hbd R fun p es => if tyS t n p = 21 then .inr (nxS t n p, es) else .inr (p, es)
/-- the parents that it has -/
def paT (ps : List Nat) : List Nat := if ps = [] then [0] else ps
theorem rk_183 {i p : Nat} {ps : List Nat} {b : Bool} {nm : List Int32} (hi : i ≤ N) (hB : HB t n N B C W σ) (hW : WK W.1 σ) (h : BdS t n N vs (.inr (p, [])) σ) (hP : PaS ps W.1.length σ) (hl : W.1.length < 24) (hn : nm ∉ W.1.map (·.1)) (ok : nm.length ≤ 16 ∧ ∀ c ∈ nm, nmC c) (eh : hdS t n (sgP t n i) = nmH nm) (et : tlS t n (sgP t n i) = nmT nm) (ky : ∀ τ, (rwN W.1.length ps (rwW W.1)).2.2.2 = true → HB t n N B C (W.1 ++ [(nm, b, ps, (rwN W.1.length ps (rwW W.1)).1, (rwN W.1.length ps (rwW W.1)).2.1, (rwN W.1.length ps (rwW W.1)).2.2.1)], W.2.1, W.2.2.1, W.2.2.2) τ → WK (W.1 ++ [(nm, b, ps, (rwN W.1.length ps (rwW W.1)).1, (rwN W.1.length ps (rwW W.1)).2.1, (rwN W.1.length ps (rwW W.1)).2.2.1)]) τ → BdS t n N vs (.inr (p, [])) τ → GfK σ τ → DcF C C σ τ → K (.inl none) τ) (kf : ∀ τ, (rwN W.1.length ps (rwW W.1)).2.2.2 = false → HB t n N B C W τ → WK W.1 τ → BdS t n N vs (.inr (p, [(sgP t n i, 5)])) τ → GfK σ τ → DcF C C σ τ → K (.inl none) τ) : C_X7_readKind_183 Z (d + 7) σ (Int32.ofNat i) (if b = true then 1 else 0) K := by
  have X : KxS W.1 ps W.1.length σ := ⟨hB.1, hW, ⟨rfl, by omega⟩, hP⟩
  have hB' := hB
  obtain ⟨fx, sa, ss, ⟨nn, hN1⟩, -, -, ⟨c1, -⟩, -⟩ := hB'
  have hc := sa.2.2.2.2.2.2.2.2.2
  refine T_X7_readKind_183 fx ?_
  rw [c1]
  refine cl_make (nm := nm) (d := d) X (fun τ1 k1 e1 e2 e3 e4 => ⟨fun z => absurd z (by decide), fun _ => ?_⟩) (fun τ1 k1 e1 => ⟨fun _ => ?_, fun z => absurd rfl z⟩)
  · have hB1 := hB.kf k1
    have hB1' := hB1
    obtain ⟨fx1, sa1, ss1, -, -, -, ⟨c2, -⟩, -⟩ := hB1'
    refine ⟨_, sa1.2.2.1.1, _, sa1.2.2.1.2, ib_oN (by omega) (by omega), _, sa1.2.2.2.1.1, _, sa1.2.2.2.1.2, ib_oN (by omega) (by omega), ?_⟩
    rw [oN_t (by omega), (ss1.2.1 i hi).2.2.1, (ss1.2.1 i hi).2.2.2, eh, et]
    refine h_add (s := 0) (o := 0) (len := W.1.length) (most := 24) fx1 (by decide) xJ_0.1 xJ_1.1 c2 hl (by decide) (ky _ e1 ?_ ?_ ?_ ?_ ?_)
    · exact hB1.ki (x := (nm, b, ps, (rwN W.1.length ps (rwW W.1)).1, (rwN W.1.length ps (rwW W.1)).2.1, (rwN W.1.length ps (rwW W.1)).2.2.1)) hl hn ok e2
    · intro q x hx
      have gi : ∀ a j, a < 10 → (((τ1.wl 29 (0 + W.1.length) (nmH nm)).wl 30 (0 + W.1.length) (nmT nm)).wi 28 0 (Int32.ofNat (W.1.length + 1))).i a j = τ1.i a j := fun a j z => wi_ne (by omega)
      by_cases z : q < W.1.length
      · rw [List.getElem?_append_left z] at hx
        exact ((X.kf k1).2.1.keep (τ := ((τ1.wl 29 (0 + W.1.length) (nmH nm)).wl 30 (0 + W.1.length) (nmT nm)).wi 28 0 (Int32.ofNat (W.1.length + 1))) (by omega) (fun j _ => ⟨gi 4 j (by omega), gi 5 j (by omega), fun w _ i _ => ⟨gi 7 _ (by omega), gi 8 _ (by omega)⟩⟩)) q x hx
      · have hk := (List.getElem?_eq_some_iff.mp hx).1
        rw [List.length_append, List.length_singleton] at hk
        have e : q = W.1.length := by omega
        subst e
        rw [List.getElem?_append_right (Nat.le_refl _), Nat.sub_self] at hx
        have e := Option.some.inj hx
        subst e
        refine ⟨⟨?_, (gi 5 _ (by omega)).trans e3.2.1, fun w hw j y hy => ⟨(gi 7 _ (by omega)).trans (e3.2.2 w hw j y hy).1, (gi 8 _ (by omega)).trans (e3.2.2 w hw j y hy).2⟩⟩, e4⟩
        rw [gi 4 _ (by omega)]
        exact e3.1
    · have b1 := h.kf k1
      obtain ⟨⟨⟨i', i1, i2, i3⟩, b2⟩, ⟨b4, b5, b6⟩, ru, hev⟩ := b1
      refine ⟨⟨⟨i', i1, (wi_ne (by omega)).trans i2, i3⟩, (wi_ne (by omega)).trans b2⟩, ⟨(wi_ne (by omega)).trans b4, b5, b6.keep (fun j hj => ⟨wl2_l (by omega), wl2_l (by omega)⟩)⟩, ?_, hev⟩
      unfold RuC at ru ⊢
      rw [wi_ne (by omega), wi_ne (by omega)]
      exact ru
    · exact k1.gf.tr ⟨fun a q q1 q2 q3 => wi_ne (by omega), fun a q q1 q2 => wl2_l (by omega), rfl⟩
    · exact (((k1.dc C).wl (by omega)).wl (by omega)).wi (Or.inl (by omega))
  · have hB1 := hB.kf k1
    refine h_break (rule := 5) hB1 (h.kf k1) hi (by decide) (fun τ2 f2 b2 => kf τ2 e1 (hB1.hd f2) ((X.kf k1).2.1.hk (by omega) f2.k) b2 (k1.gf.tr f2.k.gf) ((k1.dc C).tr (f2.dc C)))
theorem rk_131 {i : Nat} {ps : List Nat} {nm : List Int32} (hi : i ≤ N) (hB : HB t n N B C W σ) (hW : WK W.1 σ) (h : BdS t n N vs R σ) (hP : ∀ p es, R = .inr (p, es) → PaS ps W.1.length σ) (h0 : 0 < W.1.length) (hc : ∀ p2, htk t n 7 (hba t n R) = .inr (p2, []) → W.1.length < 24 ∧ nm ∉ W.1.map (·.1) ∧ (nm.length ≤ 16 ∧ ∀ c ∈ nm, nmC c) ∧ hdS t n (sgP t n i) = nmH nm ∧ tlS t n (sgP t n i) = nmT nm) (kn : ∀ τ, clI (htk t n 7 (hba t n R)) = 0 → HB t n N B C W τ → WK W.1 τ → BdS t n N vs (htk t n 7 (hba t n R)) τ → GfK σ τ → DcF C C σ τ → K (.inl none) τ) (ky : ∀ τ p2, htk t n 7 (hba t n R) = .inr (p2, []) → (rwN W.1.length (paT ps) (rwW W.1)).2.2.2 = true → HB t n N B C (W.1 ++ [(nm, decide (hsg t n R = 21), paT ps, (rwN W.1.length (paT ps) (rwW W.1)).1, (rwN W.1.length (paT ps) (rwW W.1)).2.1, (rwN W.1.length (paT ps) (rwW W.1)).2.2.1)], W.2.1, W.2.2.1, W.2.2.2) τ → WK (W.1 ++ [(nm, decide (hsg t n R = 21), paT ps, (rwN W.1.length (paT ps) (rwW W.1)).1, (rwN W.1.length (paT ps) (rwW W.1)).2.1, (rwN W.1.length (paT ps) (rwW W.1)).2.2.1)]) τ → BdS t n N vs (.inr (p2, [])) τ → GfK σ τ → DcF C C σ τ → K (.inl none) τ) (kf : ∀ τ p2, htk t n 7 (hba t n R) = .inr (p2, []) → (rwN W.1.length (paT ps) (rwW W.1)).2.2.2 = false → HB t n N B C W τ → WK W.1 τ → BdS t n N vs (.inr (p2, [(sgP t n i, 5)])) τ → GfK σ τ → DcF C C σ τ → K (.inl none) τ) : C_X7_readKind_131 Z (d + 7) σ (Int32.ofNat i) K := by
  have l24 := hB.2.2.2.2.2.2.1.2.1
  have tb := hsg_b (t := t) (n := n) R
  -- behind bare
  have go : ∀ τ, HdF σ τ → BdS t n N vs (hba t n R) τ → C_X7_readKind_158 Z (d + 7) τ (Int32.ofNat i) (if decide (hsg t n R = 21) = true then 1 else 0) K := fun τ f b => by
    have hBt := hB.hd f
    refine T_X7_readKind_158 hBt.1 (h_take (y := 7) (by decide) hBt b (fun τ1 f1 b1 => ?_))
    have hB1 := hBt.hd f1
    have g1 : HdK σ τ1 := (f.tr f1).k
    have hW1 := hW.hk l24 g1
    refine h_clean hB1 b1 ⟨fun z => kn τ1 z hB1 hW1 b1 g1.gf (g1.dc C), fun z => ?_⟩
    obtain ⟨p2, e⟩ := clI_ne z
    obtain ⟨c1, c2, c3, c4, c5⟩ := hc p2 e
    rw [e] at b1
    have hP1 : PaS ps W.1.length τ1 := by
      rcases R with q | ⟨p, es⟩
      · cases e
      · exact ((hP p es rfl).hd f).hd f1
    obtain ⟨p1, p2', p3⟩ := id hP1
    rw [p1, show (0 : Int32) = Int32.ofNat 0 from rfl, oN_eq (by omega) (by decide)]
    refine ⟨fun y => ?_, fun y => ?_⟩
    · have ep : paT ps = ps := if_neg (fun q => y (by rw [q]; rfl))
      rw [ep] at ky kf
      exact rk_183 hi hB1 hW1 b1 hP1 c1 c2 c3 c4 c5 (fun τ2 a1 a2 a3 a4 a5 a6 => ky τ2 p2 e a1 a2 a3 a4 (g1.gf.tr a5) ((g1.dc C).tr a6)) (fun τ2 a1 a2 a3 a4 a5 a6 => kf τ2 p2 e a1 a2 a3 a4 (g1.gf.tr a5) ((g1.dc C).tr a6))
    · have e0 : ps = [] := List.length_eq_zero_iff.mp y
      have ep : paT ps = [0] := if_pos e0
      rw [ep] at ky kf
      subst e0
      refine cl_addPar (p := 0) hB1.1 hP1 (by decide) h0 (fun hP2 => ?_)
      have g2 : HdK τ1 ((τ1.wi 6 ([] : List Nat).length (Int32.ofNat 0)).wi 2 4 (Int32.ofNat (([] : List Nat).length + 1))) := (HdK.wi (Or.inr rfl)).tr (HdK.wi (Or.inl ⟨rfl, rfl⟩))
      have g3 := g1.tr g2
      exact rk_183 (ps := [0]) hi (hB1.hk g2) (hW1.hk l24 g2) ((b1.wi (by decide) (by decide)).wi (by decide) (by decide)) hP2 c1 c2 c3 c4 c5 (fun τ2 a1 a2 a3 a4 a5 a6 => ky τ2 p2 e a1 a2 a3 a4 (g3.gf.tr a5) ((g3.dc C).tr a6)) (fun τ2 a1 a2 a3 a4 a5 a6 => kf τ2 p2 e a1 a2 a3 a4 (g3.gf.tr a5) ((g3.dc C).tr a6))
  refine T_X7_readKind_131 hB.1 (h_sign hB h ?_)
  show (¬ Int32.ofNat (hsg t n R) = Int32.ofNat 21 → _) ∧ (Int32.ofNat (hsg t n R) = Int32.ofNat 21 → _)
  rw [oN_eq (by omega) (by decide)]
  refine ⟨fun z => T_X7_readKind_145 hB.1 ⟨fun _ => ?_, fun y => absurd rfl y⟩, fun z => T_X7_readKind_145 hB.1 ⟨fun y => absurd y (by decide), fun _ => h_take (y := 21) (by decide) hB h (fun τ1 f1 b1 => ?_)⟩⟩
  · rw [decide_eq_false z] at go
    refine go σ (HdF.refl _) ?_
    rcases R with q | ⟨p, es⟩
    · exact h
    · have z : ¬ tyS t n p = 21 := z
      have e : hba t n (.inr (p, es)) = .inr (p, es) := if_neg z
      rw [e]
      exact h
  · rw [decide_eq_true z] at go
    refine go τ1 f1 ?_
    rcases R with q | ⟨p, es⟩
    · exact b1
    · have z : tyS t n p = 21 := z
      have e : hba t n (.inr (p, es)) = .inr (nxS t n p, es) := if_pos z
      have e2 : htk t n 21 (.inr (p, es)) = .inr (nxS t n p, es) := if_pos z
      rw [e]
      rw [e2] at b1
      exact b1
end RK4

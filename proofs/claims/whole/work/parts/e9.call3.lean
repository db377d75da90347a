/-! THE CLASS: calls, the heap behind them -/
theorem wl2_l {ρ : Sg} {a b j c e : Nat} {x y : Int64} {v : Int32} (h : ¬ ((b = 29 ∨ b = 30) ∧ j = a)) : (((ρ.wl 29 a x).wl 30 a y).wi c e v).l b j = ρ.l b j := (wl_ne (σ := ρ.wl 29 a x) (by omega)).trans (wl_ne (by omega))
theorem ca_i {ρ : Sg} {L L' a j : Nat} {x y z v : Int32} {u w : Int64} (h : ¬ ((a = 31 ∨ a = 32 ∨ a = 33) ∧ j = L)) (h2 : ¬ (a = 28 ∧ j = 1)) : ((((((ρ.wi 31 L x).wi 32 L y).wi 33 L z).wl 29 L' u).wl 30 L' w).wi 28 1 v).i a j = ρ.i a j := (wi_ne (σ := ((((ρ.wi 31 L x).wi 32 L y).wi 33 L z).wl 29 L' u).wl 30 L' w) h2).trans ((wi_ne (σ := (ρ.wi 31 L x).wi 32 L y) (by omega)).trans ((wi_ne (by omega)).trans (wi_ne (by omega))))
theorem ca_32 {ρ : Sg} {L L' : Nat} {x y z v : Int32} {u w : Int64} : ((((((ρ.wi 31 L x).wi 32 L y).wi 33 L z).wl 29 L' u).wl 30 L' w).wi 28 1 v).i 32 L = y := (wi_ne (σ := ((((ρ.wi 31 L x).wi 32 L y).wi 33 L z).wl 29 L' u).wl 30 L' w) (by omega)).trans ((wi_ne (σ := (ρ.wi 31 L x).wi 32 L y) (a := 33) (k := L) (v := z) (by omega)).trans wi_eq)
theorem ca_33 {ρ : Sg} {L L' : Nat} {x y z v : Int32} {u w : Int64} : ((((((ρ.wi 31 L x).wi 32 L y).wi 33 L z).wl 29 L' u).wl 30 L' w).wi 28 1 v).i 33 L = z := (wi_ne (σ := ((((ρ.wi 31 L x).wi 32 L y).wi 33 L z).wl 29 L' u).wl 30 L' w) (by omega)).trans (wi_eq (σ := (ρ.wi 31 L x).wi 32 L y))
section CA3
variable {Z : zT} {d : Nat} {t : Nat → Int32} {n N : Nat} {B : Nat × Nat × Nat × Nat × Nat} {C : Nat × Nat × Nat × Nat} {W : Wld} {σ τ υ : Sg} {K : kS} {vs : List (List Int32)}
theorem ca_pure2 {env : Env} {len p j : Nat} {es : Evs} {b : Bool} (hy : tyS t n p = 22) (hj : ∀ q x, htk t n 4 (hnw t n env len 24 (htk t n 22 (.inr (p, es)))) = .inr (q, x) → sgP t n j = q) (hb : b = true ↔ cnB (hdS t n (sgP t n j))) : caR t n env len (if b = true then [(sgP t n j, 4)] else []) (.inr (p, es)) = match pCl t n env len (nxS t n p) with
    | .inl q => .inl q
    | .inr (p', es', _) => .inr (p', es ++ es') := by
  refine Eq.trans ?_ (ca_pure (env := env) (len := len) (es := es) (e := if (vaS t n (nxS t n (nxS t n (nxS t n p)))).toInt < 1 ∨ 3 < (vaS t n (nxS t n (nxS t n (nxS t n p)))).toInt then [(nxS t n (nxS t n (nxS t n p)), 4)] else []) hy (fun _ => rfl))
  unfold caR
  have e1 : htk t n 22 (.inr (p, es)) = .inr (nxS t n p, es) := if_pos hy
  rw [e1] at hj ⊢
  generalize nxS t n p = p1 at hj ⊢
  by_cases y1 : tyS t n p1 = 2
  · have e2 : hnw t n env len 24 (.inr (p1, es)) = .inr (nxS t n p1, es ++ nmE t n env p1 (len = 24)) := if_pos y1
    rw [e2] at hj ⊢
    generalize nxS t n p1 = p2 at hj ⊢
    by_cases y2 : tyS t n p2 = 4
    · have e3 : ∀ x, htk t n 4 (.inr (p2, x)) = .inr (nxS t n p2, x) := fun x => if_pos y2
      rw [e3] at hj ⊢
      generalize nxS t n p2 = p3 at hj ⊢
      have ej := hj p3 _ rfl
      by_cases y3 : tyS t n p3 = 3
      · rw [ej] at hb ⊢
        have hc := hb.trans (cn_va y3)
        by_cases z : b = true
        · rw [if_pos z, if_pos (hc.mp z)]
        · rw [if_neg z, if_neg (fun q => z (hc.mpr q))]
      · have e4 : ∀ x, htk t n 3 (.inr (p3, x)) = .inl p3 := fun x => if_neg y3
        rw [e4]
        rfl
    · have e3 : ∀ x, htk t n 4 (.inr (p2, x)) = .inl p2 := fun x => if_neg y2
      rw [e3]
      rfl
  · have e2 : hnw t n env len 24 (.inr (p1, es)) = .inl p1 := if_neg y1
    rw [e2]
    rfl
theorem hDe_22 {p : Nat} {es : Evs} (hy : tyS t n p = 22) : hDe t n W (.inr (p, es)) = match pCl t n (enW W.1 W.2.1 W.2.2.1 (-1)) W.2.1.length (nxS t n p) with
    | .inl q => .inl q
    | .inr (p', es', _) => .inr (p', es ++ es') := by
  unfold hDe hbd pDe
  dsimp only
  rw [if_neg (by omega), if_pos hy]
  cases pCl t n (enW W.1 W.2.1 W.2.2.1 (-1)) W.2.1.length (nxS t n p) with
  | inl q => rfl
  | inr x => rfl
theorem oN_sb {a b : Nat} (h : b ≤ a) : Int32.ofNat a - Int32.ofNat b = Int32.ofNat (a - b) := by
  have : a = (a - b) + b := by omega
  rw [this, Int32.ofNat_add, Nat.add_sub_cancel, Int32.add_sub_cancel]
theorem va_oN {p : Nat} (h : tyS t n p = 3) : vaS t n p = Int32.ofNat (vaS t n p).toInt.toNat := by
  have nn := (hd_va h).2.2
  have : ((vaS t n p).toInt.toNat : Int) = (vaS t n p).toInt := Int.toNat_of_nonneg nn
  rw [← Int32.toInt_inj]
  have lt := Int32.toInt_lt (vaS t n p)
  rw [oN_i (by omega), this]
/-- a call -/
theorem cl_callW {p : Nat} {es : Evs} (hy : tyS t n p = 22) (hB : HB t n N B C W σ) (hJ : WJ W.2.1 σ) (h : BdS t n N vs (.inr (p, es)) σ) (k : ∀ τ, HB t n N B C (nxW t n W (.inr (p, es))) τ → WJ (nxW t n W (.inr (p, es))).2.1 τ → BdS t n N vs (hDe t n W (.inr (p, es))) τ → ((∀ a k, ¬ (a = 40 ∧ 3 ≤ k ∧ k ≤ 6) → ¬ (a = 28 ∧ (k = 3 ∨ k = 1)) → a ≠ 31 → a ≠ 32 → a ≠ 33 → τ.i a k = σ.i a k) ∧ (∀ a k, a ≠ 29 → a ≠ 30 → τ.l a k = σ.l a k) ∧ τ.sh = σ.sh) → DcF C C σ τ → K (.inl none) τ) : C_X7_readCall_0 Z (d + 4) σ K := by
  have l24 := hB.2.2.2.2.2.2.2.1.2.1
  refine cl_ca0 (w := -1) hB h (fun τ1 i j b i1 j1 f1 hi hj hb b1 => ?_)
  have hB1 := hB.hd f1
  have ep := ca_pure2 (env := enW W.1 W.2.1 W.2.2.1 (-1)) (len := W.2.1.length) hy hj hb
  rw [← hDe_22 (W := W) hy] at ep
  unfold caR at ep
  refine cl_ca63 hB1 b1 (fun τ2 s2 f2 b2 w1 w0 => ?_)
  have hB2 := hB1.hd f2
  -- nothing wrong
  have clean : clI (hDe t n W (.inr (p, es))) ≠ 0 → ∃ p' o, es = [] ∧ hDe t n W (.inr (p, es)) = .inr (p', []) ∧ pCl t n (enW W.1 W.2.1 W.2.2.1 (-1)) W.2.1.length (nxS t n p) = .inr (p', [], o) := fun z => by
    obtain ⟨p', e⟩ := clI_ne z
    have e0 := e
    rw [hDe_22 hy] at e
    cases g : pCl t n (enW W.1 W.2.1 W.2.2.1 (-1)) W.2.1.length (nxS t n p) with
    | inl q =>
      rw [g] at e
      cases e
    | inr x =>
      obtain ⟨p2, es2, o⟩ := x
      rw [g] at e
      have e := Sum.inr.inj e
      have a1 : p2 = p' := congrArg Prod.fst e
      obtain ⟨a2, a3⟩ := List.append_eq_nil_iff.mp (congrArg Prod.snd e)
      subst a1 a3
      exact ⟨p2, o, a2, e0, rfl⟩
  refine cl_ca142 w1 w0 ⟨i1, j1⟩ hB2 b2 (fun z => ?_) (fun τ3 z f3 b3 => ?_) (fun τ3 z f3 b3 => ?_)
  · rw [ep] at z
    obtain ⟨p', o, -, -, g⟩ := clean z
    have := (cl_some g).2.2.2.2.2.2.2.1
    omega
  · rw [ep] at z b3
    have f := (f1.tr f2).tr f3
    refine k τ3 ?_ ?_ b3 ⟨fun a j q1 q2 _ _ _ => f.2.2.1 a j q1 (fun z => q2 ⟨z.1, Or.inl z.2⟩), fun a j q1 q2 => f.2.2.2 a j (by omega), f.1⟩ (f.dc C)
    · rw [nxW_0 z]
      exact hB2.hd f3
    · rw [nxW_0 z]
      exact hJ.keep (fun k _ => ⟨f.2.2.1 32 k (by omega) (by omega), f.2.2.1 33 k (by omega) (by omega)⟩)
  · rw [ep] at z b3
    obtain ⟨p', o, e0, eR, g⟩ := clean z
    subst e0
    obtain ⟨y1, y2, y3, y4, y5, y6, z1, z2, z3, z4⟩ := cl_some g
    have f := (f1.tr f2).tr f3
    have hi' := hi (nxS t n p) [] (if_pos hy)
    have e1 : htk t n 22 (.inr (p, [])) = .inr (nxS t n p, []) := if_pos hy
    have e2 : ∀ x, hnw t n (enW W.1 W.2.1 W.2.2.1 (-1)) W.2.1.length 24 (.inr (nxS t n p, x)) = .inr (nxS t n (nxS t n p), x ++ nmE t n (enW W.1 W.2.1 W.2.2.1 (-1)) (nxS t n p) (W.2.1.length = 24)) := fun x => if_pos y1
    have e3 : ∀ x, htk t n 4 (.inr (nxS t n (nxS t n p), x)) = .inr (nxS t n (nxS t n (nxS t n p)), x) := fun x => if_pos y2
    have e4 : ∀ x, htk t n 3 (.inr (nxS t n (nxS t n (nxS t n p)), x)) = .inr (nxS t n (nxS t n (nxS t n (nxS t n p))), x) := fun x => if_pos y3
    have e5 : ∀ y q x, hev y (.inr (q, x)) = .inr (q, x ++ y) := fun y q x => rfl
    have e6 : ∀ x, htk t n 5 (.inr (nxS t n (nxS t n (nxS t n (nxS t n p))), x)) = .inr (nxS t n (nxS t n (nxS t n (nxS t n (nxS t n p)))), x) := fun x => if_pos y4
    have e7 : ∀ x, hrg t n 34 38 (.inr (nxS t n (nxS t n (nxS t n (nxS t n (nxS t n p)))), x)) = .inr (nxS t n (nxS t n (nxS t n (nxS t n (nxS t n (nxS t n p))))), x) := fun x => if_pos y5
    have hj' := hj (nxS t n (nxS t n (nxS t n p))) _ (by rw [e1, e2, e3])
    have x1 : hdS t n (sgP t n i) = nmH (nmS t n (nxS t n p)) := by
      unfold hdS
      rw [hi', if_pos (Or.inl y1)]
    have x2 : tlS t n (sgP t n i) = nmT (nmS t n (nxS t n p)) := by
      unfold tlS
      rw [hi', if_pos (Or.inl y1)]
    have x3 : Int64.toInt32 (hdS t n (sgP t n j)) = Int32.ofNat (vaS t n (nxS t n (nxS t n (nxS t n p)))).toInt.toNat := by
      rw [hj', (hd_va y3).2.1]
      exact va_oN y3
    have sg : ∀ q x, hsg t n (.inr (q, x)) = tyS t n q := fun q x => rfl
    rw [x1, x2, x3, e1, e2, e3, e4, e5, e6, e7, sg, sg, show (34 : Int32) = Int32.ofNat 34 from rfl, show (39 : Int32) = Int32.ofNat 39 from rfl, oN_sb (by omega), oN_sb (by omega)]
    have ew : nxW t n W (.inr (p, [])) = (W.1, W.2.1 ++ [(nmS t n (nxS t n p), (vaS t n (nxS t n (nxS t n (nxS t n p)))).toInt.toNat, tyS t n (nxS t n (nxS t n (nxS t n (nxS t n (nxS t n p))))) - 34, tyS t n (nxS t n (nxS t n (nxS t n (nxS t n (nxS t n (nxS t n p)))))) - 39)], W.2.2.1, W.2.2.2) := by
      refine nxW_some (p' := p') ?_
      unfold pDe
      rw [if_neg (by omega), if_pos hy, g, z4]
      rfl
    rw [eR, ew] at k
    rw [eR] at b3
    have hB3 := hB2.hd f3
    refine k _ (hB3.ca (by omega) (toE_no z1).2.1 (nm_ok y1) (by omega)) (fun q x hq => ?_) ?_ ⟨fun a q q1 q2 q3 q4 q5 => ?_, fun a q q1 q2 => (wl2_l (by omega)).trans (f.2.2.2 a q (by omega)), f.1⟩ ((((((f.dc C).wi (Or.inl (by omega))).wi (Or.inl (by omega))).wi (Or.inl (by omega))).wl (by omega)).wl (by omega) |>.wi (Or.inl (by omega)))
    · have hq : (W.2.1 ++ [(nmS t n (nxS t n p), (vaS t n (nxS t n (nxS t n (nxS t n p)))).toInt.toNat, tyS t n (nxS t n (nxS t n (nxS t n (nxS t n (nxS t n p))))) - 34, tyS t n (nxS t n (nxS t n (nxS t n (nxS t n (nxS t n (nxS t n p)))))) - 39)])[q]? = some x := hq
      by_cases y : q < W.2.1.length
      · rw [List.getElem?_append_left y] at hq
        exact ⟨(ca_i (by omega) (by omega)).trans ((f.2.2.1 32 q (by omega) (by omega)).trans (hJ q x hq).1), (ca_i (by omega) (by omega)).trans ((f.2.2.1 33 q (by omega) (by omega)).trans (hJ q x hq).2)⟩
      · have hk := (List.getElem?_eq_some_iff.mp hq).1
        rw [List.length_append, List.length_singleton] at hk
        have e : q = W.2.1.length := by omega
        subst e
        rw [List.getElem?_append_right (Nat.le_refl _), Nat.sub_self] at hq
        have e := Option.some.inj hq
        subst e
        exact ⟨ca_32, ca_33⟩
    · obtain ⟨⟨⟨i, i1, i2, i3⟩, b2⟩, ⟨b4, b5, b6⟩, ru, hev⟩ := b3
      refine ⟨⟨⟨i, i1, (ca_i (by omega) (by omega)).trans i2, i3⟩, (ca_i (by omega) (by omega)).trans b2⟩, ⟨(ca_i (by omega) (by omega)).trans b4, b5, b6.keep (fun j hj => ⟨?_, ?_⟩)⟩, ?_, hev⟩
      · exact wl2_l (by omega)
      · exact wl2_l (by omega)
      · unfold RuC at ru ⊢
        rw [ca_i (by omega) (by omega), ca_i (by omega) (by omega)]
        exact ru
    · exact (ca_i (by omega) (fun z => q2 ⟨z.1, Or.inr z.2⟩)).trans (f.2.2.1 a q q1 (fun z => q2 ⟨z.1, Or.inl z.2⟩))
end CA3

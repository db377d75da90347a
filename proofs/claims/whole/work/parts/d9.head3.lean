/-! THE CLASS: reading outside of bodies; numbers, variables -/
section HST3
variable {Z : zT} {d : Nat} {t : Nat → Int32} {n N : Nat} {B : Nat × Nat × Nat × Nat × Nat} {C : Nat × Nat × Nat × Nat} {W : Wld} {σ τ υ : Sg} {K : kS} {vs : List (List Int32)} {R : HR}
theorem h_number (hB : HB t n N B C W σ) (h : BdS t n N vs R σ) (k : ∀ τ (v : Int32), (∀ p es, R = .inr (p, es) → ∀ x p1, pSg t n p = .inr (x, p1) → v = Int32.ofInt x) → HdF σ τ → BdS t n N vs (hnu t n R) τ → K (.inl (some (.int v))) τ) : C_X7_takeNumber_0 Z (d + 2) σ K := by
  have rest : ∀ (R' : HR) (τ : Sg) (g : Int32), HdF σ τ → BdS t n N vs R' τ → (∀ υ (v : Int32), (∀ p es, R' = .inr (p, es) → tyS t n p = 3 → v = vaS t n p) → HdF σ υ → BdS t n N vs (htk t n 3 R') υ → (g = 0 → K (.inl (some (.int v))) υ) ∧ (¬ g = 0 → K (.inl (some (.int (-v)))) υ)) → C_X7_takeNumber_25 Z (d + 2) τ g K := fun R' τ g fr hτ kk => by
    have hB1 := hB.hd fr
    obtain ⟨i, i1, i2, i3, i4⟩ := hτ.pos hB1
    have hB1' := hB1
    obtain ⟨fx, sa, ss, ⟨nn, hN1⟩, -⟩ := hB1'
    have hc := sa.2.2.2.2.2.2.2.2.2
    refine T_X7_takeNumber_25 fx ⟨_, sa.2.2.1.1, _, sa.2.2.1.2, ?_⟩
    rw [i2, oN_t (by omega), (ss.2.1 i i1).2.2.1]
    refine ⟨ib_oN (by omega) (by omega), h_take (y := 3) (by decide) hB1 hτ (fun υ fυ hυ => kk υ _ (fun p es r z => ?_) (fr.tr fυ) hυ)⟩
    rw [i4 p es r]
    unfold hdS vaS
    rw [if_neg (by omega), if_pos z, if_pos (dig_3 z)]
  refine T_X7_takeNumber_0 hB.1 (h_sign hB h ⟨fun z => ?_, fun z => ?_⟩)
  · have z : ¬ hsg t n R = 10 := fun y => z (by rw [y]; rfl)
    refine T_X7_takeNumber_14 hB.1 ⟨fun _ => rest R σ 0 (HdF.refl _) h (fun υ v hv fυ hυ => ⟨fun _ => ?_, fun y => absurd rfl y⟩), fun y => absurd rfl y⟩
    rcases R with q | ⟨p, es⟩
    · exact k υ v (fun p es r => by cases r) fυ hυ
    · have z : ¬ tyS t n p = 10 := z
      have ep : pSg t n p = if tyS t n p = 3 then .inr ((vaS t n p).toInt, nxS t n p) else .inl p := by
        unfold pSg
        rw [if_neg z]
      refine k υ v (fun p' es' r x p1 e => ?_) fυ ?_
      · cases r
        rw [ep] at e
        by_cases y : tyS t n p = 3
        · rw [if_pos y] at e
          have e := Prod.mk.inj (Sum.inr.inj e)
          rw [hv p es rfl y, ← e.1, Int32.ofInt_toInt]
        · rw [if_neg y] at e
          cases e
      · have en : hnu t n (.inr (p, es)) = htk t n 3 (.inr (p, es)) := by
          unfold hnu htk hbd
          dsimp only
          rw [ep]
          by_cases y : tyS t n p = 3
          · rw [if_pos y, if_pos y]
          · rw [if_neg y, if_neg y]
        rw [en]
        exact hυ
  · have z : hsg t n R = 10 := by
      have tb : hsg t n R ≤ 52 := by
        rcases R with q | ⟨p, es⟩
        · exact Nat.zero_le _
        · exact ty_b
      exact (oN_eq (b := 10) (by omega) (by decide)).mp z
    refine T_X7_takeNumber_14 hB.1 ⟨fun y => absurd y (by decide), fun _ => h_take (y := 10) (by decide) hB h (fun υ fυ hυ => rest _ υ 1 fυ hυ (fun υ v hv fυ hυ => ⟨fun y => absurd y (by decide), fun _ => ?_⟩))⟩
    rcases R with q | ⟨p, es⟩
    · have z : 0 = 10 := z
      omega
    · have z : tyS t n p = 10 := z
      have et : htk t n 10 (.inr (p, es)) = .inr (nxS t n p, es) := by
        unfold htk hbd
        exact if_pos z
      rw [et] at hυ hv
      have ep : pSg t n p = if tyS t n (nxS t n p) = 3 then .inr (-(vaS t n (nxS t n p)).toInt, nxS t n (nxS t n p)) else .inl (nxS t n p) := by
        unfold pSg
        rw [if_pos z]
      refine k υ (-v) (fun p' es' r x p1 e => ?_) fυ ?_
      · cases r
        rw [ep] at e
        by_cases y : tyS t n (nxS t n p) = 3
        · rw [if_pos y] at e
          have e := Prod.mk.inj (Sum.inr.inj e)
          rw [hv _ _ rfl y, ← e.1, Int32.ofInt_neg, Int32.ofInt_toInt]
        · rw [if_neg y] at e
          cases e
      · have en : hnu t n (.inr (p, es)) = htk t n 3 (.inr (nxS t n p, es)) := by
          unfold hnu htk hbd
          dsimp only
          rw [ep]
          by_cases y : tyS t n (nxS t n p) = 3
          · rw [if_pos y, if_pos y]
          · rw [if_neg y, if_neg y]
        rw [en]
        exact hυ
theorem h_addV {nm : List Int32} {a b : Int64} (hB : HB t n N B C W σ) (h : BdS t n N vs R σ) (hv : vs.length < 16) (hab : ∀ p es, R = .inr (p, es) → a = nmH nm ∧ b = nmT nm ∧ (nm.length ≤ 16 ∧ ∀ c ∈ nm, nmC c)) (k : ∀ τ, HdF σ τ → BdS t n N (vs ++ [nm]) R τ → K (.inl none) τ) : C_X11_addName_0 Z (d + 2) σ 3 a b K := by
  have e3 : σ.i 28 3 = Int32.ofNat vs.length := by
    rcases R with q | ⟨p, es⟩
    · exact h.2.1
    · exact h.2.1.1
  refine T_X11_addName_0 hB.1 (T_X11_isFull_0 hB.1 ⟨ib_oN (k := 3) (by decide) (by decide), _, xJ_1.2.2.2, ?_⟩)
  rw [show (3 : Int32).toNatClampNeg = 3 from rfl, e3, oN_lt (by omega) (by decide)]
  refine ⟨fun _ => ⟨fun z => absurd rfl z, fun _ => ⟨_, xJ_0.2.2.2, ?_⟩⟩, fun z => absurd hv z⟩
  rw [e3, ← Int32.ofNat_add, oN_t (by omega), oN_1]
  refine ⟨ib_oN (k := 3) (by decide) (by decide), ib_oN (by omega) (by omega), ib_oN (by omega) (by omega), ib_oN (k := 3) (by decide) (by decide), ib_oN (k := 3) (by decide) (by decide), k _ ?_ ?_⟩
  · exact ⟨rfl, rfl, fun x y q1 q2 => wi_ne (by omega), fun x y q => (wl_ne (by omega)).trans (wl_ne (by omega))⟩
  · have el : (vs ++ [nm]).length = vs.length + 1 := List.length_append
    have wn : ∀ x y, ¬ (x = 28 ∧ y = 3) → (((σ.wl 29 (56 + vs.length) a).wl 30 (56 + vs.length) b).wi 28 3 (Int32.ofNat (vs.length + 1))).i x y = σ.i x y := fun x y q => wi_ne (by omega)
    have n3 : (((σ.wl 29 (56 + vs.length) a).wl 30 (56 + vs.length) b).wi 28 3 (Int32.ofNat (vs.length + 1))).i 28 3 = Int32.ofNat (vs ++ [nm]).length := by
      rw [el]
      exact wi_eq
    rcases R with q | ⟨p, es⟩
    · obtain ⟨⟨h3, h4, h5⟩, h6, h7⟩ := h
      exact ⟨⟨(wn 40 3 (by decide)).trans h3, (wn 40 4 (by decide)).trans h4, h5⟩, n3, by omega⟩
    · obtain ⟨ha, hb, hn⟩ := hab p es rfl
      obtain ⟨⟨⟨i, i1, i2, i3⟩, h4⟩, ⟨v1, v2, v3⟩, ru, hev⟩ := h
      refine ⟨⟨⟨i, i1, (wn 40 3 (by decide)).trans i2, i3⟩, (wn 40 4 (by decide)).trans h4⟩, ⟨n3, by omega, fun j nm' hj hne => ?_⟩, ?_, hev⟩
      · by_cases z : j < vs.length
        · rw [List.getElem?_append_left z] at hj
          obtain ⟨q1, q2, q3⟩ := v3 j nm' hj hne
          refine ⟨Eq.trans ?_ q1, Eq.trans ?_ q2, q3⟩
          · exact (wl_ne (by omega)).trans (wl_ne (by omega))
          · exact (wl_ne (by omega)).trans (wl_ne (by omega))
        · have hl := (List.getElem?_eq_some_iff.mp hj).1
          have ej : j = vs.length := by omega
          rw [ej, List.getElem?_append_right (Nat.le_refl _), Nat.sub_self] at hj
          have hj : nm = nm' := Option.some.inj hj
          rw [ej, ← hj]
          refine ⟨Eq.trans ?_ ha, Eq.trans ?_ hb, hn⟩
          · exact (wl_ne (by omega)).trans wl_eq
          · exact wl_eq
      · unfold RuC at ru ⊢
        rw [wn 40 5 (by decide), wn 40 6 (by decide)]
        exact ru
end HST3

/-! THE CLASS: a kind read, its parents -/
section RK
variable {Z : zT} {d : Nat} {t : Nat → Int32} {n N : Nat} {B : Nat × Nat × Nat × Nat × Nat} {C : Nat × Nat × Nat × Nat} {W : Wld} {σ τ υ : Sg} {K : kS} {vs : List (List Int32)} {R : HR}
/-- small steps, and parents gathered -/
def HdK (σ τ : Sg) : Prop := τ.sh = σ.sh ∧ τ.r = σ.r ∧ (∀ a k, ¬ (a = 40 ∧ 3 ≤ k ∧ k ≤ 6) → ¬ (a = 28 ∧ k = 3) → ¬ (a = 2 ∧ k = 4) → a ≠ 6 → τ.i a k = σ.i a k) ∧ ∀ a k, ¬ ((a = 29 ∨ a = 30) ∧ 56 ≤ k) → τ.l a k = σ.l a k
theorem HdK.refl (σ : Sg) : HdK σ σ := ⟨rfl, rfl, fun _ _ _ _ _ _ => rfl, fun _ _ _ => rfl⟩
theorem HdF.k (h : HdF σ τ) : HdK σ τ := ⟨h.1, h.2.1, fun a j q1 q2 _ _ => h.2.2.1 a j q1 q2, h.2.2.2⟩
theorem HdK.tr (h : HdK σ τ) (g : HdK τ υ) : HdK σ υ := ⟨g.1.trans h.1, g.2.1.trans h.2.1, fun a k q1 q2 q3 q4 => (g.2.2.1 a k q1 q2 q3 q4).trans (h.2.2.1 a k q1 q2 q3 q4), fun a k q => (g.2.2.2 a k q).trans (h.2.2.2 a k q)⟩
theorem HdK.wi {a k : Nat} {v : Int32} (h : (a = 2 ∧ k = 4) ∨ a = 6) : HdK σ (σ.wi a k v) := ⟨rfl, rfl, fun b j _ _ q3 q4 => wi_ne (by omega), fun _ _ _ => rfl⟩
theorem HdK.dc (C : Nat × Nat × Nat × Nat) (h : HdK σ τ) : DcF C C σ τ := ⟨⟨[], by rw [h.1, List.append_nil]⟩, fun a _ _ => by rw [h.2.1], fun a _ q _ _ _ => funext fun k => h.2.2.1 a k (fun z => q (Or.inr (by omega))) (fun z => q (Or.inl (by omega))) (fun z => q (Or.inl (by omega))) (fun z => q (Or.inl (by omega))), fun a _ _ _ q1 q2 _ => funext fun k => h.2.2.2 a k (fun z => by omega), Or.inl rfl, Or.inl rfl, Or.inl rfl⟩
theorem HB.hk (h : HB t n N B C W σ) (g : HdK σ τ) : HB t n N B C W τ := by
  obtain ⟨f, sa, ss, hn, ca, ne, ⟨k1, k2, k3, k4, k5⟩, ⟨q1, q2, q3, q4, q5⟩, ⟨l1, l2, l3, l4⟩⟩ := h
  have sa' := sa
  obtain ⟨-, -, -, -, ⟨n1, n2⟩, e0, e1, e2, e3, hc⟩ := sa
  have gi := g.2.2.1
  have gl := g.2.2.2
  refine ⟨by rw [g.1, g.2.1]; exact f, by unfold SgA; rw [g.1, g.2.1]; exact sa', ss.keep (gi 41 4 (by decide) (by decide) (by decide) (by decide)) (funext fun k => gi _ k (by omega) (by omega) (by omega) (by omega)) (funext fun k => gi _ k (by omega) (by omega) (by omega) (by omega)) (funext fun k => gl _ k (by omega)) (funext fun k => gl _ k (by omega)), hn, by unfold CoA; rw [g.1, g.2.1]; exact ca, ne, ⟨(gi 28 0 (by decide) (by decide) (by decide) (by decide)).trans k1, k2, k3.keep (fun k hk => ?_), k4, fun k x hx => (gi 3 k (by omega) (by omega) (by omega) (by omega)).trans (k5 k x hx)⟩, ⟨(gi 28 1 (by decide) (by decide) (by decide) (by decide)).trans q1, q2, q3.keep (fun k hk => ?_), q4, fun k x hx => ⟨(gi 31 k (by omega) (by omega) (by omega) (by omega)).trans (q5 k x hx).1, (q5 k x hx).2⟩⟩, ⟨(gi 28 2 (by decide) (by decide) (by decide) (by decide)).trans l1, l2, l3.keep (fun k hk => ?_), l4⟩⟩
  · rw [List.length_map] at hk
    exact ⟨gl 29 _ (by omega), gl 30 _ (by omega)⟩
  · rw [List.length_map] at hk
    exact ⟨gl 29 _ (by omega), gl 30 _ (by omega)⟩
  · exact ⟨gl 29 _ (by omega), gl 30 _ (by omega)⟩
theorem BdS.wi {a k : Nat} {v : Int32} (h : BdS t n N vs R σ) (h1 : a ≠ 40) (h2 : a ≠ 28) : BdS t n N vs R (σ.wi a k v) := by
  have e : ∀ j, (σ.wi a k v).i 40 j = σ.i 40 j := fun j => wi_ne (by omega)
  have e2 : (σ.wi a k v).i 28 3 = σ.i 28 3 := wi_ne (by omega)
  rcases R with q | ⟨p, es⟩
  · obtain ⟨⟨b1, b2, b3⟩, b4, b5⟩ := h
    exact ⟨⟨(e 3).trans b1, (e 4).trans b2, b3⟩, e2.trans b4, b5⟩
  · obtain ⟨⟨⟨i, i1, i2, i3⟩, b2⟩, ⟨b4, b5, b6⟩, ru, hev⟩ := h
    refine ⟨⟨⟨i, i1, (e 3).trans i2, i3⟩, (e 4).trans b2⟩, ⟨e2.trans b4, b5, b6⟩, ?_, hev⟩
    unfold RuC at ru ⊢
    rw [e 5, e 6]
    exact ru
theorem PaS.hd {ps : List Nat} {k : Nat} (h : PaS ps k σ) (g : HdF σ τ) : PaS ps k τ := ⟨(g.2.2.1 2 4 (by omega) (by omega)).trans h.1, h.2.1, fun i p hp => ⟨(g.2.2.1 6 i (by omega) (by omega)).trans (h.2.2 i p hp).1, (h.2.2 i p hp).2⟩⟩
/-- is it a parent already -/
theorem cl_isPar {ps : List Nat} {k : Nat} {v : Int32} (F : FX ΦC σ.sh σ.r) (hP : PaS ps k σ) (h1 : (∃ p ∈ ps, v = Int32.ofNat p) → K (.inl (some (.int 1))) σ) (h0 : (¬ ∃ p ∈ ps, v = Int32.ofNat p) → K (.inl (some (.int 0))) σ) : C_X2_isParent_0 Z (d + 1) σ v K := by
  obtain ⟨p1, p2, p3⟩ := hP
  have go : ∀ m j, ps.length - j = m → j ≤ ps.length → (∀ j' p, j' < j → ps[j']? = some p → v ≠ Int32.ofNat p) → C_X2_isParent_2 Z (d + 1) σ v (Int32.ofNat j) K := by
    intro m
    induction m with
    | zero =>
      intro j hm hj hno
      refine T_X2_isParent_2 F ?_
      rw [p1, oN_le (by omega) (by omega)]
      refine ⟨fun _ => h0 (fun ⟨p, h1, h2⟩ => ?_), fun z => absurd (by omega) z⟩
      obtain ⟨i, hi⟩ := List.mem_iff_getElem?.mp h1
      exact hno i p (by have := (List.getElem?_eq_some_iff.mp hi).1; omega) hi h2
    | succ m ih =>
      intro j hm hj hno
      obtain ⟨p, hp⟩ : ∃ p, ps[j]? = some p := ⟨_, List.getElem?_eq_getElem (by omega)⟩
      refine T_X2_isParent_2 F ?_
      rw [p1, oN_le (by omega) (by omega), oN_t (by omega), (p3 j p hp).1]
      refine ⟨fun z => absurd z (by omega), fun _ => ⟨ib_oN (by omega) (by omega), fun z => ?_, fun z => h1 ⟨p, List.mem_of_getElem? hp, z.symm⟩⟩⟩
      rw [oN_1]
      refine ih (j + 1) (by omega) (by omega) (fun j' p' q1 q2 q3 => ?_)
      by_cases e : j' = j
      · subst e
        have : p = p' := Option.some.inj (hp.symm.trans q2)
        subst this
        exact z q3.symm
      · exact hno j' p' (by omega) q2 q3
  exact T_X2_isParent_0 F (go _ 0 rfl (Nat.zero_le _) (fun j' p q => by omega))
theorem cl_addPar {ps : List Nat} {k : Nat} {p : Nat} (F : FX ΦC σ.sh σ.r) (hP : PaS ps k σ) (hl : ps.length < 24) (hp : p < k) (h1 : PaS (ps ++ [p]) k ((σ.wi 6 ps.length (Int32.ofNat p)).wi 2 4 (Int32.ofNat (ps.length + 1))) → K (.inl none) ((σ.wi 6 ps.length (Int32.ofNat p)).wi 2 4 (Int32.ofNat (ps.length + 1)))) : C_X2_addParent_0 Z (d + 1) σ (Int32.ofNat p) K := by
  obtain ⟨p1, p2, p3⟩ := hP
  refine T_X2_addParent_0 F ?_
  rw [p1, show (24 : Int32) = Int32.ofNat 24 from rfl, oN_le (by decide) (by omega), oN_t (by omega), oN_1]
  refine ⟨fun z => absurd z (by omega), fun _ => ⟨ib_oN (by omega) (by omega), h1 ⟨?_, ?_, fun i q hq => ?_⟩⟩⟩
  · rw [wi_eq, List.length_append]
    rfl
  · rw [List.length_append, List.length_singleton]
    omega
  · by_cases y : i < ps.length
    · rw [List.getElem?_append_left y] at hq
      exact ⟨(wi_ne (by omega)).trans ((wi_ne (by omega)).trans (p3 i q hq).1), (p3 i q hq).2⟩
    · have hk := (List.getElem?_eq_some_iff.mp hq).1
      rw [List.length_append, List.length_singleton] at hk
      have e : i = ps.length := by omega
      subst e
      rw [List.getElem?_append_right (Nat.le_refl _), Nat.sub_self] at hq
      have e : p = q := Option.some.inj hq
      subst e
      exact ⟨(wi_ne (by omega)).trans wi_eq, hp⟩
theorem cl_addParX {ps : List Nat} {k : Nat} {v : Int32} (F : FX ΦC σ.sh σ.r) (hP : PaS ps k σ) (h1 : ∀ τ, HdK σ τ → (∀ vs R, BdS t n N vs R σ → BdS t n N vs R τ) → K (.inl none) τ) : C_X2_addParent_0 Z (d + 1) σ v K := by
  obtain ⟨p1, p2, p3⟩ := hP
  refine T_X2_addParent_0 F ⟨fun _ => h1 σ (HdK.refl _) (fun _ _ h => h), fun z => ⟨?_, h1 _ ((HdK.wi (Or.inr rfl)).tr (HdK.wi (Or.inl ⟨rfl, rfl⟩))) (fun vs R h => (h.wi (by decide) (by decide)).wi (by decide) (by decide))⟩⟩
  rw [p1]
  rw [p1, show (24 : Int32) = Int32.ofNat 24 from rfl, oN_le (by decide) (by omega)] at z
  exact ib_oN (by omega) (by omega)
theorem sg_idx {i i' : Nat} (h : sgP t n i < sgP t n i') : i < i' := by
  refine Nat.lt_of_not_le fun q => ?_
  have := sgP_mono t n q
  omega
end RK

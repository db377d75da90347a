/-! THE CLASS: reading outside of bodies; the state, small steps -/
section HD
variable (t : Nat → Int32) (n N : Nat) (B : Nat × Nat × Nat × Nat × Nat) (C : Nat × Nat × Nat × Nat) (W : Wld)
/-- the reader's surroundings, but for the own call -/
def HB (σ : Sg) : Prop := FX ΦC σ.sh σ.r ∧ SgA σ B.1 B.2.1 B.2.2.1 B.2.2.2.1 B.2.2.2.2 ∧ SgS t n N σ B.2.1 B.2.2.1 B.2.2.2.1 B.2.2.2.2 ∧ (n ≤ 8192 ∧ N + 1 ≤ B.1) ∧ CoA σ C.1 C.2.1 C.2.2.1 C.2.2.2 ∧ (B.2.1 ≠ C.2.1 ∧ B.2.1 ≠ C.2.2.1 ∧ B.2.1 ≠ C.2.2.2 ∧ B.2.2.1 ≠ C.2.1 ∧ B.2.2.1 ≠ C.2.2.1 ∧ B.2.2.1 ≠ C.2.2.2) ∧
  (σ.i 28 0 = Int32.ofNat W.1.length ∧ W.1.length ≤ 24 ∧ NmS (W.1.map (·.1)) 0 σ ∧ (W.1.map (·.1)).Nodup ∧ ∀ (k : Nat) x, W.1[k]? = some x → σ.i 3 k = if x.2.1 = true then 1 else 0) ∧
  (σ.i 28 1 = Int32.ofNat W.2.1.length ∧ W.2.1.length ≤ 24 ∧ NmS (W.2.1.map (·.1)) 24 σ ∧ (W.2.1.map (·.1)).Nodup ∧ ∀ (k : Nat) x, W.2.1[k]? = some x → σ.i 31 k = Int32.ofNat x.2.1 ∧ (1 ≤ x.2.1 ∧ x.2.1 ≤ 3)) ∧
  (σ.i 28 2 = Int32.ofNat W.2.2.1.length ∧ W.2.2.1.length ≤ 8 ∧ NmS W.2.2.1 48 σ ∧ W.2.2.1.Nodup)
theorem HB.cb {w : Int} {σ : Sg} (h : HB t n N B C W σ) (o : σ.i 40 7 = (if w = -1 then 0 else 1) ∧ σ.i 40 8 = Int32.ofInt (if w < 0 then -1 else w) ∧ (-2 ≤ w ∧ w < W.2.1.length)) : CB0 t n N B C W w σ := ⟨h.1, h.2.1, h.2.2.1, h.2.2.2.1, h.2.2.2.2.1, h.2.2.2.2.2.1, h.2.2.2.2.2.2.1, h.2.2.2.2.2.2.2.1, h.2.2.2.2.2.2.2.2, o⟩
end HD
/-- what small steps write outside of bodies -/
def HdF (σ τ : Sg) : Prop := τ.sh = σ.sh ∧ τ.r = σ.r ∧ (∀ a k, ¬ (a = 40 ∧ 3 ≤ k ∧ k ≤ 6) → ¬ (a = 28 ∧ k = 3) → τ.i a k = σ.i a k) ∧ ∀ a k, ¬ ((a = 29 ∨ a = 30) ∧ 56 ≤ k) → τ.l a k = σ.l a k
abbrev HR : Type := Nat ⊕ (Nat × Evs)
def hbd (R : HR) (f : Nat → Evs → HR) : HR := match R with
  | .inl q => .inl q
  | .inr (p, es) => f p es
section HOPS
variable (t : Nat → Int32) (n : Nat)
def htk (y : Nat) (R : HR) : HR := hbd R fun p es => if tyS t n p = y then .inr (nxS t n p, es) else .inl p
def hnv (R : HR) : HR := hbd R fun p _ => .inl p
def hev (e : Evs) (R : HR) : HR := hbd R fun p es => .inr (p, es ++ e)
def hsg : HR → Nat
  | .inl _ => 0
  | .inr (p, _) => tyS t n p
end HOPS
section HST
variable {Z : zT} {d : Nat} {t : Nat → Int32} {n N : Nat} {B : Nat × Nat × Nat × Nat × Nat} {C : Nat × Nat × Nat × Nat} {W : Wld} {σ τ υ : Sg} {K : kS} {vs : List (List Int32)} {R : HR}
theorem HdF.refl (σ : Sg) : HdF σ σ := ⟨rfl, rfl, fun _ _ _ _ => rfl, fun _ _ _ => rfl⟩
theorem HdF.tr (h : HdF σ τ) (g : HdF τ υ) : HdF σ υ := ⟨g.1.trans h.1, g.2.1.trans h.2.1, fun a k q1 q2 => (g.2.2.1 a k q1 q2).trans (h.2.2.1 a k q1 q2), fun a k q => (g.2.2.2 a k q).trans (h.2.2.2 a k q)⟩
theorem HdF.w4 {k : Nat} {v : Int32} (hk : 3 ≤ k ∧ k ≤ 6) : HdF σ (σ.wi 40 k v) := ⟨rfl, rfl, fun a j q1 _ => wi_ne (by omega), fun _ _ _ => rfl⟩
theorem HB.hd (h : HB t n N B C W σ) (g : HdF σ τ) : HB t n N B C W τ := by
  obtain ⟨f, sa, ss, hn, ca, ne, ⟨k1, k2, k3, k4, k5⟩, ⟨q1, q2, q3, q4, q5⟩, ⟨l1, l2, l3, l4⟩⟩ := h
  have sa' := sa
  obtain ⟨-, -, -, -, ⟨n1, n2⟩, e0, e1, e2, e3, hc⟩ := sa
  have gi := g.2.2.1
  have gl := g.2.2.2
  refine ⟨by rw [g.1, g.2.1]; exact f, by unfold SgA; rw [g.1, g.2.1]; exact sa', ss.keep (gi 41 4 (by decide) (by decide)) (funext fun k => gi _ k (by omega) (by omega)) (funext fun k => gi _ k (by omega) (by omega)) (funext fun k => gl _ k (by omega)) (funext fun k => gl _ k (by omega)), hn, by unfold CoA; rw [g.1, g.2.1]; exact ca, ne, ⟨(gi 28 0 (by decide) (by decide)).trans k1, k2, k3.keep (fun k hk => ?_), k4, fun k x hx => (gi 3 k (by omega) (by omega)).trans (k5 k x hx)⟩, ⟨(gi 28 1 (by decide) (by decide)).trans q1, q2, q3.keep (fun k hk => ?_), q4, fun k x hx => ⟨(gi 31 k (by omega) (by omega)).trans (q5 k x hx).1, (q5 k x hx).2⟩⟩, ⟨(gi 28 2 (by decide) (by decide)).trans l1, l2, l3.keep (fun k hk => ?_), l4⟩⟩
  · rw [List.length_map] at hk
    exact ⟨gl 29 _ (by omega), gl 30 _ (by omega)⟩
  · rw [List.length_map] at hk
    exact ⟨gl 29 _ (by omega), gl 30 _ (by omega)⟩
  · exact ⟨gl 29 _ (by omega), gl 30 _ (by omega)⟩
theorem BdS.pos (hB : HB t n N B C W σ) (h : BdS t n N vs R σ) : ∃ i, i ≤ N ∧ σ.i 40 3 = Int32.ofNat i ∧ tyS t n (sgP t n i) = hsg t n R ∧ ∀ p es, R = .inr (p, es) → sgP t n i = p := by
  rcases R with q | ⟨p, es⟩
  · exact ⟨N, Nat.le_refl _, h.1.1, hB.2.2.1.2.2.1.1, fun p es e => by cases e⟩
  · obtain ⟨i, i1, i2, i3⟩ := h.1.1
    exact ⟨i, i1, i2, by rw [i3]; rfl, fun p' es' e => by cases e; exact i3⟩
theorem h_sign (hB : HB t n N B C W σ) (h : BdS t n N vs R σ) (k : K (.inl (some (.int (Int32.ofNat (hsg t n R))))) σ) : C_X7_sign_0 Z (d + 1) σ K := by
  obtain ⟨i, i1, i2, i3, -⟩ := h.pos hB
  obtain ⟨f, sa, ss, ⟨nn, hN⟩, -⟩ := hB
  refine T_X7_sign_0 f ⟨_, sa.1.1, _, sa.1.2, ?_⟩
  have hc := sa.2.2.2.2.2.2.2.2.2
  rw [i2, oN_t (by omega), (ss.2.1 i i1).1, i3]
  exact ⟨ib_oN (by omega) (by omega), k⟩
theorem BdS.die {x : Int32} {q : Nat} (h : BdS t n N vs R σ) (hq : q ≤ n) (hx : x = Int32.ofNat q) : BdS t n N vs (.inl q) ((σ.wi 40 4 x).wi 40 3 (Int32.ofNat N)) := by
  refine ⟨⟨wi_eq, by rw [wi_ne (by decide), wi_eq, hx], hq⟩, ?_⟩
  rcases R with q' | ⟨p, es⟩
  · exact ⟨(wi_ne (by decide)).trans ((wi_ne (by decide)).trans h.2.1), h.2.2⟩
  · exact ⟨(wi_ne (by decide)).trans ((wi_ne (by decide)).trans h.2.1.1), h.2.1.2.1⟩
theorem BdS.nx {p : Nat} {es : Evs} {i : Nat} (h : BdS t n N vs (.inr (p, es)) σ) (hi : i < N) (hs : sgP t n (i + 1) = nxS t n p) : BdS t n N vs (.inr (nxS t n p, es)) (σ.wi 40 3 (Int32.ofNat (i + 1))) := by
  obtain ⟨⟨-, h4⟩, ⟨v1, v2, v3⟩, ru, he⟩ := h
  refine ⟨⟨⟨i + 1, by omega, wi_eq, hs⟩, (wi_ne (by decide)).trans h4⟩, ⟨(wi_ne (by decide)).trans v1, v2, v3⟩, ?_, he⟩
  unfold RuC at ru ⊢
  rw [wi_ne (by decide), wi_ne (by decide)]
  exact ru
theorem h_take {y : Nat} (hy : 2 ≤ y ∧ y ≤ 52) (hB : HB t n N B C W σ) (h : BdS t n N vs R σ) (k : ∀ τ, HdF σ τ → BdS t n N vs (htk t n y R) τ → K (.inl none) τ) : C_X7_take_0 Z (d + 1) σ (Int32.ofNat y) K := by
  obtain ⟨i, i1, i2, i3, i4⟩ := h.pos hB
  obtain ⟨f, sa, ss, ⟨nn, hN⟩, -⟩ := hB
  have hc := sa.2.2.2.2.2.2.2.2.2
  have hE := ss.2.2.1
  have tb : tyS t n (sgP t n i) ≤ 52 := ty_b
  refine T_X7_take_0 f ⟨_, sa.1.1, _, sa.1.2, ?_⟩
  rw [i2, oN_t (by omega), (ss.2.1 i i1).1, oN_eq (by omega) (by omega), ss.1, oN_p1 (by omega), Nat.add_sub_cancel, oN_1]
  refine ⟨ib_oN (by omega) (by omega), fun z => ?_, fun z => ?_⟩
  · rcases R with q | ⟨p, es⟩
    · have e4 := h.1.2.1
      rw [e4]
      have eσ : σ.wi 40 3 (Int32.ofNat N) = σ := by
        rw [← h.1.1]
        exact wi_id _ _ _
      refine ⟨fun _ => ?_, fun y => absurd ?_ y⟩
      · rw [eσ]
        exact k _ (HdF.refl _) h
      · rw [show (0 : Int32) = Int32.ofNat 0 from rfl, oN_le (by decide) (by have := h.1.2.2; omega)]
        exact Nat.zero_le _
    · rw [h.1.2]
      refine ⟨fun y => absurd y (by decide), fun _ => ⟨_, sa.2.1.1, _, sa.2.1.2, ib_oN (by omega) (by omega), ?_⟩⟩
      rw [(ss.2.1 i i1).2.1]
      have e := i4 p es rfl
      rw [e] at z ⊢
      refine k _ ((HdF.w4 (by decide)).tr (HdF.w4 (by decide))) ?_
      unfold htk hbd
      dsimp only
      rw [if_neg z]
      exact h.die (by rw [← e]; exact sgP_le t n i) rfl
  · rcases R with q | ⟨p, es⟩
    · exfalso
      rw [i3] at z
      have z : 0 = y := z
      omega
    · have e := i4 p es rfl
      obtain ⟨s1, s2⟩ := sg_ty hE i1 (by omega)
      rw [e] at z s2
      refine k _ (HdF.w4 (by decide)) ?_
      unfold htk hbd
      dsimp only
      rw [if_pos z]
      exact h.nx s1 s2
theorem h_never (hB : HB t n N B C W σ) (h : BdS t n N vs R σ) (k : ∀ τ, HdF σ τ → BdS t n N vs (hnv R) τ → K (.inl none) τ) : C_X7_take_0 Z (d + 1) σ (-1) K := by
  obtain ⟨i, i1, i2, i3, i4⟩ := h.pos hB
  obtain ⟨f, sa, ss, ⟨nn, hN⟩, -⟩ := hB
  have hc := sa.2.2.2.2.2.2.2.2.2
  have tb : tyS t n (sgP t n i) ≤ 52 := ty_b
  have ne : ¬ Int32.ofNat (tyS t n (sgP t n i)) = -1 := fun z => by
    have := congrArg Int32.toInt z
    rw [oN_i (by omega)] at this
    have : ((tyS t n (sgP t n i) : Nat) : Int) = -1 := this
    omega
  refine T_X7_take_0 f ⟨_, sa.1.1, _, sa.1.2, ?_⟩
  rw [i2, oN_t (by omega), (ss.2.1 i i1).1, ss.1, oN_p1 (by omega), Nat.add_sub_cancel, oN_1]
  refine ⟨ib_oN (by omega) (by omega), fun z => ?_, fun z => absurd z ne⟩
  rcases R with q | ⟨p, es⟩
  · have e4 := h.1.2.1
    rw [e4]
    have eσ : σ.wi 40 3 (Int32.ofNat N) = σ := by
      rw [← h.1.1]
      exact wi_id _ _ _
    refine ⟨fun _ => ?_, fun y => absurd ?_ y⟩
    · rw [eσ]
      exact k _ (HdF.refl _) h
    · rw [show (0 : Int32) = Int32.ofNat 0 from rfl, oN_le (by decide) (by have := h.1.2.2; omega)]
      exact Nat.zero_le _
  · rw [h.1.2]
    refine ⟨fun y => absurd y (by decide), fun _ => ⟨_, sa.2.1.1, _, sa.2.1.2, ib_oN (by omega) (by omega), ?_⟩⟩
    rw [(ss.2.1 i i1).2.1]
    have e := i4 p es rfl
    rw [e]
    exact k _ ((HdF.w4 (by decide)).tr (HdF.w4 (by decide))) (show BdS t n N vs (.inl p) _ from h.die (by rw [← e]; exact sgP_le t n i) rfl)
end HST

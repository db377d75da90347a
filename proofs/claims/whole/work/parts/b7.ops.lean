/-! THE CLASS: reading; the small steps -/
section OPS
variable {Z : zT} {d : Nat} {t : Nat → Int32} {n N : Nat} {B : Nat × Nat × Nat × Nat × Nat} {C : Nat × Nat × Nat × Nat} {W : Wld} {w : Int} {S : Nat} {σ0 : Sg} {vs : List (List Int32)} {R : RR} {σ τ : Sg} {K : kS}
theorem NmS.keep {ns : List (List Int32)} {o : Nat} (h : NmS ns o σ) (e : ∀ k, k < ns.length → τ.l 29 (o + k) = σ.l 29 (o + k) ∧ τ.l 30 (o + k) = σ.l 30 (o + k)) : NmS ns o τ := fun k nm hk => by
  have hl := (List.getElem?_eq_some_iff.mp hk).1
  obtain ⟨a1, a2, a3⟩ := h k nm hk
  obtain ⟨e1, e2⟩ := e k hl
  exact ⟨e1.trans a1, e2.trans a2, a3⟩
theorem SgS.keep {b0 b1 b2 b3 : Nat} (h : SgS t n N σ b0 b1 b2 b3) (h4 : τ.i 41 4 = σ.i 41 4) (e0 : τ.i b0 = σ.i b0) (e1 : τ.i b1 = σ.i b1) (e2 : τ.l b2 = σ.l b2) (e3 : τ.l b3 = σ.l b3) : SgS t n N τ b0 b1 b2 b3 := by
  unfold SgS Sg1
  rw [h4, e0, e1, e2, e3]
  exact h
theorem CBs.rd (h : CBs t n N B C W w S σ0 σ) (g : RdF S C.2.1 C.2.2.1 C.2.2.2 σ τ) : CBs t n N B C W w S σ0 τ := by
  obtain ⟨h1, h2, h3, h4, h5, h6, h7, ⟨k1, k2, k3, k4, k5⟩, ⟨q1, q2, q3, q4, q5⟩, ⟨l1, l2, l3, l4⟩, ⟨o1, o2, o3⟩, h12⟩ := h
  have h2' := h2
  have h5' := h5
  obtain ⟨⟨a1, a2⟩, ⟨a3, a4⟩, ⟨a5, a6⟩, ⟨a7, a8⟩, ⟨n1, n2⟩, d0, d1, d2, d3, hc⟩ := h2
  obtain ⟨⟨z1, z2⟩, ⟨z3, z4⟩, ⟨z5, z6⟩, ⟨m1, m2, m3⟩, y0, y1, y2, hy⟩ := h5
  have gi : ∀ a k, ¬ rdI S C.2.1 C.2.2.1 C.2.2.2 a k → τ.i a k = σ.i a k := g.2.2.1
  have gl : ∀ a k, ¬ ((a = 29 ∨ a = 30) ∧ 56 ≤ k) → τ.l a k = σ.l a k := g.2.2.2
  refine ⟨by rw [g.1, g.2.1]; exact h1, by unfold SgA; rw [g.1, g.2.1]; exact h2', h3.keep (gi 41 4 (by unfold rdI; omega)) (funext fun k => gi _ k (by unfold rdI; omega)) (funext fun k => gi _ k (by unfold rdI; omega)) (funext fun k => gl _ k (by omega)) (funext fun k => gl _ k (by omega)), h4, by unfold CoA; rw [g.1, g.2.1]; exact h5', ⟨(gi 24 4 (by unfold rdI; omega)).trans h6.1, h6.2⟩, h7, ⟨(gi 28 0 (by unfold rdI; omega)).trans k1, k2, k3.keep (fun k hk => ?_), k4, fun k x hx => (gi 3 k (by unfold rdI; omega)).trans (k5 k x hx)⟩, ⟨(gi 28 1 (by unfold rdI; omega)).trans q1, q2, q3.keep (fun k hk => ?_), q4, fun k x hx => ⟨(gi 31 k (by unfold rdI; omega)).trans (q5 k x hx).1, (q5 k x hx).2⟩⟩, ⟨(gi 28 2 (by unfold rdI; omega)).trans l1, l2, l3.keep (fun k hk => ?_), l4⟩, ⟨(gi 40 7 (by unfold rdI; omega)).trans o1, (gi 40 8 (by unfold rdI; omega)).trans o2, o3⟩, h12.tr g⟩
  · rw [List.length_map] at hk
    exact ⟨gl 29 _ (by omega), gl 30 _ (by omega)⟩
  · rw [List.length_map] at hk
    exact ⟨gl 29 _ (by omega), gl 30 _ (by omega)⟩
  · exact ⟨gl 29 _ (by omega), gl 30 _ (by omega)⟩
theorem CSt.cb (h : CSt t n N B C W w S σ0 vs R σ) : CBs t n N B C W w S σ0 σ := by
  rcases R with q | ⟨p, c, es, L, b⟩
  · exact h.1
  · exact h.1
theorem CSt.fx (h : CSt t n N B C W w S σ0 vs R σ) : FX ΦC σ.sh σ.r := h.cb.1
/-- where it stands -/
theorem CSt.pos (h : CSt t n N B C W w S σ0 vs R σ) : ∃ i, i ≤ N ∧ σ.i 40 3 = Int32.ofNat i ∧ tyS t n (sgP t n i) = sgT t n R ∧ ∀ p c es L b, R = .inr (p, c, es, L, b) → sgP t n i = p := by
  rcases R with q | ⟨p, c, es, L, b⟩
  · exact ⟨N, Nat.le_refl _, h.2.1.1, h.1.2.2.1.2.2.1.1, fun p c es L b e => by cases e⟩
  · obtain ⟨i, i1, i2, i3⟩ := h.2.1.1
    exact ⟨i, i1, i2, by rw [i3]; rfl, fun p' c' es' L' b' e => by cases e; exact i3⟩
theorem cl_sign (h : CSt t n N B C W w S σ0 vs R σ) (k : K (.inl (some (.int (Int32.ofNat (sgT t n R))))) σ) : C_X7_sign_0 Z (d + 1) σ K := by
  obtain ⟨i, i1, i2, i3, -⟩ := h.pos
  have cb := h.cb
  obtain ⟨f, sa, ss, ⟨nn, hN⟩, -⟩ := cb
  refine T_X7_sign_0 f ⟨_, sa.1.1, _, sa.1.2, ?_⟩
  have hc := sa.2.2.2.2.2.2.2.2.2
  rw [i2, oN_t (by omega), (ss.2.1 i i1).1, i3]
  exact ⟨ib_oN (by omega) (by omega), k⟩
theorem rd_40 {k : Nat} {v : Int32} (hk : (3 ≤ k ∧ k ≤ 6) ∨ k = 9) : RdF S C.2.1 C.2.2.1 C.2.2.2 σ (σ.wi 40 k v) := RdF.wi (by unfold rdI; omega)
theorem CdS.keep {c0 c1 c2 : Nat} {L : Cd} {b : Nat} (h : CdS S c0 c1 c2 L b σ) (e0 : τ.i c0 = σ.i c0) (e1 : τ.i c1 = σ.i c1) (e2 : τ.i c2 = σ.i c2) : CdS S c0 c1 c2 L b τ := by
  unfold CdS
  rw [e0, e1, e2]
  exact h
theorem ty_b {p : Nat} : tyS t n p ≤ 52 := by
  rcases ty_or t n p with h | h | h | h | h | h
  · omega
  · omega
  · omega
  · omega
  · rcases h.2.2.2 with q | ⟨q, q1, -, q2⟩
    · omega
    · have := (mkL2_c q q1).2.2
      omega
  · rcases h.2.2.2.2 with q | ⟨q, q1, -, q2⟩
    · omega
    · have := (wdL_c q q1).2.2.1
      omega
/-- it can't stand here -/
theorem CSt.die {x : Int32} {q : Nat} (h : CSt t n N B C W w S σ0 vs R σ) (hq : q ≤ n) (hx : x = Int32.ofNat q) : CSt t n N B C W w S σ0 vs (.inl q) ((σ.wi 40 4 x).wi 40 3 (Int32.ofNat N)) := by
  have g : RdF S C.2.1 C.2.2.1 C.2.2.2 σ ((σ.wi 40 4 x).wi 40 3 (Int32.ofNat N)) := (rd_40 (by omega)).tr (rd_40 (by omega))
  have cb := h.cb
  refine ⟨cb.rd g, ⟨wi_eq, by rw [wi_ne (by decide), wi_eq, hx], hq⟩, ?_, ?_⟩
  · rcases R with q' | ⟨p, c, es, L, b⟩
    · obtain ⟨y, y1, y2⟩ := h.2.2.1
      exact ⟨y, y1, (wi_ne (by decide)).trans ((wi_ne (by decide)).trans y2)⟩
    · obtain ⟨y, y1, y2, -⟩ := h.2.2.1
      exact ⟨y, y1, (wi_ne (by decide)).trans ((wi_ne (by decide)).trans y2)⟩
  · rcases R with q' | ⟨p, c, es, L, b⟩
    · exact ⟨(wi_ne (by decide)).trans ((wi_ne (by decide)).trans h.2.2.2.1), h.2.2.2.2⟩
    · exact ⟨(wi_ne (by decide)).trans ((wi_ne (by decide)).trans h.2.2.2.1.1), h.2.2.2.1.2.1⟩
theorem CSt.stay {q : Nat} (h : CSt t n N B C W w S σ0 vs (.inl q) σ) : CSt t n N B C W w S σ0 vs (.inl q) (σ.wi 40 3 (Int32.ofNat N)) := by
  have e : σ.wi 40 3 (Int32.ofNat N) = σ := by
    rw [← h.2.1.1]
    exact wi_id _ _ _
  rw [e]
  exact h
theorem sg_ty {i : Nat} (hE : SgE t n N) (hi : i ≤ N) (h : 2 ≤ tyS t n (sgP t n i)) : i < N ∧ sgP t n (i + 1) = nxS t n (sgP t n i) := by
  refine ⟨?_, by rw [sgP, if_neg (by omega)]⟩
  by_cases z : i = N
  · rw [z, hE.1] at h
    omega
  · omega
theorem CSt.nx {p c : Nat} {es : Evs} {L : Cd} {b i : Nat} (h : CSt t n N B C W w S σ0 vs (.inr (p, c, es, L, b)) σ) (hi : i < N) (hs : sgP t n (i + 1) = nxS t n p) (hp : p < n) : CSt t n N B C W w S σ0 vs (.inr (nxS t n p, c, es, L, b)) (σ.wi 40 3 (Int32.ofNat (i + 1))) := by
  obtain ⟨cb, ⟨-, h4⟩, ⟨x, x1, x2, x3⟩, ⟨v1, v2, v3⟩, ⟨c1, c2, c3⟩, ru, hev⟩ := h
  have nx := nxS_gt (t := t) hp
  obtain ⟨-, -, -, -, y0, y1, y2, -⟩ := cb.2.2.2.2.1
  refine ⟨cb.rd (rd_40 (by omega)), ⟨⟨i + 1, by omega, wi_eq, hs⟩, (wi_ne (by decide)).trans h4⟩, ⟨x, x1, (wi_ne (by decide)).trans x2, fun z => ⟨(x3 z).1, (x3 z).2.1, (x3 z).2.2.keep (wi_row (by omega)) (wi_row (by omega)) (wi_row (by omega))⟩⟩, ⟨(wi_ne (by decide)).trans v1, v2, v3⟩, ⟨(wi_ne (by decide)).trans c1, by omega, fun z => ?_⟩, ?_, hev⟩
  · obtain ⟨e, e1, e2⟩ := c3 z
    exact ⟨e, e1, by omega⟩
  · unfold RuC at ru ⊢
    rw [wi_ne (by decide), wi_ne (by decide)]
    exact ru
theorem cl_take {y : Nat} (hy : 2 ≤ y ∧ y ≤ 52) (h : CSt t n N B C W w S σ0 vs R σ) (k : ∀ τ, CSt t n N B C W w S σ0 vs (tkR t n y R) τ → K (.inl none) τ) : C_X7_take_0 Z (d + 1) σ (Int32.ofNat y) K := by
  obtain ⟨i, i1, i2, i3, i4⟩ := h.pos
  have cb := h.cb
  obtain ⟨f, sa, ss, ⟨nn, hN⟩, -⟩ := cb
  have hc := sa.2.2.2.2.2.2.2.2.2
  have hE := ss.2.2.1
  have tb : tyS t n (sgP t n i) ≤ 52 := ty_b
  refine T_X7_take_0 f ⟨_, sa.1.1, _, sa.1.2, ?_⟩
  rw [i2, oN_t (by omega), (ss.2.1 i i1).1, oN_eq (by omega) (by omega), ss.1, oN_p1 (by omega), Nat.add_sub_cancel, oN_1]
  refine ⟨ib_oN (by omega) (by omega), fun z => ?_, fun z => ?_⟩
  · rcases R with q | ⟨p, c, es, L, b⟩
    · have e4 := h.2.1.2.1
      rw [e4]
      refine ⟨fun _ => k _ h.stay, fun y => absurd ?_ y⟩
      rw [show (0 : Int32) = Int32.ofNat 0 from rfl, oN_le (by decide) (by have := h.2.1.2.2; omega)]
      exact Nat.zero_le _
    · rw [h.2.1.2]
      refine ⟨fun y => absurd y (by decide), fun _ => ⟨_, sa.2.1.1, _, sa.2.1.2, ib_oN (by omega) (by omega), ?_⟩⟩
      rw [(ss.2.1 i i1).2.1]
      have e := i4 p c es L b rfl
      rw [e] at z ⊢
      refine k _ ?_
      unfold tkR bdR
      dsimp only
      rw [if_neg z]
      exact h.die (by rw [← e]; exact sgP_le t n i) rfl
  · rcases R with q | ⟨p, c, es, L, b⟩
    · exfalso
      rw [i3] at z
      have z : 0 = y := z
      omega
    · have e := i4 p c es L b rfl
      obtain ⟨s1, s2⟩ := sg_ty hE i1 (by omega)
      rw [e] at z s2
      refine k _ ?_
      unfold tkR bdR
      dsimp only
      rw [if_pos z]
      refine h.nx s1 s2 ?_
      by_cases q : p < n
      · exact q
      · have := (ty_0 (t := t)).mpr q
        omega
theorem cl_never (h : CSt t n N B C W w S σ0 vs R σ) (k : ∀ τ, CSt t n N B C W w S σ0 vs (nvR R) τ → K (.inl none) τ) : C_X7_take_0 Z (d + 1) σ (-1) K := by
  obtain ⟨i, i1, i2, i3, i4⟩ := h.pos
  have cb := h.cb
  obtain ⟨f, sa, ss, ⟨nn, hN⟩, -⟩ := cb
  have hc := sa.2.2.2.2.2.2.2.2.2
  have tb : tyS t n (sgP t n i) ≤ 52 := ty_b
  have ne : ¬ Int32.ofNat (tyS t n (sgP t n i)) = -1 := fun z => by
    have := congrArg Int32.toInt z
    rw [oN_i (by omega)] at this
    have : ((tyS t n (sgP t n i) : Nat) : Int) = -1 := this
    omega
  refine T_X7_take_0 f ⟨_, sa.1.1, _, sa.1.2, ?_⟩
  rw [i2, oN_t (by omega), (ss.2.1 i i1).1, ss.1, oN_p1 (by omega), Nat.add_sub_cancel, oN_1]
  refine ⟨ib_oN (by omega) (by omega), fun z => ?_, fun z => absurd z ne⟩
  rcases R with q | ⟨p, c, es, L, b⟩
  · have e4 := h.2.1.2.1
    rw [e4]
    refine ⟨fun _ => k _ h.stay, fun y => absurd ?_ y⟩
    rw [show (0 : Int32) = Int32.ofNat 0 from rfl, oN_le (by decide) (by have := h.2.1.2.2; omega)]
    exact Nat.zero_le _
  · rw [h.2.1.2]
    refine ⟨fun y => absurd y (by decide), fun _ => ⟨_, sa.2.1.1, _, sa.2.1.2, ib_oN (by omega) (by omega), ?_⟩⟩
    rw [(ss.2.1 i i1).2.1]
    have e := i4 p c es L b rfl
    rw [e]
    exact k _ (show CSt t n N B C W w S σ0 vs (.inl p) _ from h.die (by rw [← e]; exact sgP_le t n i) rfl)
end OPS

/-! THE CLASS: reading; names and numbers -/
theorem dig_3 {t : Nat → Int32} {n p : Nat} (h : tyS t n p = 3) : isDig (t p) := by
  have hs : soS t n p = 3 := by
    rcases ty_or t n p with q | q | q | q | q | q
    · omega
    · omega
    · omega
    · exact q.2.1
    · rcases q.2.2.2 with q' | ⟨q', q1, -, q2⟩
      · omega
      · have h4 : ∀ q ∈ mkL2, q.2 ≠ 3 := by decide
        exact absurd (q2.symm.trans h) (h4 q' q1)
    · rcases q.2.2.2.2 with q' | ⟨q', q1, -, q2⟩
      · omega
      · have h4 : ∀ q ∈ wdL, q.2 ≠ 3 := by decide
        exact absurd (q2.symm.trans h) (h4 q' q1)
  unfold soS at hs
  by_cases z : isDig (t p)
  · exact z
  · exfalso
    by_cases z1 : p < n
    · rw [if_pos z1] at hs
      by_cases z2 : isLet (t p)
      · rw [if_pos z2] at hs
        by_cases z3 : lnS t n p ≤ 16
        · rw [if_pos z3] at hs
          by_cases z4 : wdJ t p (lnS t n p) = Rf.nul
          · rw [if_pos z4] at hs
            exact absurd hs (by decide)
          · rw [if_neg z4] at hs
            exact absurd hs (by decide)
        · rw [if_neg z3] at hs
          exact absurd hs (by decide)
      · rw [if_neg z2, if_neg z] at hs
        by_cases z5 : 32 < t p ∧ 0 ≤ stF 184 (t p)
        · rw [if_pos z5] at hs
          exact absurd hs (by decide)
        · rw [if_neg z5] at hs
          exact absurd hs (by decide)
    · rw [if_neg z1] at hs
      exact absurd hs (by decide)
section PUREOPS2
variable (t : Nat → Int32) (n : Nat)
/-- a name that must be known -/
def knR (f : List Int32 → Option Nat) (R : RR) : RR := bdR R fun p c es L b => if tyS t n p = 2 then .inr (nxS t n p, c, es ++ (if f (nmS t n p) = none then [(p, 3)] else []), L, b) else .inl p
/-- a number that must stand there -/
def nuR (R : RR) : RR := bdR R fun p c es L b => match pSg t n p with
  | .inl q => .inl q
  | .inr (_, p1) => .inr (p1, c, es, L, b)
end PUREOPS2
section OPS5
variable {Z : zT} {d : Nat} {t : Nat → Int32} {n N : Nat} {B : Nat × Nat × Nat × Nat × Nat} {C : Nat × Nat × Nat × Nat} {W : Wld} {w : Int} {S : Nat} {σ0 : Sg} {vs : List (List Int32)} {R : RR} {σ τ : Sg} {K : kS}
theorem cl_known {s o : Nat} {ns : List (List Int32)} {f : List Int32 → Option Nat} (hx : xJ0 0 (Int32.ofNat s) (Int32.ofNat o)) (hs : s < 4) (hb : o + ns.length ≤ 72) (hN : ∀ τ R, CSt t n N B C W w S σ0 vs R τ → τ.i 28 s = Int32.ofNat ns.length ∧ ∀ p c es L b, R = .inr (p, c, es, L, b) → NmS ns o τ) (hf : ∀ nm, f nm = lstI ns nm) (h : CSt t n N B C W w S σ0 vs R σ) (k : ∀ τ (v : Int), -1 ≤ v → v < ns.length → (∀ p c es L b, R = .inr (p, c, es, L, b) → tyS t n p = 2 → v = idx (f (nmS t n p))) → CSt t n N B C W w S σ0 vs (knR t n f R) τ → K (.inl (some (.int (Int32.ofInt v)))) τ) : C_X7_takeKnownName_0 Z (d + 2) σ (Int32.ofNat s) K := by
  obtain ⟨i, i1, i2, i3, i4⟩ := h.pos
  refine T_X7_takeKnownName_0 h.fx (cl_take (y := 2) (by decide) h (fun τ hτ => ?_))
  have cb := hτ.cb
  obtain ⟨fx, sa, ss, ⟨nn, hN1⟩, -⟩ := cb
  have hc := sa.2.2.2.2.2.2.2.2.2
  refine ⟨_, sa.2.2.1.1, _, sa.2.2.1.2, ?_⟩
  rw [i2, oN_t (by omega), (ss.2.1 i i1).2.2.1]
  refine ⟨ib_oN (by omega) (by omega), _, sa.2.2.2.1.1, _, sa.2.2.2.1.2, ib_oN (by omega) (by omega), ?_⟩
  rw [(ss.2.1 i i1).2.2.2]
  obtain ⟨n1, n2⟩ := hN τ _ hτ
  have nonneg : ∀ v : Int, -1 ≤ v → v < ns.length → ((0 : Int32) ≤ Int32.ofInt v ↔ 0 ≤ v) := fun v v1 v2 => by
    rw [Int32.le_iff_toInt_le, oI_i (by omega) (by omega)]
    exact Iff.rfl
  -- where nothing can stand any more
  have dead : ∀ q, CSt t n N B C W w S σ0 vs (.inl q) τ → knR t n f R = .inl q → (∀ p c es L b, R = .inr (p, c, es, L, b) → tyS t n p ≠ 2) → ∀ v : Int, -1 ≤ v → v < ns.length → (0 ≤ Int32.ofInt v → K (.inl (some (.int (Int32.ofInt v)))) τ) ∧ (¬ 0 ≤ Int32.ofInt v → C_X7_breakRule_0 Z (d + 1) τ 3 (Int32.ofNat i) (yN K fun τ16 => K (.inl (some (.int (Int32.ofInt v)))) τ16)) := fun q hq e no v v1 v2 => by
    have go : ∀ υ, CSt t n N B C W w S σ0 vs (.inl q) υ → K (.inl (some (.int (Int32.ofInt v)))) υ := fun υ hυ => k υ v v1 v2 (fun p c es L b r1 r2 => absurd r2 (no p c es L b r1)) (by rw [e]; exact hυ)
    exact ⟨fun _ => go τ hq, fun _ => cl_break (rule := 3) hq i1 (by decide) (fun υ hυ => go υ hυ)⟩
  rcases R with q | ⟨p, c, es, L, b⟩
  · exact cl_findX fx hx hs n1 hb (fun v v1 v2 => dead q hτ rfl (fun p c es L b r => by cases r) v v1 v2)
  · have e := i4 p c es L b rfl
    by_cases z : tyS t n p = 2
    · have et : tkR t n 2 (.inr (p, c, es, L, b)) = .inr (nxS t n p, c, es, L, b) := by
        unfold tkR bdR
        exact if_pos z
      rw [et] at hτ n2
      have hh : hdS t n (sgP t n i) = nmH (nmS t n p) := by
        unfold hdS
        rw [e, if_pos (Or.inl z)]
      have ht : tlS t n (sgP t n i) = nmT (nmS t n p) := by
        unfold tlS
        rw [e, if_pos (Or.inl z)]
      rw [hh, ht]
      refine cl_findN fx hx hs n1 hb (n2 _ _ _ _ _ rfl) (nm_ok z) ?_
      have ek : knR t n f (.inr (p, c, es, L, b)) = evR (if f (nmS t n p) = none then [(p, 3)] else []) (.inr (nxS t n p, c, es, L, b)) := by
        unfold knR evR bdR
        exact if_pos z
      have v1 : -1 ≤ idx (lstI ns (nmS t n p)) := by
        cases lstI ns (nmS t n p) with
        | none => decide
        | some j => show (-1 : Int) ≤ (j : Int); omega
      have v2 : idx (lstI ns (nmS t n p)) < ns.length := by
        cases hj : lstI ns (nmS t n p) with
        | none => show (-1 : Int) < _; omega
        | some j =>
          have := lstI_lt hj
          show (j : Int) < _
          omega
      have vp : ∀ p' c' es' L' b', (.inr (p, c, es, L, b) : RR) = .inr (p', c', es', L', b') → tyS t n p' = 2 → idx (lstI ns (nmS t n p)) = idx (f (nmS t n p')) := fun p' c' es' L' b' r _ => by
        cases r
        rw [hf]
      refine ⟨fun y => k τ _ v1 v2 vp ?_, fun y => cl_break (rule := 3) hτ i1 (by decide) (fun υ hυ => k υ _ v1 v2 vp ?_)⟩
      · rw [nonneg _ v1 v2] at y
        rw [ek, hf, if_neg (fun r => by rw [r] at y; exact absurd y (by decide))]
        unfold evR bdR
        dsimp only
        rw [List.append_nil]
        exact hτ
      · rw [nonneg _ v1 v2] at y
        have r : lstI ns (nmS t n p) = none := by
          cases hj : lstI ns (nmS t n p) with
          | none => rfl
          | some j =>
            rw [hj] at y
            exact absurd (show (0 : Int) ≤ (j : Int) from by omega) y
        rw [e] at hυ
        rw [ek, hf, if_pos r]
        exact hυ
    · have et : tkR t n 2 (.inr (p, c, es, L, b)) = .inl p := by
        unfold tkR bdR
        exact if_neg z
      rw [et] at hτ
      have ek : knR t n f (.inr (p, c, es, L, b)) = .inl p := by
        unfold knR bdR
        exact if_neg z
      exact cl_findX fx hx hs n1 hb (fun v v1 v2 => dead p hτ ek (fun p' c' es' L' b' r => by cases r; exact z) v v1 v2)
/-- a number -/
theorem cl_number2 (h : CSt t n N B C W w S σ0 vs R σ) (k : ∀ τ (v : Int32), (∀ p c es L b, R = .inr (p, c, es, L, b) → ∀ x p1, pSg t n p = .inr (x, p1) → v = Int32.ofInt x) → CSt t n N B C W w S σ0 vs (nuR t n R) τ → K (.inl (some (.int v))) τ) : C_X7_takeNumber_0 Z (d + 2) σ K := by
  -- behind the sign
  have rest : ∀ (R' : RR) (τ : Sg) (g : Int32), CSt t n N B C W w S σ0 vs R' τ → (∀ υ (v : Int32), (∀ p c es L b, R' = .inr (p, c, es, L, b) → tyS t n p = 3 → v = vaS t n p) → CSt t n N B C W w S σ0 vs (tkR t n 3 R') υ → (g = 0 → K (.inl (some (.int v))) υ) ∧ (¬ g = 0 → K (.inl (some (.int (-v)))) υ)) → C_X7_takeNumber_25 Z (d + 2) τ g K := fun R' τ g hτ kk => by
    obtain ⟨i, i1, i2, i3, i4⟩ := hτ.pos
    have cb := hτ.cb
    obtain ⟨fx, sa, ss, ⟨nn, hN1⟩, -⟩ := cb
    have hc := sa.2.2.2.2.2.2.2.2.2
    refine T_X7_takeNumber_25 fx ⟨_, sa.2.2.1.1, _, sa.2.2.1.2, ?_⟩
    rw [i2, oN_t (by omega), (ss.2.1 i i1).2.2.1]
    refine ⟨ib_oN (by omega) (by omega), cl_take (y := 3) (by decide) hτ (fun υ hυ => kk υ _ (fun p c es L b r z => ?_) hυ)⟩
    rw [i4 p c es L b r]
    unfold hdS vaS
    rw [if_neg (by omega), if_pos z, if_pos (dig_3 z)]
  refine T_X7_takeNumber_0 h.fx (cl_sign h ⟨fun z => ?_, fun z => ?_⟩)
  · have z : ¬ sgT t n R = 10 := fun y => z (by rw [y]; rfl)
    refine T_X7_takeNumber_14 h.fx ⟨fun _ => rest R σ 0 h (fun υ v hv hυ => ⟨fun _ => ?_, fun y => absurd rfl y⟩), fun y => absurd rfl y⟩
    rcases R with q | ⟨p, c, es, L, b⟩
    · exact k υ v (fun p c es L b r => by cases r) hυ
    · have z : ¬ tyS t n p = 10 := z
      have ep : pSg t n p = if tyS t n p = 3 then .inr ((vaS t n p).toInt, nxS t n p) else .inl p := by
        unfold pSg
        rw [if_neg z]
      refine k υ v (fun p' c' es' L' b' r x p1 e => ?_) ?_
      · cases r
        rw [ep] at e
        by_cases y : tyS t n p = 3
        · rw [if_pos y] at e
          have e := Prod.mk.inj (Sum.inr.inj e)
          rw [hv p c es L b rfl y, ← e.1, Int32.ofInt_toInt]
        · rw [if_neg y] at e
          cases e
      · have en : nuR t n (.inr (p, c, es, L, b)) = tkR t n 3 (.inr (p, c, es, L, b)) := by
          unfold nuR tkR bdR
          dsimp only
          rw [ep]
          by_cases y : tyS t n p = 3
          · rw [if_pos y, if_pos y]
          · rw [if_neg y, if_neg y]
        rw [en]
        exact hυ
  · have z : sgT t n R = 10 := by
      have tb : sgT t n R ≤ 52 := by
        rcases R with q | ⟨p, c, es, L, b⟩
        · exact Nat.zero_le _
        · exact ty_b
      exact (oN_eq (b := 10) (by omega) (by decide)).mp z
    refine T_X7_takeNumber_14 h.fx ⟨fun y => absurd y (by decide), fun _ => cl_take (y := 10) (by decide) h (fun υ hυ => rest _ υ 1 hυ (fun υ v hv hυ => ⟨fun y => absurd y (by decide), fun _ => ?_⟩))⟩
    rcases R with q | ⟨p, c, es, L, b⟩
    · have z : 0 = 10 := z
      omega
    · have z : tyS t n p = 10 := z
      have et : tkR t n 10 (.inr (p, c, es, L, b)) = .inr (nxS t n p, c, es, L, b) := by
        unfold tkR bdR
        exact if_pos z
      rw [et] at hυ hv
      have ep : pSg t n p = if tyS t n (nxS t n p) = 3 then .inr (-(vaS t n (nxS t n p)).toInt, nxS t n (nxS t n p)) else .inl (nxS t n p) := by
        unfold pSg
        rw [if_pos z]
      refine k υ (-v) (fun p' c' es' L' b' r x p1 e => ?_) ?_
      · cases r
        rw [ep] at e
        by_cases y : tyS t n (nxS t n p) = 3
        · rw [if_pos y] at e
          have e := Prod.mk.inj (Sum.inr.inj e)
          rw [hv _ _ _ _ _ rfl y, ← e.1, Int32.ofInt_neg, Int32.ofInt_toInt]
        · rw [if_neg y] at e
          cases e
      · have en : nuR t n (.inr (p, c, es, L, b)) = tkR t n 3 (.inr (nxS t n p, c, es, L, b)) := by
          unfold nuR tkR bdR
          dsimp only
          rw [ep]
          by_cases y : tyS t n (nxS t n p) = 3
          · rw [if_pos y, if_pos y]
          · rw [if_neg y, if_neg y]
        rw [en]
        exact hυ
/-- a variable more -/
theorem cl_addV {nm : List Int32} {a b : Int64} (h : CSt t n N B C W w S σ0 vs R σ) (hv : vs.length < 16) (hab : ∀ p c es L b', R = .inr (p, c, es, L, b') → a = nmH nm ∧ b = nmT nm ∧ (nm.length ≤ 16 ∧ ∀ c ∈ nm, nmC c)) (k : ∀ τ, CSt t n N B C W w S σ0 (vs ++ [nm]) R τ → K (.inl none) τ) : C_X11_addName_0 Z (d + 2) σ 3 a b K := by
  have e3 : σ.i 28 3 = Int32.ofNat vs.length := by
    rcases R with q | ⟨p, c, es, L, b⟩
    · exact h.2.2.2.1
    · exact h.2.2.2.1.1
  have cb := h.cb
  obtain ⟨-, -, -, -, y0, y1, y2, -⟩ := cb.2.2.2.2.1
  refine T_X11_addName_0 h.fx (T_X11_isFull_0 h.fx ⟨ib_oN (k := 3) (by decide) (by decide), _, xJ_1.2.2.2, ?_⟩)
  rw [show (3 : Int32).toNatClampNeg = 3 from rfl, e3, oN_lt (by omega) (by decide)]
  refine ⟨fun _ => ⟨fun z => absurd rfl z, fun _ => ⟨_, xJ_0.2.2.2, ?_⟩⟩, fun z => absurd hv z⟩
  rw [e3, ← Int32.ofNat_add, oN_t (by omega), oN_1]
  refine ⟨ib_oN (k := 3) (by decide) (by decide), ib_oN (by omega) (by omega), ib_oN (by omega) (by omega), ib_oN (k := 3) (by decide) (by decide), ib_oN (k := 3) (by decide) (by decide), k _ ?_⟩
  have g : RdF S C.2.1 C.2.2.1 C.2.2.2 σ (((σ.wl 29 (56 + vs.length) a).wl 30 (56 + vs.length) b).wi 28 3 (Int32.ofNat (vs.length + 1))) := ⟨rfl, rfl, fun x y q => wi_ne (fun z => q (by rw [z.1, z.2]; unfold rdI; omega)), fun x y q => (wl_ne (by omega)).trans (wl_ne (by omega))⟩
  have cb' := cb.rd g
  have el : (vs ++ [nm]).length = vs.length + 1 := List.length_append
  have wn : ∀ x y, ¬ (x = 28 ∧ y = 3) → (((σ.wl 29 (56 + vs.length) a).wl 30 (56 + vs.length) b).wi 28 3 (Int32.ofNat (vs.length + 1))).i x y = σ.i x y := fun x y q => wi_ne (by omega)
  have n3 : (((σ.wl 29 (56 + vs.length) a).wl 30 (56 + vs.length) b).wi 28 3 (Int32.ofNat (vs.length + 1))).i 28 3 = Int32.ofNat (vs ++ [nm]).length := by
    rw [el]
    exact wi_eq
  rcases R with q | ⟨p, c, es, L, b'⟩
  · obtain ⟨-, ⟨h3, h4, h5⟩, ⟨x, x1, x2⟩, h6, h7⟩ := h
    exact ⟨cb', ⟨(wn 40 3 (by decide)).trans h3, (wn 40 4 (by decide)).trans h4, h5⟩, ⟨x, x1, (wn 24 3 (by decide)).trans x2⟩, n3, by omega⟩
  · obtain ⟨ha, hb, hn⟩ := hab p c es L b' rfl
    obtain ⟨-, ⟨⟨i, i1, i2, i3⟩, h4⟩, ⟨x, x1, x2, x3⟩, ⟨v1, v2, v3⟩, ⟨c1, c2, c3⟩, ru, hev⟩ := h
    have r0 : ∀ c', c' ≠ 28 → (((σ.wl 29 (56 + vs.length) a).wl 30 (56 + vs.length) b).wi 28 3 (Int32.ofNat (vs.length + 1))).i c' = σ.i c' := fun c' q => funext fun k => wn c' k (by omega)
    refine ⟨cb', ⟨⟨i, i1, (wn 40 3 (by decide)).trans i2, i3⟩, (wn 40 4 (by decide)).trans h4⟩, ⟨x, x1, (wn 24 3 (by decide)).trans x2, fun z => ⟨(x3 z).1, (x3 z).2.1, (x3 z).2.2.keep (r0 _ (by omega)) (r0 _ (by omega)) (r0 _ (by omega))⟩⟩, ⟨n3, by omega, fun j nm' hj => ?_⟩, ⟨(wn 40 9 (by decide)).trans c1, c2, c3⟩, ?_, hev⟩
    · by_cases z : j < vs.length
      · rw [List.getElem?_append_left z] at hj
        obtain ⟨q1, q2, q3⟩ := v3 j nm' hj
        refine ⟨Eq.trans ?_ q1, Eq.trans ?_ q2, q3⟩
        · exact (wl_ne (by omega)).trans (wl_ne (by omega))
        · exact (wl_ne (by omega)).trans (wl_ne (by omega))
      · have hl := (List.getElem?_eq_some_iff.mp hj).1
        have ej : j = vs.length := by omega
        rw [ej, List.getElem?_append_right (Nat.le_refl _), Nat.sub_self] at hj
        have hj : nm = nm' := Option.some.inj hj
        rw [ej, ← hj]
        refine ⟨Eq.trans ?_ ha, Eq.trans ?_ hb, hn⟩
        · exact (wl_ne (by omega)).trans wl_eq
        · exact wl_eq
    · unfold RuC at ru ⊢
      rw [wn 40 5 (by decide), wn 40 6 (by decide)]
      exact ru
/-- it is gone again -/
theorem CSt.vb {nm : List Int32} (h : CSt t n N B C W w S σ0 (vs ++ [nm]) R σ) : CSt t n N B C W w S σ0 vs R (σ.wi 28 3 (Int32.ofNat vs.length)) := by
  have cb := h.cb
  obtain ⟨-, -, -, -, y0, y1, y2, -⟩ := cb.2.2.2.2.1
  have cb' : CBs t n N B C W w S σ0 (σ.wi 28 3 (Int32.ofNat vs.length)) := cb.rd (RdF.wi (by unfold rdI; omega))
  have el : (vs ++ [nm]).length = vs.length + 1 := List.length_append
  have wn : ∀ x y, ¬ (x = 28 ∧ y = 3) → (σ.wi 28 3 (Int32.ofNat vs.length)).i x y = σ.i x y := fun x y q => wi_ne (by omega)
  rcases R with q | ⟨p, c, es, L, b'⟩
  · obtain ⟨-, ⟨h3, h4, h5⟩, ⟨x, x1, x2⟩, h6, h7⟩ := h
    exact ⟨cb', ⟨(wn 40 3 (by decide)).trans h3, (wn 40 4 (by decide)).trans h4, h5⟩, ⟨x, x1, (wn 24 3 (by decide)).trans x2⟩, wi_eq, by omega⟩
  · obtain ⟨-, ⟨⟨i, i1, i2, i3⟩, h4⟩, ⟨x, x1, x2, x3⟩, ⟨v1, v2, v3⟩, ⟨c1, c2, c3⟩, ru, hev⟩ := h
    have r0 : ∀ c', c' ≠ 28 → (σ.wi 28 3 (Int32.ofNat vs.length)).i c' = σ.i c' := fun c' q => funext fun k => wn c' k (by omega)
    refine ⟨cb', ⟨⟨i, i1, (wn 40 3 (by decide)).trans i2, i3⟩, (wn 40 4 (by decide)).trans h4⟩, ⟨x, x1, (wn 24 3 (by decide)).trans x2, fun z => ⟨(x3 z).1, (x3 z).2.1, (x3 z).2.2.keep (r0 _ (by omega)) (r0 _ (by omega)) (r0 _ (by omega))⟩⟩, ⟨wi_eq, by omega, fun j nm' hj => ?_⟩, ⟨(wn 40 9 (by decide)).trans c1, c2, c3⟩, ?_, hev⟩
    · have hl := (List.getElem?_eq_some_iff.mp hj).1
      exact v3 j nm' (by rw [List.getElem?_append_left hl]; exact hj)
    · unfold RuC at ru ⊢
      rw [wn 40 5 (by decide), wn 40 6 (by decide)]
      exact ru
end OPS5

/-! THE CLASS: reading sums and products -/
section CH0
variable {t : Nat → Int32} {n S : Nat} {vs : List (List Int32)} {f : Pf}
theorem gR_live {R : RR} {p c : Nat} {es : Evs} {L : Cd} {b : Nat} (h : gR f S vs R = .inr (p, c, es, L, b)) : ∃ p0 c0 es0 L0 b0 x es1, R = .inr (p0, c0, es0, L0, b0) ∧ f vs p0 c0 = .inr (p, c, es1, x) := by
  rcases R with q | ⟨p0, c0, es0, L0, b0⟩
  · cases h
  · cases hh : f vs p0 c0 with
    | inl q =>
      rw [gR_l hh] at h
      cases h
    | inr y =>
      obtain ⟨p1, c1, es1, x⟩ := y
      rw [gR_r hh] at h
      obtain ⟨rfl, rfl, -, -, -⟩ := rr_inj h
      exact ⟨p0, c0, es0, L0, b0, x, es1, rfl, hh⟩
theorem sgP_up (t : Nat → Int32) (n : Nat) (i : Nat) : sgP t n i ≤ sgP t n (i + 1) := by
  rw [sgP]
  split
  · exact sgP_le t n i
  · by_cases z : sgP t n i < n
    · exact Nat.le_of_lt (nxS_gt z)
    · have := (ty_0 (t := t) (n := n)).mpr z
      omega
theorem sgP_mono (t : Nat → Int32) (n : Nat) {i j : Nat} (h : i ≤ j) : sgP t n i ≤ sgP t n j := by
  induction j with
  | zero =>
    rw [Nat.le_zero.mp h]
    exact Nat.le_refl _
  | succ j ih =>
    by_cases z : i = j + 1
    · rw [z]
      exact Nat.le_refl _
    · exact Nat.le_trans (ih (by omega)) (sgP_up t n j)
theorem sgT_an2 (f0 : Nat) (R : RR) : sgT t n (an2 f0 R) = sgT t n R := by
  rcases R with q | ⟨p, c, es, L, b⟩
  · rfl
  · rfl
theorem sgT_b (R : RR) : sgT t n R ≤ 52 := by
  rcases R with q | ⟨p, c, es, L, b⟩
  · exact Nat.zero_le _
  · exact ty_b
end CH0
section CH1
variable {Z : zT} {d : Nat} {t : Nat → Int32} {n N : Nat} {B : Nat × Nat × Nat × Nat × Nat} {C : Nat × Nat × Nat × Nat} {W : Wld} {w : Int} {S : Nat} {σ0 : Sg} {vs vs0 : List (List Int32)} {R R0 : RR} {σ τ τ0 : Sg} {K : kS} {sub : Pf} {D D0 o : Nat}
theorem CSt.pn {p c : Nat} {es : Evs} {L : Cd} {b : Nat} (h : CSt t n N B C W w S σ0 vs (.inr (p, c, es, L, b)) σ) : p ≤ n := by
  obtain ⟨i, -, -, -, i4⟩ := h.pos
  rw [← i4 p c es L b rfl]
  exact sgP_le t n i
theorem cl_nodeR (h : CSt t n N B C W w S σ0 vs R σ) (h0 : CSt t n N B C W w S σ0 vs0 R0 τ0) (l : LeK 1 R0 R) (g : GD 0 0 R) (k : ∀ τ, CSt t n N B C W w S σ0 vs (an2 (lnR R0) R) τ → K (.inl none) τ) : C_X7_addNode_0 Z (d + 2) σ (σ.i 40 3) (τ0.i 24 3) K := by
  obtain ⟨x, x1, x2, x3⟩ := h0.at
  rw [x2]
  refine cl_node2 h x1 (fun p c es L b q z => ?_) g.cp k
  subst z
  obtain ⟨p0, c0, L0, b0, e0, h0⟩ := l p c L b q
  have := x3 _ _ _ _ _ e0 rfl
  rw [e0]
  exact ⟨this, by show L0.length < _; omega⟩
/-- turns so far -/
def TB (t : Nat → Int32) (n N turn : Nat) (R : RR) : Prop := ∀ p c es L b, R = .inr (p, c, es, L, b) → ∀ i, i ≤ N → sgP t n i = p → turn ≤ i
theorem cl_prodL (hs : ∀ D, D0 ≤ D → FolC t n N B C W w S σ0 sub vs (fun σ K => C_X7_readP_0 Z D σ (Int32.ofNat (o + 1)) K)) (hD : D0 ≤ d + 2) (hb : ∀ vs p c p' c' es x, sub vs p c = .inr (p', c', es, x) → p ≤ p') (h0 : CSt t n N B C W w S σ0 vs R0 τ0) : ∀ m R τ turn, CSt t n N B C W w S σ0 vs R τ → GD 0 (wK w) R → LeK 1 R0 R → (∀ p c es L b, R = .inr (p, c, es, L, b) → 1 ≤ m ∧ n + 1 - p ≤ m) → TB t n N turn R → (∀ υ, CSt t n N B C W w S σ0 vs (lpR t n sub S 11 12 (lnR R0) vs m R) υ → (∀ k, GD 0 k R → GD 0 k (lpR t n sub S 11 12 (lnR R0) vs m R)) → (∀ j R1, LeK j R1 R → LeK j R1 (lpR t n sub S 11 12 (lnR R0) vs m R)) → K (.inl none) υ) → C_X7_readProduct_72 Z (d + 3) τ (Int32.ofNat o) (τ0.i 24 3) (Int32.ofNat turn) K := by
  have no : ∀ m R τ (turn : Nat), CSt t n N B C W w S σ0 vs R τ → ¬ (sgT t n R = 11 ∨ sgT t n R = 12) → (∀ υ, CSt t n N B C W w S σ0 vs (lpR t n sub S 11 12 (lnR R0) vs m R) υ → (∀ k, GD 0 k R → GD 0 k (lpR t n sub S 11 12 (lnR R0) vs m R)) → (∀ j R1, LeK j R1 R → LeK j R1 (lpR t n sub S 11 12 (lnR R0) vs m R)) → K (.inl none) υ) → C_X7_readProduct_72 Z (d + 3) τ (Int32.ofNat o) (τ0.i 24 3) (Int32.ofNat turn) K := fun m R τ turn h z k => by
    have e : lpR t n sub S 11 12 (lnR R0) vs m R = R := by
      cases m with
      | zero => rfl
      | succ m =>
        rw [lpR]
        exact if_neg z
    rw [e] at k
    have tb := sgT_b (t := t) (n := n) R
    have n1 : ¬ Int32.ofNat (sgT t n R) = 11 := fun y => z (Or.inl ((oN_eq (b := 11) (by omega) (by decide)).mp y))
    have n2 : ¬ Int32.ofNat (sgT t n R) = 12 := fun y => z (Or.inr ((oN_eq (b := 12) (by omega) (by decide)).mp y))
    have kk := k τ h (fun _ q => q) (fun _ _ q => q)
    exact T_X7_readProduct_72 h.fx (cl_sign h ⟨fun y => absurd y n1, fun _ => ⟨fun _ => T_X7_readProduct_94 h.fx ⟨fun _ => T_X7_readProduct_19 h.fx ⟨fun _ => kk, fun _ => ⟨fun _ => kk, fun y => absurd rfl y⟩⟩, fun y => absurd rfl y⟩, fun y => absurd y n2⟩⟩)
  intro m
  induction m with
  | zero =>
    intro R τ turn h g l hm ht k
    refine no 0 R τ turn h (fun z => ?_) k
    rcases R with q | ⟨p, c, es, L, b⟩
    · have z : 0 = 11 ∨ 0 = 12 := z
      omega
    · exact absurd (hm p c es L b rfl).1 (by decide)
  | succ m ih =>
    intro R τ turn h g l hm ht k
    by_cases z : sgT t n R = 11 ∨ sgT t n R = 12
    · rcases R with q | ⟨p, c, es, L, b⟩
      · have z : 0 = 11 ∨ 0 = 12 := z
        omega
      · have e : lpR t n sub S 11 12 (lnR R0) vs (m + 1) (.inr (p, c, es, L, b)) = lpR t n sub S 11 12 (lnR R0) vs m (emR (lkO (30 + tyS t n p)) 0 (gR sub S vs (tkR t n (tyS t n p) (an2 (lnR R0) (.inr (p, c, es, L, b)))))) := by
          rw [lpR]
          exact if_pos z
        rw [e] at k
        have z : tyS t n p = 11 ∨ tyS t n p = 12 := z
        obtain ⟨i, i1, i2, i3, i4⟩ := h.pos
        have ei := i4 p c es L b rfl
        have hp : p < n := ty_pos (t := t) (n := n) (by omega)
        have hx := nxS_gt (t := t) hp
        obtain ⟨m1, m2⟩ := hm p c es L b rfl
        have tu := ht p c es L b rfl i i1 ei
        have hE := h.cb.2.2.1.2.2.1
        have iN := (sg_ty hE i1 (by omega)).1
        have nN : N ≤ n ∧ n ≤ 8192 := ⟨h.cb.2.2.1.2.2.2, h.cb.2.2.2.1.1⟩
        -- with the sign taken
        have go : C_X7_readProduct_94 Z (d + 3) τ (Int32.ofNat o) (τ0.i 24 3) (Int32.ofNat (tyS t n p)) (Int32.ofNat turn) 1 K := by
          refine T_X7_readProduct_94 h.fx ⟨fun y => absurd y (by decide), fun _ => cl_nodeR h h0 l (g.w (Nat.le_refl _) (Nat.zero_le _)) (fun τ1 h1 => cl_take (by omega) h1 (fun τ2 h2 => ?_))⟩
          have g2 := gd_tk (t := t) (n := n) (y := tyS t n p) (by omega) (gd_an2 (f := lnR R0) g)
          refine T_X7_readProduct_19 h2.fx ?_
          rw [h2.cb.2.2.1.1, oN_1, oN_le (by omega) (by omega)]
          refine ⟨fun y => absurd y (by omega), fun _ => ⟨fun y => absurd y (by decide), fun _ => ?_⟩⟩
          show C_X7_readP_0 Z (d + 2) _ (Int32.ofNat o + 1) _
          rw [oN_1]
          refine hs (d + 2) hD _ τ2 _ h2 (g2.w (Nat.le_refl _) (by omega)) (fun τ3 h3 l3 => ?_)
          have g3 := l3.1 _ g2
          have ne : ¬ Int32.ofNat (tyS t n p) = -1 := fun y => by
            rcases z with z | z
            · rw [z] at y
              exact absurd y (by decide)
            · rw [z] at y
              exact absurd y (by decide)
          have next : C_X7_readProduct_68 Z (d + 3) τ3 (Int32.ofNat o) (τ0.i 24 3) (Int32.ofNat (turn + 1)) (lkO (30 + tyS t n p)) K := by
            refine T_X7_readProduct_68 h3.fx (cl_emit h3 (fun p c L b e => by have := g3.pl p c L b e; omega) (fun τ4 h4 => ?_))
            have l4 := lk_em (o := lkO (30 + tyS t n p)) (a := 0) (l3.2 _ _ (lk_tk (t := t) (n := n) (y := tyS t n p) (lk_an2 (f := lnR R0) l)))
            have pl : ∀ p4 c4 es4 L4 b4, emR (lkO (30 + tyS t n p)) 0 (gR sub S vs (tkR t n (tyS t n p) (an2 (lnR R0) (.inr (p, c, es, L, b))))) = .inr (p4, c4, es4, L4, b4) → p + 1 ≤ p4 := fun p4 c4 es4 L4 b4 q => by
              obtain ⟨p5, c5, es5, L5, b5, q1, q2⟩ := bd_live q
              obtain ⟨rfl, rfl, rfl, rfl, rfl⟩ := rr_inj q2
              obtain ⟨p6, c6, es6, L6, b6, x6, es7, q3, q4⟩ := gR_live q1
              rw [an2_e, tk_y rfl] at q3
              obtain ⟨rfl, rfl, -, -, -⟩ := rr_inj q3
              have := hb _ _ _ _ _ _ _ q4
              omega
            refine ih _ τ4 (turn + 1) h4 ((gd_em g3).w (Nat.le_refl _) (by omega)) (l4.w (by omega)) (fun p4 c4 es4 L4 b4 q => ?_) (fun p4 c4 es4 L4 b4 q j j1 j2 => ?_) (fun υ hυ gg ll => k υ hυ (fun k q => gg k ?_) (fun j R1 q => ll j R1 ?_))
            · have := pl p4 c4 es4 L4 b4 q
              omega
            · have := pl p4 c4 es4 L4 b4 q
              by_cases y : turn + 1 ≤ j
              · exact y
              · have := sgP_mono t n (show j ≤ i by omega)
                omega
            · exact (gd_em (l3.1 _ (gd_tk (by omega) (gd_an2 q)))).w (Nat.le_refl _) (by omega)
            · exact (lk_em (l3.2 _ R1 (lk_tk (lk_an2 q)))).w (by omega)
          refine ⟨fun y => absurd y ne, fun _ => ⟨fun y => ?_, fun y => ?_⟩⟩
          · rcases z with z | z
            · rw [z] at y
              exact absurd rfl y
            · rw [z] at next
              exact next
          · rcases z with z | z
            · rw [z] at next
              exact next
            · rw [z] at y
              exact absurd y (by decide)
        refine T_X7_readProduct_72 h.fx (cl_sign h ?_)
        show (Int32.ofNat (tyS t n p) = 11 → _) ∧ (¬ Int32.ofNat (tyS t n p) = 11 → _)
        refine ⟨fun _ => T_X7_readProduct_89 h.fx go, fun y => ⟨fun y2 => ?_, fun _ => T_X7_readProduct_89 h.fx go⟩⟩
        rcases z with z | z
        · rw [z] at y
          exact absurd rfl y
        · have y2 : ¬ Int32.ofNat (tyS t n p) = 12 := y2
          rw [z] at y2
          exact absurd rfl y2
    · exact no (m + 1) R τ turn h z k
theorem cl_prod (hs : ∀ D, D0 ≤ D → FolC t n N B C W w S σ0 sub vs (fun σ K => C_X7_readP_0 Z D σ (Int32.ofNat (o + 1)) K)) (hD : D0 + 3 ≤ D) (hb : ∀ vs p c p' c' es x, sub vs p c = .inr (p', c', es, x) → p ≤ p') : FolC t n N B C W w S σ0 (pCh t n sub 11 12) vs (fun σ K => C_X7_readProduct_0 Z D σ (Int32.ofNat o) K) := by
  intro R σ K h g k
  obtain ⟨d, rfl⟩ : ∃ d, D = d + 3 := ⟨D - 3, by omega⟩
  have nN : N ≤ n ∧ n ≤ 8192 := ⟨h.cb.2.2.1.2.2.2, h.cb.2.2.2.1.1⟩
  refine T_X7_readProduct_0 h.fx (T_X7_readProduct_19 h.fx ?_)
  rw [h.cb.2.2.1.1, show (0 : Int32) = Int32.ofNat 0 from rfl, oN_le (by omega) (by decide)]
  refine ⟨fun y => absurd y (by omega), fun _ => ⟨fun y => absurd y (by decide), fun _ => ?_⟩⟩
  show C_X7_readP_0 Z (d + 2) _ (Int32.ofNat o + 1) _
  rw [oN_1]
  refine hs (d + 2) (by omega) R σ _ h g (fun τ1 h1 l1 => ⟨fun _ => ?_, fun y => absurd rfl y⟩)
  have tz : TB t n N 0 (gR sub S vs R) := fun _ _ _ _ _ _ i _ _ => Nat.zero_le i
  have g1 := l1.1 _ g
  have k1 := l1.2 _ _ (LeK.refl R)
  rcases R with q | ⟨p, c, es, L, b⟩
  · refine cl_prodL hs (by omega) hb h 0 _ τ1 0 h1 (g1.w (Nat.le_refl _) (by omega)) k1 (fun p c es L b e => by cases e) tz (fun υ hυ gg ll => k υ ?_ ?_)
    · rw [show gR sub S vs (.inl q) = .inl q from rfl, lp_dead (by decide) (by decide)] at hυ
      exact hυ
    · exact ⟨fun k _ p c es L b e => (by cases e), fun j R0 _ p c L b e => (by cases e)⟩
  · have fu : ∃ m, (∀ p1 c1 es1 x, sub vs p c = .inr (p1, c1, es1, x) → m = n + 1 - p1 ∧ p1 ≤ n) ∧ ∀ p1 c1 es1 L1 b1, gR sub S vs (.inr (p, c, es, L, b)) = .inr (p1, c1, es1, L1, b1) → 1 ≤ m ∧ n + 1 - p1 ≤ m := by
      cases hh : sub vs p c with
      | inl q => exact ⟨0, fun _ _ _ _ y => by (cases y), fun _ _ _ _ _ y => by rw [gR_l hh] at y; cases y⟩
      | inr y =>
        obtain ⟨p1, c1, es1, x⟩ := y
        rw [gR_r hh] at h1
        have pn := h1.pn
        refine ⟨n + 1 - p1, fun p2 c2 es2 x2 y => ?_, fun p2 c2 es2 L2 b2 y => ?_⟩
        · cases y
          exact ⟨rfl, pn⟩
        · rw [gR_r hh] at y
          obtain ⟨rfl, -, -, -, -⟩ := rr_inj y
          omega
    obtain ⟨m, f1, f2⟩ := fu
    have eq := ch_pure (t := t) (n := n) (sub := sub) (S := S) (s1 := 11) (s2 := 12) (vs := vs) (L := L) (b := b) (p := p) (c := c) (es := es) (m := m) (by decide) (by decide) hb f1
    refine cl_prodL hs (by omega) hb h m _ τ1 0 h1 (g1.w (Nat.le_refl _) (by omega)) k1 f2 tz (fun υ hυ gg ll => ?_)
    rw [ln_e, eq] at hυ gg ll
    exact k υ hυ ⟨fun k q => gg _ (l1.1 _ q), fun j R0 q => ll _ R0 (l1.2 _ R0 q)⟩
theorem cl_sumL (hs : ∀ D, D0 ≤ D → FolC t n N B C W w S σ0 sub vs (fun σ K => C_X7_readProduct_0 Z D σ (Int32.ofNat o) K)) (hD : D0 ≤ d + 2) (hb : ∀ vs p c p' c' es x, sub vs p c = .inr (p', c', es, x) → p ≤ p') (h0 : CSt t n N B C W w S σ0 vs R0 τ0) : ∀ m R τ turn, CSt t n N B C W w S σ0 vs R τ → GD 0 (wK w) R → LeK 1 R0 R → (∀ p c es L b, R = .inr (p, c, es, L, b) → 1 ≤ m ∧ n + 1 - p ≤ m) → TB t n N turn R → (∀ υ, CSt t n N B C W w S σ0 vs (lpR t n sub S 9 10 (lnR R0) vs m R) υ → (∀ k, GD 0 k R → GD 0 k (lpR t n sub S 9 10 (lnR R0) vs m R)) → (∀ j R1, LeK j R1 R → LeK j R1 (lpR t n sub S 9 10 (lnR R0) vs m R)) → K (.inl none) υ) → C_X7_readSum_69 Z (d + 3) τ (Int32.ofNat o) (τ0.i 24 3) (Int32.ofNat turn) K := by
  have no : ∀ m R τ (turn : Nat), CSt t n N B C W w S σ0 vs R τ → ¬ (sgT t n R = 9 ∨ sgT t n R = 10) → (∀ υ, CSt t n N B C W w S σ0 vs (lpR t n sub S 9 10 (lnR R0) vs m R) υ → (∀ k, GD 0 k R → GD 0 k (lpR t n sub S 9 10 (lnR R0) vs m R)) → (∀ j R1, LeK j R1 R → LeK j R1 (lpR t n sub S 9 10 (lnR R0) vs m R)) → K (.inl none) υ) → C_X7_readSum_69 Z (d + 3) τ (Int32.ofNat o) (τ0.i 24 3) (Int32.ofNat turn) K := fun m R τ turn h z k => by
    have e : lpR t n sub S 9 10 (lnR R0) vs m R = R := by
      cases m with
      | zero => rfl
      | succ m =>
        rw [lpR]
        exact if_neg z
    rw [e] at k
    have tb := sgT_b (t := t) (n := n) R
    have n1 : ¬ Int32.ofNat (sgT t n R) = 9 := fun y => z (Or.inl ((oN_eq (b := 9) (by omega) (by decide)).mp y))
    have n2 : ¬ Int32.ofNat (sgT t n R) = 10 := fun y => z (Or.inr ((oN_eq (b := 10) (by omega) (by decide)).mp y))
    have kk := k τ h (fun _ q => q) (fun _ _ q => q)
    exact T_X7_readSum_69 h.fx (cl_sign h ⟨fun y => absurd y n1, fun _ => ⟨fun _ => T_X7_readSum_91 h.fx ⟨fun _ => T_X7_readSum_19 h.fx ⟨fun _ => kk, fun _ => ⟨fun _ => kk, fun y => absurd rfl y⟩⟩, fun y => absurd rfl y⟩, fun y => absurd y n2⟩⟩)
  intro m
  induction m with
  | zero =>
    intro R τ turn h g l hm ht k
    refine no 0 R τ turn h (fun z => ?_) k
    rcases R with q | ⟨p, c, es, L, b⟩
    · have z : 0 = 9 ∨ 0 = 10 := z
      omega
    · exact absurd (hm p c es L b rfl).1 (by decide)
  | succ m ih =>
    intro R τ turn h g l hm ht k
    by_cases z : sgT t n R = 9 ∨ sgT t n R = 10
    · rcases R with q | ⟨p, c, es, L, b⟩
      · have z : 0 = 9 ∨ 0 = 10 := z
        omega
      · have e : lpR t n sub S 9 10 (lnR R0) vs (m + 1) (.inr (p, c, es, L, b)) = lpR t n sub S 9 10 (lnR R0) vs m (emR (lkO (30 + tyS t n p)) 0 (gR sub S vs (tkR t n (tyS t n p) (an2 (lnR R0) (.inr (p, c, es, L, b)))))) := by
          rw [lpR]
          exact if_pos z
        rw [e] at k
        have z : tyS t n p = 9 ∨ tyS t n p = 10 := z
        obtain ⟨i, i1, i2, i3, i4⟩ := h.pos
        have ei := i4 p c es L b rfl
        have hp : p < n := ty_pos (t := t) (n := n) (by omega)
        have hx := nxS_gt (t := t) hp
        obtain ⟨m1, m2⟩ := hm p c es L b rfl
        have tu := ht p c es L b rfl i i1 ei
        have hE := h.cb.2.2.1.2.2.1
        have iN := (sg_ty hE i1 (by omega)).1
        have nN : N ≤ n ∧ n ≤ 8192 := ⟨h.cb.2.2.1.2.2.2, h.cb.2.2.2.1.1⟩
        -- with the sign taken
        have go : C_X7_readSum_91 Z (d + 3) τ (Int32.ofNat o) (τ0.i 24 3) (Int32.ofNat (tyS t n p)) (Int32.ofNat turn) 1 K := by
          refine T_X7_readSum_91 h.fx ⟨fun y => absurd y (by decide), fun _ => cl_nodeR h h0 l (g.w (Nat.le_refl _) (Nat.zero_le _)) (fun τ1 h1 => cl_take (by omega) h1 (fun τ2 h2 => ?_))⟩
          have g2 := gd_tk (t := t) (n := n) (y := tyS t n p) (by omega) (gd_an2 (f := lnR R0) g)
          refine T_X7_readSum_19 h2.fx ?_
          rw [h2.cb.2.2.1.1, oN_1, oN_le (by omega) (by omega)]
          refine ⟨fun y => absurd y (by omega), fun _ => ⟨fun y => absurd y (by decide), fun _ => ?_⟩⟩
          refine hs (d + 2) hD _ τ2 _ h2 (g2.w (Nat.le_refl _) (by omega)) (fun τ3 h3 l3 => ?_)
          have g3 := l3.1 _ g2
          have ne : ¬ Int32.ofNat (tyS t n p) = -1 := fun y => by
            rcases z with z | z
            · rw [z] at y
              exact absurd y (by decide)
            · rw [z] at y
              exact absurd y (by decide)
          have next : C_X7_readSum_65 Z (d + 3) τ3 (Int32.ofNat o) (τ0.i 24 3) (Int32.ofNat (turn + 1)) (lkO (30 + tyS t n p)) K := by
            refine T_X7_readSum_65 h3.fx (cl_emit h3 (fun p c L b e => by have := g3.pl p c L b e; omega) (fun τ4 h4 => ?_))
            have l4 := lk_em (o := lkO (30 + tyS t n p)) (a := 0) (l3.2 _ _ (lk_tk (t := t) (n := n) (y := tyS t n p) (lk_an2 (f := lnR R0) l)))
            have pl : ∀ p4 c4 es4 L4 b4, emR (lkO (30 + tyS t n p)) 0 (gR sub S vs (tkR t n (tyS t n p) (an2 (lnR R0) (.inr (p, c, es, L, b))))) = .inr (p4, c4, es4, L4, b4) → p + 1 ≤ p4 := fun p4 c4 es4 L4 b4 q => by
              obtain ⟨p5, c5, es5, L5, b5, q1, q2⟩ := bd_live q
              obtain ⟨rfl, rfl, rfl, rfl, rfl⟩ := rr_inj q2
              obtain ⟨p6, c6, es6, L6, b6, x6, es7, q3, q4⟩ := gR_live q1
              rw [an2_e, tk_y rfl] at q3
              obtain ⟨rfl, rfl, -, -, -⟩ := rr_inj q3
              have := hb _ _ _ _ _ _ _ q4
              omega
            refine ih _ τ4 (turn + 1) h4 ((gd_em g3).w (Nat.le_refl _) (by omega)) (l4.w (by omega)) (fun p4 c4 es4 L4 b4 q => ?_) (fun p4 c4 es4 L4 b4 q j j1 j2 => ?_) (fun υ hυ gg ll => k υ hυ (fun k q => gg k ?_) (fun j R1 q => ll j R1 ?_))
            · have := pl p4 c4 es4 L4 b4 q
              omega
            · have := pl p4 c4 es4 L4 b4 q
              by_cases y : turn + 1 ≤ j
              · exact y
              · have := sgP_mono t n (show j ≤ i by omega)
                omega
            · exact (gd_em (l3.1 _ (gd_tk (by omega) (gd_an2 q)))).w (Nat.le_refl _) (by omega)
            · exact (lk_em (l3.2 _ R1 (lk_tk (lk_an2 q)))).w (by omega)
          refine ⟨fun y => absurd y ne, fun _ => ⟨fun y => ?_, fun y => ?_⟩⟩
          · rcases z with z | z
            · rw [z] at y
              exact absurd rfl y
            · rw [z] at next
              exact next
          · rcases z with z | z
            · rw [z] at next
              exact next
            · rw [z] at y
              exact absurd y (by decide)
        refine T_X7_readSum_69 h.fx (cl_sign h ?_)
        show (Int32.ofNat (tyS t n p) = 9 → _) ∧ (¬ Int32.ofNat (tyS t n p) = 9 → _)
        refine ⟨fun _ => T_X7_readSum_86 h.fx go, fun y => ⟨fun y2 => ?_, fun _ => T_X7_readSum_86 h.fx go⟩⟩
        rcases z with z | z
        · rw [z] at y
          exact absurd rfl y
        · have y2 : ¬ Int32.ofNat (tyS t n p) = 10 := y2
          rw [z] at y2
          exact absurd rfl y2
    · exact no (m + 1) R τ turn h z k
theorem cl_sum (hs : ∀ D, D0 ≤ D → FolC t n N B C W w S σ0 sub vs (fun σ K => C_X7_readProduct_0 Z D σ (Int32.ofNat o) K)) (hD : D0 + 3 ≤ D) (hb : ∀ vs p c p' c' es x, sub vs p c = .inr (p', c', es, x) → p ≤ p') : FolC t n N B C W w S σ0 (pCh t n sub 9 10) vs (fun σ K => C_X7_readSum_0 Z D σ (Int32.ofNat o) K) := by
  intro R σ K h g k
  obtain ⟨d, rfl⟩ : ∃ d, D = d + 3 := ⟨D - 3, by omega⟩
  have nN : N ≤ n ∧ n ≤ 8192 := ⟨h.cb.2.2.1.2.2.2, h.cb.2.2.2.1.1⟩
  refine T_X7_readSum_0 h.fx (T_X7_readSum_19 h.fx ?_)
  rw [h.cb.2.2.1.1, show (0 : Int32) = Int32.ofNat 0 from rfl, oN_le (by omega) (by decide)]
  refine ⟨fun y => absurd y (by omega), fun _ => ⟨fun y => absurd y (by decide), fun _ => ?_⟩⟩
  refine hs (d + 2) (by omega) R σ _ h g (fun τ1 h1 l1 => ⟨fun _ => ?_, fun y => absurd rfl y⟩)
  have tz : TB t n N 0 (gR sub S vs R) := fun _ _ _ _ _ _ i _ _ => Nat.zero_le i
  have g1 := l1.1 _ g
  have k1 := l1.2 _ _ (LeK.refl R)
  rcases R with q | ⟨p, c, es, L, b⟩
  · refine cl_sumL hs (by omega) hb h 0 _ τ1 0 h1 (g1.w (Nat.le_refl _) (by omega)) k1 (fun p c es L b e => by cases e) tz (fun υ hυ gg ll => k υ ?_ ?_)
    · rw [show gR sub S vs (.inl q) = .inl q from rfl, lp_dead (by decide) (by decide)] at hυ
      exact hυ
    · exact ⟨fun k _ p c es L b e => (by cases e), fun j R0 _ p c L b e => (by cases e)⟩
  · have fu : ∃ m, (∀ p1 c1 es1 x, sub vs p c = .inr (p1, c1, es1, x) → m = n + 1 - p1 ∧ p1 ≤ n) ∧ ∀ p1 c1 es1 L1 b1, gR sub S vs (.inr (p, c, es, L, b)) = .inr (p1, c1, es1, L1, b1) → 1 ≤ m ∧ n + 1 - p1 ≤ m := by
      cases hh : sub vs p c with
      | inl q => exact ⟨0, fun _ _ _ _ y => by (cases y), fun _ _ _ _ _ y => by rw [gR_l hh] at y; cases y⟩
      | inr y =>
        obtain ⟨p1, c1, es1, x⟩ := y
        rw [gR_r hh] at h1
        have pn := h1.pn
        refine ⟨n + 1 - p1, fun p2 c2 es2 x2 y => ?_, fun p2 c2 es2 L2 b2 y => ?_⟩
        · cases y
          exact ⟨rfl, pn⟩
        · rw [gR_r hh] at y
          obtain ⟨rfl, -, -, -, -⟩ := rr_inj y
          omega
    obtain ⟨m, f1, f2⟩ := fu
    have eq := ch_pure (t := t) (n := n) (sub := sub) (S := S) (s1 := 9) (s2 := 10) (vs := vs) (L := L) (b := b) (p := p) (c := c) (es := es) (m := m) (by decide) (by decide) hb f1
    refine cl_sumL hs (by omega) hb h m _ τ1 0 h1 (g1.w (Nat.le_refl _) (by omega)) k1 f2 tz (fun υ hυ gg ll => ?_)
    rw [ln_e, eq] at hυ gg ll
    exact k υ hυ ⟨fun k q => gg _ (l1.1 _ q), fun j R0 q => ll _ R0 (l1.2 _ R0 q)⟩
end CH1

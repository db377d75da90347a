/-! THE CLASS: reading arguments -/
section AG0
variable (t : Nat → Int32) (n : Nat)
/-- a rule broken where it stands -/
def evP (r : Nat) (R : RR) : RR := bdR R fun p c es L b => .inr (p, c, es ++ [(p, r)], L, b)
def agR (e : Pf) (S most : Nat) (vs : List (List Int32)) : Nat → Nat → RR → RR
  | 0, _, R => R
  | m + 1, k, R => if sgT t n (gR e S vs (if 0 < most ∧ k = most then evP 4 R else R)) = 6 then agR e S most vs m (k + 1) (tkR t n 6 (gR e S vs (if 0 < most ∧ k = most then evP 4 R else R)))
    else tkR t n 5 (if 0 < most ∧ k + 1 < most then evP 4 (gR e S vs (if 0 < most ∧ k = most then evP 4 R else R)) else gR e S vs (if 0 < most ∧ k = most then evP 4 R else R))
/-- code of arguments behind code -/
def agS (S : Nat) (q : Cd × Nat) (x : Ast) : Cd × Nat := (q.1 ++ cdB x false (S + q.1.length) q.2, 0)
end AG0
section AG1
variable {t : Nat → Int32} {n S most : Nat} {e : Pf} {vs : List (List Int32)} {es0 : Evs}
theorem evP_if {c0 : Prop} [Decidable c0] {p c : Nat} {es : Evs} {L : Cd} {b r : Nat} : (if c0 then evP r (.inr (p, c, es, L, b)) else .inr (p, c, es, L, b) : RR) = .inr (p, c, es ++ (if c0 then [(p, r)] else []), L, b) := by
  by_cases z : c0
  · rw [if_pos z, if_pos z]
    rfl
  · rw [if_neg z, if_neg z, List.append_nil]
theorem evD_if {c0 : Prop} [Decidable c0] {q r : Nat} : (if c0 then evP r (.inl q) else .inl q : RR) = .inl q := by
  by_cases z : c0
  · rw [if_pos z]
    rfl
  · rw [if_neg z]
theorem ag_pure (hb : ∀ vs p c p' c' es x, e vs p c = .inr (p', c', es, x) → p ≤ p') (L : Cd) (b : Nat) : ∀ m p c es l, 1 ≤ m → n + 1 - p ≤ m → 2 ≤ tyS t n p → agR t n e S most vs m l.length (.inr (nxS t n p, c, es0 ++ es, (l.foldl (agS S) (L, b)).1, (l.foldl (agS S) (L, b)).2)) = match pAr t n e most vs m p c es l with
    | .inl q => .inl q
    | .inr (p2, c2, es2, l2) => .inr (p2, c2, es0 ++ es2, (l2.foldl (agS S) (L, b)).1, (l2.foldl (agS S) (L, b)).2)
  | 0, p, c, es, l, hm, _, _ => absurd hm (by decide)
  | m + 1, p, c, es, l, _, hm, hp => by
    have hp' := ty_pos (t := t) (n := n) hp
    have hx := nxS_gt (t := t) hp'
    rw [agR, pAr, evP_if]
    cases hh : e vs (nxS t n p) c with
    | inl q =>
      rw [gR_l hh, if_neg (show ¬ sgT t n (.inl q) = 6 from by show ¬ 0 = 6; decide), evD_if]
      rfl
    | inr y =>
      obtain ⟨p2, c2, es2, x⟩ := y
      have hle := hb _ _ _ _ _ _ _ hh
      have ef : (l ++ [x]).foldl (agS S) (L, b) = agS S (l.foldl (agS S) (L, b)) x := by
        rw [List.foldl_append]
        rfl
      rw [gR_r hh]
      show (if tyS t n p2 = 6 then _ else _) = _
      by_cases z : tyS t n p2 = 6
      · rw [if_pos z]
        dsimp only
        rw [if_pos z, tk_y z]
        have := ag_pure hb L b m p2 c2 (es ++ (if 0 < most ∧ l.length = most then [(nxS t n p, 4)] else []) ++ es2) (l ++ [x]) (by omega) (by omega) (by omega)
        rw [ef, List.length_append] at this
        rw [← List.append_assoc, ← List.append_assoc] at this
        exact this
      · rw [if_neg z]
        dsimp only
        rw [if_neg z, evP_if]
        by_cases z5 : tyS t n p2 = 5
        · rw [if_pos z5, tk_y z5]
          dsimp only
          rw [ef]
          simp only [List.append_assoc]
          rfl
        · rw [if_neg z5, tk_n z5]
theorem gd_evP {q k r : Nat} {R : RR} (h : GD q k R) : GD q k (evP r R) := fun p c es L b e => by
  obtain ⟨p1, c1, es1, L1, b1, e1, e2⟩ := bd_live e
  obtain ⟨rfl, rfl, rfl, rfl, rfl⟩ := rr_inj e2
  obtain ⟨h1, h2⟩ := h _ _ _ _ _ e1
  exact ⟨h1, fun z => h2 (List.append_eq_nil_iff.mp z).1⟩
theorem lk_evP {j r : Nat} {R R0 : RR} (h : LeK j R0 R) : LeK j R0 (evP r R) := fun p c L b e => by
  obtain ⟨p1, c1, es1, L1, b1, e1, e2⟩ := bd_live e
  obtain ⟨rfl, rfl, e3, rfl, rfl⟩ := rr_inj e2
  have := (List.append_eq_nil_iff.mp e3).1
  subst this
  exact h _ _ _ _ e1
theorem gd_evI {c0 : Prop} [Decidable c0] {q k r : Nat} {R : RR} (h : GD q k R) : GD q k (if c0 then evP r R else R) := by
  by_cases z : c0
  · rw [if_pos z]
    exact gd_evP h
  · rw [if_neg z]
    exact h
theorem lk_evI {c0 : Prop} [Decidable c0] {j r : Nat} {R R0 : RR} (h : LeK j R0 R) : LeK j R0 (if c0 then evP r R else R) := by
  by_cases z : c0
  · rw [if_pos z]
    exact lk_evP h
  · rw [if_neg z]
    exact h
end AG1
section AG2
variable {Z : zT} {d : Nat} {t : Nat → Int32} {n N : Nat} {B : Nat × Nat × Nat × Nat × Nat} {C : Nat × Nat × Nat × Nat} {W : Wld} {w : Int} {S : Nat} {σ0 : Sg} {vs : List (List Int32)} {R : RR} {σ τ : Sg} {K : kS} {e : Pf} {D D0 o most : Nat}
theorem cl_breakP {rule : Nat} (h : CSt t n N B C W w S σ0 vs R σ) (hr : 1 ≤ rule ∧ rule ≤ 7) (k : ∀ τ, CSt t n N B C W w S σ0 vs (evP rule R) τ → K (.inl none) τ) : C_X7_breakRule_0 Z (d + 1) σ (Int32.ofNat rule) (σ.i 40 3) K := by
  obtain ⟨i, i1, i2, i3, i4⟩ := h.pos
  rw [i2]
  refine cl_break h i1 hr (fun τ hτ => k τ ?_)
  rcases R with q | ⟨p, c, es, L, b⟩
  · exact hτ
  · rw [i4 p c es L b rfl] at hτ
    exact hτ
/-- so many are wanted -/
def wnI (most : Nat) : Int32 := if most = 0 then -1 else Int32.ofNat most
theorem wn_eq {k : Nat} (hk : k < 100000) (hm : most ≤ 3) : Int32.ofNat k = wnI most ↔ 0 < most ∧ k = most := by
  unfold wnI
  by_cases z : most = 0
  · rw [if_pos z]
    refine ⟨fun y => ?_, fun y => absurd y.1 (by omega)⟩
    have := congrArg Int32.toInt y
    rw [oN_i (by omega)] at this
    have : (k : Int) = -1 := this
    omega
  · rw [if_neg z, oN_eq (by omega) (by omega)]
    omega
theorem wn_le {k : Nat} (hk : k < 100000) (hm : most ≤ 3) : wnI most ≤ Int32.ofNat k ↔ ¬ (0 < most ∧ k < most) := by
  unfold wnI
  by_cases z : most = 0
  · rw [if_pos z, Int32.le_iff_toInt_le, oN_i (by omega)]
    show (-1 : Int) ≤ (k : Int) ↔ _
    omega
  · rw [if_neg z, oN_le (by omega) (by omega)]
    omega
/-- behind the last -/
theorem cl_ag85 {k : Nat} (hk : k < 100000) (hm : most ≤ 3) (h : CSt t n N B C W w S σ0 vs R σ) (kk : ∀ τ, CSt t n N B C W w S σ0 vs (tkR t n 5 (if 0 < most ∧ k < most then evP 4 R else R)) τ → K (.inl none) τ) : C_X7_readArguments_85 Z (d + 2) σ (wnI most) (Int32.ofNat k) K := by
  refine T_X7_readArguments_85 h.fx ?_
  rw [wn_le hk hm]
  refine ⟨fun z => ?_, fun z => ?_⟩
  · rw [if_neg z] at kk
    exact cl_take (y := 5) (by decide) h kk
  · have z : 0 < most ∧ k < most := Decidable.not_not.mp z
    rw [if_pos z] at kk
    exact cl_breakP (rule := 4) h (by decide) (fun τ1 h1 => cl_take (y := 5) (by decide) h1 kk)
theorem cl_agL (he : ∀ D, D0 ≤ D → FolC t n N B C W w S σ0 e vs (fun σ K => C_X7_readE_0 Z D σ (Int32.ofNat (o + 1)) K)) (hD : D0 ≤ d + 2) (hb : ∀ vs p c p' c' es x, e vs p c = .inr (p', c', es, x) → p ≤ p') (hm : most ≤ 3) : ∀ m R σ k, CSt t n N B C W w S σ0 vs R σ → GD 0 (wK w) R → k ≤ N → (∀ p c es L b, R = .inr (p, c, es, L, b) → 1 ≤ m ∧ n + 2 - p ≤ m) → 1 ≤ m → TB t n N k R → (∀ υ, CSt t n N B C W w S σ0 vs (agR t n e S most vs m k R) υ → (∀ k', GD 0 k' R → GD 0 (k' + 2) (agR t n e S most vs m k R)) → (∀ j R1, LeK j R1 R → LeK (j + 1) R1 (agR t n e S most vs m k R)) → K (.inl none) υ) → C_X7_readArguments_13 Z (d + 3) σ (wnI most) (Int32.ofNat o) 1 (Int32.ofNat k) (Int32.ofNat k) K := by
  intro m
  induction m with
  | zero =>
    intro R σ k h g hk hl h1
    exact absurd h1 (by decide)
  | succ m ih =>
    intro R σ k h g hk hl h1 ht kk
    have nN : N ≤ n ∧ n ≤ 8192 := ⟨h.cb.2.2.1.2.2.2, h.cb.2.2.2.1.1⟩
    -- one argument
    have go : ∀ τ, CSt t n N B C W w S σ0 vs (if 0 < most ∧ k = most then evP 4 R else R) τ → C_X7_readArguments_44 Z (d + 3) τ (wnI most) (Int32.ofNat o) (Int32.ofNat k) (Int32.ofNat k) K := fun τ hτ => by
      refine T_X7_readArguments_44 hτ.fx ?_
      rw [oN_1]
      have g1 : GD 0 (wK w) (if 0 < most ∧ k = most then evP 4 R else R) := gd_evI g
      refine he (d + 2) hD _ τ _ hτ g1 (fun τ2 h2 l2 => cl_sign h2 ?_)
      have tb := sgT_b (t := t) (n := n) (gR e S vs (if 0 < most ∧ k = most then evP 4 R else R))
      have e6 : Int32.ofNat (sgT t n (gR e S vs (if 0 < most ∧ k = most then evP 4 R else R))) = 6 ↔ sgT t n (gR e S vs (if 0 < most ∧ k = most then evP 4 R else R)) = 6 := oN_eq (b := 6) (by omega) (by decide)
      refine ⟨fun z => ⟨fun _ => ?_, fun y => absurd rfl y⟩, fun z => ⟨fun y => absurd y (by decide), fun _ => cl_take (y := 6) (by decide) h2 (fun τ3 h3 => ?_)⟩⟩
      · have z := fun y => z (e6.mpr y)
        have ea : agR t n e S most vs (m + 1) k R = tkR t n 5 (if 0 < most ∧ k + 1 < most then evP 4 (gR e S vs (if 0 < most ∧ k = most then evP 4 R else R)) else gR e S vs (if 0 < most ∧ k = most then evP 4 R else R)) := by
          rw [agR]
          exact if_neg z
        rw [ea] at kk
        have fin : C_X7_readArguments_85 Z (d + 3) τ2 (wnI most) (Int32.ofNat (k + 1)) K := cl_ag85 (by omega) hm h2 (fun υ hυ => kk υ hυ (fun k' q => gd_tk (by decide) ((gd_evI (l2.1 _ (gd_evI q))).w (Nat.zero_le _) (Nat.le_refl _))) (fun j R1 q => lk_tk (lk_evI (l2.2 _ R1 (lk_evI q)))))
        refine T_X7_readArguments_13 h2.fx ?_
        rw [oN_1]
        exact ⟨fun _ => fin, fun _ => ⟨fun _ => fin, fun y => absurd rfl y⟩⟩
      · have z := e6.mp z
        have ea : agR t n e S most vs (m + 1) k R = agR t n e S most vs m (k + 1) (tkR t n 6 (gR e S vs (if 0 < most ∧ k = most then evP 4 R else R))) := by
          rw [agR]
          exact if_pos z
        rw [ea] at kk
        have g3 := gd_tk (t := t) (n := n) (y := 6) (by decide) ((l2.1 _ g1).w (Nat.zero_le _) (Nat.le_refl _))
        -- R is live
        rcases R with q | ⟨p, c, es, L, b⟩
        · exfalso
          rw [evD_if] at z
          have z : 0 = 6 := z
          omega
        · rw [evP_if] at z
          cases hh : e vs p c with
          | inl q =>
            rw [gR_l hh] at z
            have z : 0 = 6 := z
            omega
          | inr y =>
            obtain ⟨p2, c2, es2, x⟩ := y
            have hle := hb _ _ _ _ _ _ _ hh
            rw [gR_r hh] at z
            have z : tyS t n p2 = 6 := z
            have hp2 : p2 < n := ty_pos (t := t) (n := n) (by omega)
            have hx := nxS_gt (t := t) hp2
            obtain ⟨m1, m2⟩ := hl p c es L b rfl
            obtain ⟨i, i1, i2, i3, i4⟩ := h.pos
            have ei := i4 p c es L b rfl
            have tu := ht p c es L b rfl i i1 ei
            obtain ⟨i', i1', i2', i3', i4'⟩ := h3.pos
            have eR : tkR t n 6 (gR e S vs (if 0 < most ∧ k = most then evP 4 (.inr (p, c, es, L, b)) else .inr (p, c, es, L, b))) = .inr (nxS t n p2, c2, es ++ (if 0 < most ∧ k = most then [(p, 4)] else []) ++ es2, L ++ cdB x false (S + L.length) b, 0) := by
              rw [evP_if, gR_r hh, tk_y z]
            have up : ∀ j, j ≤ N → sgP t n j = nxS t n p2 → k + 1 ≤ j := fun j j1 j2 => by
              by_cases y : k + 1 ≤ j
              · exact y
              · have := sgP_mono t n (show j ≤ i by omega)
                omega
            have kN : k + 1 ≤ N := Nat.le_trans (up i' i1' (i4' _ _ _ _ _ eR)) i1'
            have := ih _ τ3 (k + 1) h3 (g3.w (Nat.le_refl _) (by omega)) kN (fun p4 c4 es4 L4 b4 q => by
              rw [eR] at q
              obtain ⟨rfl, -, -, -, -⟩ := rr_inj q
              omega) (by omega) (fun p4 c4 es4 L4 b4 q j j1 j2 => by
              rw [eR] at q
              obtain ⟨rfl, -, -, -, -⟩ := rr_inj q
              exact up j j1 j2) (fun υ hυ gg ll => kk υ hυ (fun k' q => (gg _ (gd_tk (by decide) ((l2.1 _ (gd_evI q)).w (Nat.zero_le _) (Nat.le_refl _)))).w (Nat.le_refl _) (by omega)) (fun j R1 q => (ll _ R1 (lk_tk (l2.2 _ R1 (lk_evI q)))).w (by omega)))
            rw [oN_1]
            exact this
    refine T_X7_readArguments_13 h.fx ?_
    rw [h.cb.2.2.1.1, oN_le (by omega) (by omega), wn_eq (by omega) hm]
    refine ⟨fun y => absurd y (by omega), fun _ => ⟨fun y => absurd y (by decide), fun _ => ⟨fun z => go σ ?_, fun z => cl_breakP (rule := 4) h (by decide) (fun τ hτ => go τ ?_)⟩⟩⟩
    · rw [if_neg z]
      exact h
    · rw [if_pos z]
      exact hτ
end AG2

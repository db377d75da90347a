/-! THE CLASS: reading; nodes -/
section OPS3
variable {Z : zT} {d : Nat} {t : Nat → Int32} {n N : Nat} {B : Nat × Nat × Nat × Nat × Nat} {C : Nat × Nat × Nat × Nat} {W : Wld} {w : Int} {S : Nat} {σ0 : Sg} {vs : List (List Int32)} {R : RR} {σ τ : Sg} {K : kS}
/-- code at x0 begins one node more -/
theorem CSt.bg {x0 : Nat} {u : Cd → Nat → Cd × Nat} (h : CSt t n N B C W w S σ0 vs R σ) (hx : x0 ≤ 901) (hu : ∀ p c es L b, R = .inr (p, c, es, L, b) → es = [] → (u L b).1.length = L.length ∧ ∀ σ, CdS S C.2.1 C.2.2.1 C.2.2.2 L b σ → CdS S C.2.1 C.2.2.1 C.2.2.2 (u L b).1 (u L b).2 (σ.wi C.2.2.2 (S + x0) (σ.i C.2.2.2 (S + x0) + 1))) : CSt t n N B C W w S σ0 vs (bdR R fun p c es L b => .inr (p, c, es, (u L b).1, (u L b).2)) (σ.wi C.2.2.2 (S + x0) (σ.i C.2.2.2 (S + x0) + 1)) := by
  have g : RdF S C.2.1 C.2.2.1 C.2.2.2 σ (σ.wi C.2.2.2 (S + x0) (σ.i C.2.2.2 (S + x0) + 1)) := RdF.wi (by unfold rdI; omega)
  have cb := h.cb
  obtain ⟨-, -, -, -, y0, y1, y2, -⟩ := cb.2.2.2.2.1
  have wn : ∀ a k, a < 100 → a ≠ 27 → (σ.wi C.2.2.2 (S + x0) (σ.i C.2.2.2 (S + x0) + 1)).i a k = σ.i a k := fun a k q1 q2 => wi_ne (by omega)
  rcases R with q | ⟨p, c, es, L, b⟩
  · obtain ⟨-, ⟨h3, h4, h5⟩, ⟨x, x1, x2⟩, h6, h7⟩ := h
    exact ⟨cb.rd g, ⟨(wn 40 3 (by decide) (by decide)).trans h3, (wn 40 4 (by decide) (by decide)).trans h4, h5⟩, ⟨x, x1, (wn 24 3 (by decide) (by decide)).trans x2⟩, (wn 28 3 (by decide) (by decide)).trans h6, h7⟩
  · obtain ⟨-, ⟨⟨i, i1, i2, i3⟩, h4⟩, ⟨x, x1, x2, x3⟩, ⟨v1, v2, v3⟩, ⟨c1, c2, c3⟩, ru, hev⟩ := h
    refine ⟨cb.rd g, ⟨⟨i, i1, (wn 40 3 (by decide) (by decide)).trans i2, i3⟩, (wn 40 4 (by decide) (by decide)).trans h4⟩, ⟨x, x1, (wn 24 3 (by decide) (by decide)).trans x2, fun z => ?_⟩, ⟨(wn 28 3 (by decide) (by decide)).trans v1, v2, v3⟩, ⟨(wn 40 9 (by decide) (by decide)).trans c1, c2, c3⟩, ?_, hev⟩
    · obtain ⟨u1, u2⟩ := hu p c es L b rfl z
      obtain ⟨q1, q2, q3⟩ := x3 z
      exact ⟨by rw [u1]; exact q1, by rw [u1]; exact q2, u2 σ q3⟩
    · unfold RuC at ru ⊢
      rw [wn 40 5 (by decide) (by decide), wn 40 6 (by decide) (by decide)]
      exact ru
/-- one node more, rules more -/
theorem CSt.nd {p c : Nat} {es es' : Evs} {L : Cd} {b : Nat} (h : CSt t n N B C W w S σ0 vs (.inr (p, c, es, L, b)) σ) (g : BrF (σ.wi 40 9 (Int32.ofNat (c + 1))) τ) (hr : RuC es' τ) (h0 : es' = [] → es = []) (hb : ∀ e ∈ es', e.1 ≤ n ∧ 1 ≤ e.2 ∧ e.2 ≤ 7) (h3 : 300 < c + 1 → ∃ e ∈ es', e.1 ≤ p) (hc : c + 1 ≤ 20000) : CSt t n N B C W w S σ0 vs (.inr (p, c + 1, es', L, b)) τ := by
  obtain ⟨cb, ⟨⟨i, i1, i2, i3⟩, h4⟩, ⟨x, x1, x2, x3⟩, ⟨v1, v2, v3⟩, ⟨c1, c2, c3⟩, ru, hev⟩ := h
  obtain ⟨-, -, -, -, y0, y1, y2, -⟩ := cb.2.2.2.2.1
  have wn : ∀ a k, ¬ (a = 40 ∧ (k = 5 ∨ k = 6 ∨ k = 9)) → τ.i a k = σ.i a k := fun a k q => (g.2.2.2 a k (by omega)).trans (wi_ne (by omega))
  have r0 : τ.i C.2.1 = σ.i C.2.1 := funext fun k => wn _ k (by omega)
  have r1 : τ.i C.2.2.1 = σ.i C.2.2.1 := funext fun k => wn _ k (by omega)
  have r2 : τ.i C.2.2.2 = σ.i C.2.2.2 := funext fun k => wn _ k (by omega)
  have cb' : CBs t n N B C W w S σ0 τ := (cb.rd (rd_40 (by omega))).rd g.rd
  have v3' : NmS vs 56 τ := v3.keep (fun k _ => by rw [g.2.2.1]; exact ⟨rfl, rfl⟩)
  have n9 : τ.i 40 9 = Int32.ofNat (c + 1) := (g.2.2.2 40 9 (by omega)).trans wi_eq
  have cod : es' = [] → x = L.length ∧ L.length ≤ 3 * (c + 1) ∧ CdS S C.2.1 C.2.2.1 C.2.2.2 L b τ := fun z => by
    obtain ⟨q1, q2, q3⟩ := x3 (h0 z)
    exact ⟨q1, Nat.le_trans q2 (Nat.mul_le_mul_left 3 (Nat.le_succ c)), q3.keep r0 r1 r2⟩
  exact ⟨cb', ⟨⟨i, i1, (wn 40 3 (by decide)).trans i2, i3⟩, (wn 40 4 (by decide)).trans h4⟩, ⟨x, x1, (wn 24 3 (by decide)).trans x2, cod⟩, ⟨(wn 28 3 (by decide)).trans v1, v2, v3'⟩, ⟨n9, hc, h3⟩, hr, hb⟩
/-- a node is counted -/
theorem cl_nodeG {x0 j : Nat} {u : Cd → Nat → Cd × Nat} (h : CSt t n N B C W w S σ0 vs R σ) (hx : x0 ≤ 901) (hj : σ.i 40 3 = Int32.ofNat j) (hu : ∀ p c es L b, R = .inr (p, c, es, L, b) → es = [] → (u L b).1.length = L.length ∧ ∀ σ, CdS S C.2.1 C.2.2.1 C.2.2.2 L b σ → CdS S C.2.1 C.2.2.1 C.2.2.2 (u L b).1 (u L b).2 (σ.wi C.2.2.2 (S + x0) (σ.i C.2.2.2 (S + x0) + 1))) (hp : ∀ p c es L b, R = .inr (p, c, es, L, b) → c ≤ p) (k : ∀ τ, CSt t n N B C W w S σ0 vs (bdR R fun p c es L b => .inr (p, c + 1, es ++ cnE c p, (u L b).1, (u L b).2)) τ → K (.inl none) τ) : C_X7_addNode_0 Z (d + 2) σ (σ.i 40 3) (Int32.ofNat (S + x0)) K := by
  obtain ⟨i, i1, i2, i3, i4⟩ := h.pos
  have hij := i2
  rw [hj] at hij
  have cb := h.cb
  have g1 : ∀ v, RdF S C.2.1 C.2.2.1 C.2.2.2 σ (σ.wi 40 9 v) := fun v => rd_40 (by omega)
  obtain ⟨-, -, -, -, y0, y1, y2, yc⟩ := cb.2.2.2.2.1
  have hS := cb.2.2.2.2.2.1.2
  -- the last piece
  have last : ∀ (R' : RR) (τ : Sg), CSt t n N B C W w S σ0 vs R' τ → (∀ p c es L b, R' = .inr (p, c, es, L, b) → es = [] → (u L b).1.length = L.length ∧ ∀ σ, CdS S C.2.1 C.2.2.1 C.2.2.2 L b σ → CdS S C.2.1 C.2.2.1 C.2.2.2 (u L b).1 (u L b).2 (σ.wi C.2.2.2 (S + x0) (σ.i C.2.2.2 (S + x0) + 1))) → (∀ υ, CSt t n N B C W w S σ0 vs (bdR R' fun p c es L b => .inr (p, c, es, (u L b).1, (u L b).2)) υ → K (.inl none) υ) → C_X7_addNode_27 Z (d + 2) τ (Int32.ofNat (S + x0)) K := fun R' τ hτ hu' k' => by
    have cbt := hτ.cb
    have ca := cbt.2.2.2.2.1
    refine T_X7_addNode_27 hτ.fx ⟨_, ca.2.2.1.1, _, ca.2.2.1.2, ?_⟩
    rw [oN_t (by omega)]
    exact ⟨ib_oN (by omega) (by omega), ib_oN (by omega) (by omega), k' _ (hτ.bg hx hu')⟩
  rcases R with q | ⟨p, c, es, L, b⟩
  · have dead : ∀ v, CSt t n N B C W w S σ0 vs (.inl q) (σ.wi 40 9 v) := fun v => by
      obtain ⟨-, ⟨h3, h4, h5⟩, ⟨x, x1, x2⟩, h6, h7⟩ := h
      exact ⟨cb.rd (g1 v), ⟨(wi_ne (by decide)).trans h3, (wi_ne (by decide)).trans h4, h5⟩, ⟨x, x1, (wi_ne (by decide)).trans x2⟩, (wi_ne (by decide)).trans h6, h7⟩
    refine T_X7_addNode_0 h.fx ⟨fun _ => last (.inl q) _ (dead _) (fun p c es L b e => by cases e) (fun υ hυ => k υ hυ), fun _ => ?_⟩
    rw [i2]
    exact cl_break (dead _) i1 (by decide) (fun τ hτ => last (.inl q) τ hτ (fun p c es L b e => by cases e) (fun υ hυ => k υ hυ))
  · have e := i4 p c es L b rfl
    have hcp := hp p c es L b rfl
    have hpn := sgP_le t n i
    have hn := cb.2.2.2.1.1
    have hfx := h.fx
    have hh := h
    obtain ⟨-, -, -, -, ⟨c1, c2, c3⟩, ru, hev⟩ := h
    have c19 : c + 1 ≤ 20000 := by omega
    have mk : ∀ es' (τ : Sg), BrF (σ.wi 40 9 (Int32.ofNat (c + 1))) τ → RuC es' τ → (es' = [] → es = []) → (∀ e ∈ es', e.1 ≤ n ∧ 1 ≤ e.2 ∧ e.2 ≤ 7) → (300 < c + 1 → ∃ e ∈ es', e.1 ≤ p) → CSt t n N B C W w S σ0 vs (.inr (p, c + 1, es', L, b)) τ := fun es' τ g hr h0 hb h3 => hh.nd g hr h0 hb h3 c19
    have cn : cnE c p = if c = 300 then [(p, 7)] else [] := by
      unfold cnE
      by_cases z : c = 300
      · rw [z]
        rfl
      · rw [if_neg z, if_neg (fun y : Int32.ofNat c = 300 => z ((oN_eq (b := 300) (by omega) (by decide)).mp y))]
    have ru1 : RuC es (σ.wi 40 9 (Int32.ofNat (c + 1))) := by
      unfold RuC at ru ⊢
      rw [wi_ne (by decide), wi_ne (by decide)]
      exact ru
    refine T_X7_addNode_0 hfx ?_
    rw [c1, oN_1, show (300 : Int32) = Int32.ofNat 300 from rfl, oN_le (by omega) (by decide), i2]
    refine ⟨fun z => ?_, fun z => cl_brkL (cb.rd (g1 _)) ru1 hev i1 (by decide) (fun τ g ru2 => ?_)⟩
    · rw [if_neg (by omega)] at cn
      refine last (.inr (p, c + 1, es, L, b)) _ (mk es _ (BrF.refl _) ru1 (fun y => y) hev (fun y => absurd y (by omega))) (fun p' c' es' L' b' e' => ?_) (fun υ hυ => k υ ?_)
      · cases e'
        exact hu p c es L b rfl
      · unfold bdR at hυ ⊢
        dsimp only at hυ ⊢
        rw [cn, List.append_nil]
        exact hυ
    · rw [e] at ru2
      by_cases y : c = 300
      · rw [if_pos y] at cn
        refine last (.inr (p, c + 1, es ++ [(p, 7)], L, b)) τ (mk _ τ g ru2 (fun y => absurd y (by simp)) (fun e' he => ?_) (fun _ => ⟨(p, 7), by simp, Nat.le_refl _⟩)) (fun p' c' es' L' b' e' => ?_) (fun υ hυ => k υ ?_)
        · rcases List.mem_append.mp he with q | q
          · exact hev e' q
          · rw [List.mem_singleton] at q
            rw [q]
            exact ⟨by rw [← e]; exact hpn, by show 1 ≤ 7; decide, by show 7 ≤ 7; decide⟩
        · cases e'
          intro q
          exact absurd q (by simp)
        · unfold bdR at hυ ⊢
          dsimp only at hυ ⊢
          rw [cn]
          exact hυ
      · rw [if_neg y] at cn
        obtain ⟨e0, e1, e2⟩ := c3 (by omega)
        obtain ⟨v, w1, w2⟩ := lsE_le _ es rfl e0 e1
        have w3 := (hev v (lsE_mem es v w1)).2.2
        have e3 := (hev e0 e1).2.2
        have ru3 : RuC es τ := by
          unfold RuC at ru2 ⊢
          rw [lsE_snoc, w1, lsA_some] at ru2
          dsimp only at ru2
          rw [if_neg (by omega)] at ru2
          rw [w1]
          exact ru2
        refine last (.inr (p, c + 1, es, L, b)) τ (mk es τ g ru3 (fun y => y) hev (fun _ => ⟨e0, e1, e2⟩)) (fun p' c' es' L' b' e' => ?_) (fun υ hυ => k υ ?_)
        · cases e'
          exact hu p c es L b rfl
        · unfold bdR at hυ ⊢
          dsimp only at hυ ⊢
          rw [cn, List.append_nil]
          exact hυ
/-- the place where code goes on -/
theorem CSt.at (h : CSt t n N B C W w S σ0 vs R σ) : ∃ x, x ≤ 901 ∧ σ.i 24 3 = Int32.ofNat (S + x) ∧ ∀ p c es L b, R = .inr (p, c, es, L, b) → es = [] → x = L.length := by
  rcases R with q | ⟨p, c, es, L, b⟩
  · obtain ⟨x, x1, x2⟩ := h.2.2.1
    exact ⟨x, x1, x2, fun p c es L b e => by cases e⟩
  · obtain ⟨x, x1, x2, x3⟩ := h.2.2.1
    exact ⟨x, x1, x2, fun p' c' es' L' b' e q => by cases e; exact (x3 q).1⟩
theorem cl_node (h : CSt t n N B C W w S σ0 vs R σ) (hp : ∀ p c es L b, R = .inr (p, c, es, L, b) → c ≤ p) (k : ∀ τ, CSt t n N B C W w S σ0 vs (anR R) τ → K (.inl none) τ) : C_X7_addNode_0 Z (d + 2) σ (σ.i 40 3) (σ.i 24 3) K := by
  obtain ⟨x, x1, x2, x3⟩ := h.at
  obtain ⟨i, i1, i2, -⟩ := h.pos
  obtain ⟨-, -, -, ⟨m1, m2, m3⟩, -⟩ := h.cb.2.2.2.2.1
  rw [x2]
  refine cl_nodeG (u := fun L b => (L, b + 1)) h x1 i2 (fun p c es L b e z => ⟨rfl, fun σ hc => ?_⟩) hp k
  have ex := x3 p c es L b e z
  refine ⟨fun j q hq => ?_, ?_⟩
  · have hq : L[j]? = some q := hq
    have hj := (List.getElem?_eq_some_iff.mp hq).1
    obtain ⟨a1, a2, a3⟩ := hc.1 j q hq
    exact ⟨(wi_ne (by omega)).trans a1, (wi_ne (by omega)).trans a2, (wi_ne (by omega)).trans a3⟩
  · show (σ.wi C.2.2.2 (S + x) (σ.i C.2.2.2 (S + x) + 1)).i C.2.2.2 (S + L.length) = _
    rw [ex, wi_eq, hc.2, oN_1]
theorem cl_node2 {x0 f : Nat} (h : CSt t n N B C W w S σ0 vs R σ) (hx : x0 ≤ 901) (hf : ∀ p c es L b, R = .inr (p, c, es, L, b) → es = [] → x0 = f ∧ f < L.length) (hp : ∀ p c es L b, R = .inr (p, c, es, L, b) → c ≤ p) (k : ∀ τ, CSt t n N B C W w S σ0 vs (an2 f R) τ → K (.inl none) τ) : C_X7_addNode_0 Z (d + 2) σ (σ.i 40 3) (Int32.ofNat (S + x0)) K := by
  obtain ⟨i, i1, i2, -⟩ := h.pos
  obtain ⟨-, -, -, ⟨m1, m2, m3⟩, -⟩ := h.cb.2.2.2.2.1
  refine cl_nodeG (u := fun L b => (bmA f L, b)) h hx i2 (fun p c es L b e z => ?_) hp k
  obtain ⟨ex, fl⟩ := hf p c es L b e z
  subst ex
  have bl : (bmA x0 L).length = L.length := List.length_modify ..
  refine ⟨bl, fun σ hc => ⟨fun j q hq => ?_, ?_⟩⟩
  · unfold bmA at hq
    rw [List.getElem?_modify] at hq
    cases hL : L[j]? with
    | none =>
      rw [hL] at hq
      cases hq
    | some q0 =>
      rw [hL] at hq
      have e0 : (if x0 = j then (q0.1, q0.2.1, q0.2.2 + 1) else q0) = q := Option.some.inj hq
      obtain ⟨a1, a2, a3⟩ := hc.1 j q0 hL
      by_cases y : x0 = j
      · rw [if_pos y] at e0
        subst y
        rw [← e0]
        exact ⟨(wi_ne (by omega)).trans a1, (wi_ne (by omega)).trans a2, by rw [wi_eq, a3, oN_1]⟩
      · rw [if_neg y] at e0
        rw [← e0]
        exact ⟨(wi_ne (by omega)).trans a1, (wi_ne (by omega)).trans a2, (wi_ne (by omega)).trans a3⟩
  · rw [bl]
    exact (wi_ne (by omega)).trans hc.2
end OPS3

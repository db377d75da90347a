/-! THE CLASS: reading; what steps keep -/
/-- R0 came before, so much less code -/
def LeK (j : Nat) (R0 R : RR) : Prop := ∀ p c L b, R = .inr (p, c, [], L, b) → ∃ p0 c0 L0 b0, R0 = .inr (p0, c0, [], L0, b0) ∧ L0.length + j ≤ L.length
theorem LeK.refl (R : RR) : LeK 0 R R := fun p c L b e => ⟨p, c, L, b, e, Nat.le_refl _⟩
theorem LeK.w {j i : Nat} {R0 R : RR} (h : LeK j R0 R) (hi : i ≤ j) : LeK i R0 R := fun p c L b e => by
  obtain ⟨p0, c0, L0, b0, e0, h0⟩ := h p c L b e
  exact ⟨p0, c0, L0, b0, e0, by omega⟩
theorem GD.w {q k q' k' : Nat} {R : RR} (h : GD q k R) (hq : q ≤ q') (hk : k' ≤ k) : GD q' k' R := fun p c es L b e => by
  obtain ⟨h1, h2⟩ := h p c es L b e
  exact ⟨by omega, fun z => by have := h2 z; omega⟩
theorem RE.lk {R R' R0 : RR} {j : Nat} (h : RE R R') (g : LeK j R0 R) : LeK j R0 R' := fun p c L b e => by
  rw [e] at h
  rcases R with q | ⟨p', c', es', L', b'⟩
  · cases h
  · obtain ⟨h1, h2, h3, h4⟩ := h
    have z' := nil_set h3 rfl
    subst z'
    have := g p' c' L' b' rfl
    rw [← (h4 rfl).1]
    exact this
/-- steps of reading: their general form -/
theorem bd_live {R : RR} {f : Nat → Nat → Evs → Cd → Nat → RR} {x : Nat × Nat × Evs × Cd × Nat} (h : bdR R f = .inr x) : ∃ p c es L b, R = .inr (p, c, es, L, b) ∧ f p c es L b = .inr x := by
  rcases R with q | ⟨p, c, es, L, b⟩
  · cases h
  · exact ⟨p, c, es, L, b, rfl, h⟩
theorem rr_inj {p c p' c' : Nat} {es es' : Evs} {L L' : Cd} {b b' : Nat} (h : (.inr (p, c, es, L, b) : RR) = .inr (p', c', es', L', b')) : p = p' ∧ c = c' ∧ es = es' ∧ L = L' ∧ b = b' := by
  cases h
  exact ⟨rfl, rfl, rfl, rfl, rfl⟩
section KEEP
variable {t : Nat → Int32} {n : Nat} {R R0 : RR} {q k j : Nat}
theorem gd_an (h : GD 0 k R) : GD 1 (k + 3) (anR R) := fun p c es L b e => by
  obtain ⟨p1, c1, es1, L1, b1, e1, e2⟩ := bd_live e
  obtain ⟨rfl, rfl, rfl, rfl, rfl⟩ := rr_inj e2
  obtain ⟨h1, h2⟩ := h _ _ _ _ _ e1
  exact ⟨by omega, fun z => by have := h2 (List.append_eq_nil_iff.mp z).1; omega⟩
theorem gd_an2 {f : Nat} (h : GD 0 k R) : GD 1 (k + 3) (an2 f R) := fun p c es L b e => by
  obtain ⟨p1, c1, es1, L1, b1, e1, e2⟩ := bd_live e
  obtain ⟨rfl, rfl, rfl, rfl, rfl⟩ := rr_inj e2
  obtain ⟨h1, h2⟩ := h _ _ _ _ _ e1
  exact ⟨by omega, fun z => by have := h2 (List.append_eq_nil_iff.mp z).1; rw [bmA_len]; omega⟩
theorem gd_tk {y : Nat} (hy : 2 ≤ y) (h : GD 1 k R) : GD 0 k (tkR t n y R) := fun p c es L b e => by
  obtain ⟨p1, c1, es1, L1, b1, e1, e2⟩ := bd_live e
  by_cases z : tyS t n p1 = y
  · rw [if_pos z] at e2
    obtain ⟨rfl, rfl, rfl, rfl, rfl⟩ := rr_inj e2
    obtain ⟨h1, h2⟩ := h _ _ _ _ _ e1
    have := ty_nx (t := t) (n := n) (p := p1) (by omega)
    exact ⟨by omega, h2⟩
  · rw [if_neg z] at e2
    cases e2
theorem gd_kn {f : List Int32 → Option Nat} (h : GD 1 k R) : GD 0 k (knR t n f R) := fun p c es L b e => by
  obtain ⟨p1, c1, es1, L1, b1, e1, e2⟩ := bd_live e
  by_cases z : tyS t n p1 = 2
  · rw [if_pos z] at e2
    obtain ⟨rfl, rfl, rfl, rfl, rfl⟩ := rr_inj e2
    obtain ⟨h1, h2⟩ := h _ _ _ _ _ e1
    have := ty_nx (t := t) (n := n) (p := p1) (by omega)
    exact ⟨by omega, fun z => h2 (List.append_eq_nil_iff.mp z).1⟩
  · rw [if_neg z] at e2
    cases e2
theorem gd_nu (h : GD 1 k R) : GD 0 k (nuR t n R) := fun p c es L b e => by
  obtain ⟨p1, c1, es1, L1, b1, e1, e2⟩ := bd_live e
  cases hp : pSg t n p1 with
  | inl q =>
    rw [hp] at e2
    cases e2
  | inr x =>
    obtain ⟨v, p2⟩ := x
    rw [hp] at e2
    obtain ⟨rfl, rfl, rfl, rfl, rfl⟩ := rr_inj e2
    obtain ⟨h1, h2⟩ := h _ _ _ _ _ e1
    have := pSg_gt hp
    exact ⟨by omega, h2⟩
theorem gd_em {o a : Int32} (h : GD q (k + 1) R) : GD q k (emR o a R) := fun p c es L b e => by
  obtain ⟨p1, c1, es1, L1, b1, e1, e2⟩ := bd_live e
  obtain ⟨rfl, rfl, rfl, rfl, rfl⟩ := rr_inj e2
  obtain ⟨h1, h2⟩ := h _ _ _ _ _ e1
  refine ⟨h1, fun z => ?_⟩
  have := h2 z
  rw [List.length_append]
  show L1.length + 1 + k ≤ _
  omega
theorem gd_am {S f : Nat} (h : GD q k R) : GD q k (amR S f R) := fun p c es L b e => by
  obtain ⟨p1, c1, es1, L1, b1, e1, e2⟩ := bd_live e
  obtain ⟨rfl, rfl, rfl, rfl, rfl⟩ := rr_inj e2
  obtain ⟨h1, h2⟩ := h _ _ _ _ _ e1
  refine ⟨h1, fun z => ?_⟩
  have : (agA f (Int32.ofNat (S + L1.length)) L1).length = L1.length := List.length_modify ..
  rw [this]
  exact h2 z
theorem gd_ev {e' : Evs} (h : GD q k R) : GD q k (evR e' R) := fun p c es L b e => by
  obtain ⟨p1, c1, es1, L1, b1, e1, e2⟩ := bd_live e
  obtain ⟨rfl, rfl, rfl, rfl, rfl⟩ := rr_inj e2
  obtain ⟨h1, h2⟩ := h _ _ _ _ _ e1
  exact ⟨h1, fun z => h2 (List.append_eq_nil_iff.mp z).1⟩
theorem lk_an (h : LeK j R0 R) : LeK j R0 (anR R) := fun p c L b e => by
  obtain ⟨p1, c1, es1, L1, b1, e1, e2⟩ := bd_live e
  obtain ⟨rfl, rfl, e3, rfl, rfl⟩ := rr_inj e2
  have := (List.append_eq_nil_iff.mp e3).1
  subst this
  exact h _ _ _ _ e1
theorem lk_an2 {f : Nat} (h : LeK j R0 R) : LeK j R0 (an2 f R) := fun p c L b e => by
  obtain ⟨p1, c1, es1, L1, b1, e1, e2⟩ := bd_live e
  obtain ⟨rfl, rfl, e3, rfl, rfl⟩ := rr_inj e2
  have := (List.append_eq_nil_iff.mp e3).1
  subst this
  rw [bmA_len]
  exact h _ _ _ _ e1
theorem lk_tk {y : Nat} (h : LeK j R0 R) : LeK j R0 (tkR t n y R) := fun p c L b e => by
  obtain ⟨p1, c1, es1, L1, b1, e1, e2⟩ := bd_live e
  by_cases z : tyS t n p1 = y
  · rw [if_pos z] at e2
    obtain ⟨rfl, rfl, rfl, rfl, rfl⟩ := rr_inj e2
    exact h _ _ _ _ e1
  · rw [if_neg z] at e2
    cases e2
theorem lk_kn {f : List Int32 → Option Nat} (h : LeK j R0 R) : LeK j R0 (knR t n f R) := fun p c L b e => by
  obtain ⟨p1, c1, es1, L1, b1, e1, e2⟩ := bd_live e
  by_cases z : tyS t n p1 = 2
  · rw [if_pos z] at e2
    obtain ⟨rfl, rfl, e3, rfl, rfl⟩ := rr_inj e2
    have := (List.append_eq_nil_iff.mp e3).1
    subst this
    exact h _ _ _ _ e1
  · rw [if_neg z] at e2
    cases e2
theorem lk_nu (h : LeK j R0 R) : LeK j R0 (nuR t n R) := fun p c L b e => by
  obtain ⟨p1, c1, es1, L1, b1, e1, e2⟩ := bd_live e
  cases hp : pSg t n p1 with
  | inl q =>
    rw [hp] at e2
    cases e2
  | inr x =>
    obtain ⟨v, p2⟩ := x
    rw [hp] at e2
    obtain ⟨rfl, rfl, rfl, rfl, rfl⟩ := rr_inj e2
    exact h _ _ _ _ e1
theorem lk_em {o a : Int32} (h : LeK j R0 R) : LeK (j + 1) R0 (emR o a R) := fun p c L b e => by
  obtain ⟨p1, c1, es1, L1, b1, e1, e2⟩ := bd_live e
  obtain ⟨rfl, rfl, rfl, rfl, rfl⟩ := rr_inj e2
  obtain ⟨p0, c0, L0, b0, e0, h0⟩ := h _ _ _ _ e1
  refine ⟨p0, c0, L0, b0, e0, ?_⟩
  rw [List.length_append]
  show L0.length + (j + 1) ≤ L1.length + 1
  omega
theorem lk_am {S f : Nat} (h : LeK j R0 R) : LeK j R0 (amR S f R) := fun p c L b e => by
  obtain ⟨p1, c1, es1, L1, b1, e1, e2⟩ := bd_live e
  obtain ⟨rfl, rfl, rfl, rfl, rfl⟩ := rr_inj e2
  have : (agA f (Int32.ofNat (S + L1.length)) L1).length = L1.length := List.length_modify ..
  rw [this]
  exact h _ _ _ _ e1
theorem lk_ev {e' : Evs} (h : LeK j R0 R) : LeK j R0 (evR e' R) := fun p c L b e => by
  obtain ⟨p1, c1, es1, L1, b1, e1, e2⟩ := bd_live e
  obtain ⟨rfl, rfl, e3, rfl, rfl⟩ := rr_inj e2
  have := (List.append_eq_nil_iff.mp e3).1
  subst this
  exact h _ _ _ _ e1
/-- what holds of all that is read -/
def GL (R R' : RR) : Prop := (∀ k, GD 0 k R → GD 0 (k + 2) R') ∧ ∀ j R0, LeK j R0 R → LeK (j + 1) R0 R'
theorem RE.gl {R R1 R2 : RR} (h : RE R1 R2) (g : GL R R1) : GL R R2 := ⟨fun k q => h.gd (g.1 k q), fun j R0 q => h.lk (g.2 j R0 q)⟩
theorem GD.pl {q : Nat} (h : GD q k R) : ∀ p c L b, R = .inr (p, c, [], L, b) → L.length + k ≤ 3 * c := fun p c L b e => (h p c [] L b e).2 rfl
theorem GD.cp (h : GD 0 k R) : ∀ p c es L b, R = .inr (p, c, es, L, b) → c ≤ p := fun p c es L b e => (h p c es L b e).1
end KEEP
/-- in a method of a call that isn't told something is broken already -/
def wK (w : Int) : Nat := if w = -2 then 1000 else 0
section FOLC
variable (t : Nat → Int32) (n N : Nat) (B : Nat × Nat × Nat × Nat × Nat) (C : Nat × Nat × Nat × Nat) (W : Wld) (w : Int) (S : Nat) (σ0 : Sg)
/-- the run follows the pure reader -/
def FolC (f : Pf) (vs : List (List Int32)) (call : Sg → kS → Prop) : Prop := ∀ R σ K, CSt t n N B C W w S σ0 vs R σ → GD 0 (wK w) R → (∀ τ, CSt t n N B C W w S σ0 vs (gR f S vs R) τ → GL R (gR f S vs R) → K (.inl none) τ) → call σ K
end FOLC

/-! THE CLASS: space, from cell to cell -/
/-- what going to the next cell leaves as it is -/
def NxF (A : Nat) (σ τ : Sg) : Prop := XF (fun a => a = A ∨ a = A + 6 ∨ a = A + 7) σ τ ∧ (∀ k, k ≠ 10 → τ.i A k = σ.i A k) ∧ ∀ j, j < 16 → τ.l (A + 7) j = σ.l (A + 7) j
theorem NxF.refl (A : Nat) (σ : Sg) : NxF A σ σ := ⟨XF.refl _ _, fun _ _ => rfl, fun _ _ => rfl⟩
theorem NxF.tr {A : Nat} {σ τ υ : Sg} (h : NxF A σ τ) (g : NxF A τ υ) : NxF A σ υ := ⟨h.1.tr g.1, fun k q => (g.2.1 k q).trans (h.2.1 k q), fun j q => (g.2.2 j q).trans (h.2.2 j q)⟩
theorem NxF.w6 {A k : Nat} {σ τ : Sg} {v : Int32} (h : NxF A σ τ) : NxF A σ (τ.wi (A + 6) k v) := ⟨h.1.wi (Or.inr (Or.inl rfl)), fun j q => (wi_ne (by omega)).trans (h.2.1 j q), h.2.2⟩
theorem NxF.w10 {A : Nat} {σ τ : Sg} {v : Int32} (h : NxF A σ τ) : NxF A σ (τ.wi A 10 v) := ⟨h.1.wi (Or.inl rfl), fun j q => (wi_ne (by omega)).trans (h.2.1 j q), h.2.2⟩
/-- the bounds that hold before any cut -/
def Rw0 (A : Nat) (σ : Sg) : Prop := ∀ i j, i < 4 → j < 4 → (σ.l (A + 7) (4 * i + j)).toInt = d0 i j
/-- between cells: P are the numbers still to come -/
def SpQ (A : Nat) (cs : List Cut) (P : (Nat → Int) → Prop) (σ : Sg) : Prop := (FX ΦC σ.sh σ.r ∧ SpK A cs σ ∧ Rw0 A σ) ∧ ((∃ β L s, s ≤ 2 ∧ (L = cs.length → s = 0) ∧ SpT A cs β L s σ ∧ ∀ x, PtW x → (P x ↔ TcP cs β L s x)) ∨ (σ.i A 10 = -1 ∧ ∀ x, PtW x → ¬ P x))
/-- on a cell -/
def CeS (A : Nat) (cs : List Cut) (β : Nat → Bool) (σ : Sg) : Prop := (∀ l, l < cs.length → tb (σ.l A 11) l = β l) ∧ NeP cs β cs.length
section NEXT
variable {Z : zT} {d A L s : Nat} {cs : List Cut} {β : Nat → Bool} {σ τ υ : Sg} {K : kS}
theorem SpK.nx (h : SpK A cs σ) (g : NxF A σ τ) : SpK A cs τ := by
  refine ⟨⟨(g.2.1 7 (by decide)).trans h.1.1, h.1.2⟩, fun k q hq => ?_⟩
  obtain ⟨h1, h2, h3⟩ := h.2 k q hq
  have e : ∀ a, a = A + 3 ∨ a = A + 4 ∨ a = A + 5 → τ.i a = σ.i a ∧ τ.l a = σ.l a := fun a ha => g.1.2.2 a (by omega)
  rw [(e (A + 3) (by omega)).1, (e (A + 4) (by omega)).1, (e (A + 5) (by omega)).2]
  exact ⟨h1, h2, h3⟩
theorem Rw0.nx (h : Rw0 A σ) (g : NxF A σ τ) : Rw0 A τ := fun i j hi hj => by
  rw [g.2.2 _ (by omega)]
  exact h i j hi hj
theorem SpT.w6 {v : Nat} (S : SpT A cs β L s σ) : SpT A cs β L v (σ.wi (A + 6) L (Int32.ofNat v)) := by
  obtain ⟨F, ⟨⟨s1, s2⟩, s3⟩, ⟨s4, s5⟩, s6, s7, s8, s9, s10⟩ := S
  refine ⟨F, ⟨⟨(wi_ne (by omega)).trans s1, s2⟩, fun k q hq => ?_⟩, ⟨(wi_ne (by omega)).trans s4, s5⟩, fun l hl => (wi_ne (by omega)).trans (s6 l hl), wi_at .., s8, s9, s10⟩
  obtain ⟨h1, h2, h3⟩ := s3 k q hq
  exact ⟨(wi_ne (by omega)).trans h1, (wi_ne (by omega)).trans h2, h3⟩
theorem GsR.nx {b : Bool} (g : GsR A cs β L b σ τ) : NxF A σ τ := ⟨⟨g.1.1, g.1.2.1, fun a q => ⟨by rw [g.1.2.2], g.2.1 a (by omega) (by omega)⟩⟩, fun k _ => by rw [g.1.2.2], fun j hj => g.2.2.2.1 j (by omega)⟩
/-- a side without numbers -/
theorem GsR.no {b : Bool} (g : GsR A cs β L b σ τ) (S : SpT A cs β L s σ) : SpT A cs β L s τ := by
  have S' := S
  obtain ⟨F, s3, ⟨s4, s5⟩, s6, s7, s8, s9, s10⟩ := S
  obtain ⟨⟨g1, g2, g3⟩, g4, g5, g6, g7⟩ := id g
  refine ⟨by rw [g1, g2]; exact F, s3.nx g.nx, ⟨by rw [g3]; exact s4, s5⟩, fun l hl => by rw [g3]; exact s6 l hl, by rw [g3]; exact s7, fun l hl i j hi hj => ?_, fun l hl => (g5 l hl).trans (s9 l hl), s10⟩
  rw [g6 _ (by omega)]
  exact s8 l hl i j hi hj
/-- into a side -/
theorem GsR.yes {b : Bool} (g : GsR A cs β L b σ τ) (S : SpT A cs β L s σ) (hs : (s = 1 ∧ b = true) ∨ (s = 2 ∧ b = false)) (hL : L < cs.length) (ok : okS cs β L b) : SpT A cs (upB β L b) (L + 1) 0 ((τ.wi A 10 (Int32.ofNat (L + 1))).wi (A + 6) (L + 1) 0) := by
  have S' := g.no S
  obtain ⟨F, s3, ⟨s4, s5⟩, s6, s7, s8, s9, s10⟩ := S'
  obtain ⟨⟨g1, g2, g3⟩, g4, g5, g6, g7⟩ := id g
  obtain ⟨g8, g9⟩ := g7 ok
  have e6 : ∀ l, l < L + 1 → ((τ.wi A 10 (Int32.ofNat (L + 1))).wi (A + 6) (L + 1) 0).i (A + 6) l = τ.i (A + 6) l := fun l hl => (wi_ne (by omega)).trans (wi_ne (by omega))
  refine ⟨F, s3.nx (NxF.refl _ _).w10.w6, ⟨(wi_ne (by omega)).trans (wi_at ..), by omega⟩, fun l hl => ?_, wi_at .., fun l hl i j hi hj => ?_, fun l hl => ?_, ne_up s10 ok⟩
  · rw [e6 l hl]
    by_cases q : l = L
    · subst q
      rw [up_at, s7]
      rcases hs with ⟨rfl, rfl⟩ | ⟨rfl, rfl⟩ <;> rfl
    · rw [up_lt (by omega)]
      exact s6 l (by omega)
  · show (τ.l (A + 7) (16 * l + 4 * i + j)).toInt = _
    by_cases q : l = L + 1
    · rw [q]
      exact g9 i j hi hj
    · rw [s8 l (by omega) i j hi hj, mx_cg l (fun k hk => up_lt (by omega))]
  · show tb (τ.l A 11) l = _
    by_cases q : l = L
    · rw [q, up_at]
      exact g8
    · rw [up_lt (by omega)]
      exact s9 l (by omega)
/-- one turn -/
theorem nx_turn {tn : Nat} (hA : SpA A) (hW : CuW cs) (S : SpT A cs β L s σ) (hs : s ≤ 2) (ht : tn < 1000000) (kL : L = cs.length → K (.inl (some (.int 1))) (σ.wi A 10 (Int32.ofNat L - 1))) (kU : L < cs.length → s = 2 → C_X9_toNextCell_2 Z (d + 2) ((σ.wi (A + 6) L (Int32.ofNat 3)).wi A 10 (Int32.ofNat L - 1)) A (Int32.ofNat (tn + 1)) K) (kS : L < cs.length → ∀ b, (s = 0 ∧ b = true) ∨ (s = 1 ∧ b = false) → ∀ τ, GsR A cs β L b (σ.wi (A + 6) L (Int32.ofNat (s + 1))) τ → (¬ okS cs β L b → C_X9_toNextCell_2 Z (d + 2) τ A (Int32.ofNat (tn + 1)) K) ∧ (okS cs β L b → C_X9_toNextCell_2 Z (d + 2) ((τ.wi A 10 (Int32.ofNat (L + 1))).wi (A + 6) (L + 1) 0) A (Int32.ofNat (tn + 1)) K)) : C_X9_toNextCell_2 Z (d + 2) σ A (Int32.ofNat tn) K := by
  have S' := S
  obtain ⟨F, ⟨⟨s1, s2⟩, s3⟩, ⟨s4, s5⟩, s6, s7, s8, s9, s10⟩ := S
  have w10 : (σ.wi (A + 6) L (Int32.ofNat (s + 1))).i A 10 = Int32.ofNat L := (wi_ne (by omega)).trans s4
  refine T_X9_toNextCell_2 F hA.p ?_
  rw [s4, s1, oN_t (by omega), s7, oN_1 s, oN_1 tn, w10]
  rw [show (1000000 : Int32) ≤ Int32.ofNat tn ↔ 1000000 ≤ tn from oN_le (a := 1000000) (by decide) (by omega), show Int32.ofNat L < 0 ↔ L < 0 from oN_lt (b := 0) (by omega) (by decide), oN_eq (by omega) (by omega), show Int32.ofNat s = 2 ↔ s = 2 from oN_eq (b := 2) (by omega) (by decide)]
  refine ⟨fun z => absurd z (by omega), fun _ => ⟨fun z => absurd z (by omega), fun _ => ⟨fun hn => ?_, fun e => kL e⟩⟩⟩
  have hL : L < cs.length := by omega
  refine ⟨ib_oN (by omega) (by decide), ib_oN (by omega) (by decide), ib_oN (by omega) (by decide), fun z => ?_, fun z => ?_⟩
  · obtain ⟨b, hb⟩ : ∃ b, (s = 0 ∧ b = true) ∨ (s = 1 ∧ b = false) := by
      by_cases e : s = 0
      · exact ⟨true, Or.inl ⟨e, rfl⟩⟩
      · exact ⟨false, Or.inr ⟨by omega, rfl⟩⟩
    have eb : Int32.ofNat s = if b = true then 0 else 1 := by
      rcases hb with ⟨rfl, rfl⟩ | ⟨rfl, rfl⟩ <;> rfl
    rw [eb]
    refine cl_goSide hA hW (SpT.w6 (v := s + 1) S') hL (fun τ g => ?_)
    have e10 : τ.i A 10 = Int32.ofNat L := by rw [g.1.2.2]; exact w10
    obtain ⟨k0, k1⟩ := kS hL b hb τ g
    refine ⟨fun ok => ⟨fun z => absurd z (by decide), fun _ => ?_⟩, fun no => ⟨fun _ => k0 no, fun z => absurd rfl z⟩⟩
    rw [e10, oN_1, wi_at, oN_t (by omega)]
    exact ⟨ib_oN (by omega) (by decide), k1 ok⟩
  · subst z
    exact kU hL rfl
/-- the answer is yes -/
def YeK (A : Nat) (cs : List Cut) (P : (Nat → Int) → Prop) (σ : Sg) (K : kS) : Prop := ∀ τ β P', NxF A σ τ → CeS A cs β τ → (∀ x, PtW x → (P x ↔ agB cs β cs.length x ∨ P' x)) → (∀ x, agB cs β cs.length x → ¬ P' x) → SpQ A cs P' τ → K (.inl (some (.int 1))) τ
variable {P : (Nat → Int) → Prop} {σ0 : Sg}
/-- at a leaf -/
theorem nx_leaf {tn : Nat} (hA : SpA A) (hW : CuW cs) (r0 : Rw0 A σ0) (f : NxF A σ0 σ) (S : SpT A cs β cs.length 0 σ) (hP : ∀ x, PtW x → (P x ↔ TcP cs β cs.length 0 x)) (ht : tn < 1000000) (k1 : YeK A cs P σ0 K) : C_X9_toNextCell_2 Z (d + 2) σ A (Int32.ofNat tn) K := by
  refine nx_turn hA hW S (by omega) ht (fun _ => ?_) (fun z => absurd z (by omega)) (fun z => absurd z (by omega))
  obtain ⟨F, s3, ⟨s4, s5⟩, s6, s7, s8, s9, s10⟩ := S
  have f' : NxF A σ0 (σ.wi A 10 (Int32.ofNat cs.length - 1)) := f.w10
  have g' : NxF A σ (σ.wi A 10 (Int32.ofNat cs.length - 1)) := (NxF.refl _ _).w10
  refine k1 _ β (TcP cs β cs.length 2) f' ⟨s9, s10⟩ (fun x hx => (hP x hx).trans tc_cell) (fun x hx => tc_dis hx) ⟨⟨F, s3.nx g', r0.nx f'⟩, ?_⟩
  cases hn : cs.length with
  | zero => exact Or.inr ⟨(wi_at ..).trans (by decide), fun x _ => tc_end⟩
  | succ m =>
    have hl : Int32.ofNat (m + 1) - 1 = Int32.ofNat m := oN_p1 (m := m + 1) (by omega)
    refine Or.inl ⟨β, m, if β m = true then 1 else 2, by split <;> omega, fun z => by omega, ⟨F, ?_, ⟨(wi_at ..).trans hl, by omega⟩, fun l hl => (wi_ne (by omega)).trans (s6 l (by omega)), ?_, fun l hl => s8 l (by omega), fun l hl => s9 l (by omega), s10.mono (by omega)⟩, fun x _ => tc_up⟩
    · have := s3.nx g'
      rw [hn] at this
      exact this
    · refine (wi_ne (by omega)).trans ((s6 m (by omega)).trans ?_)
      split <;> rfl
/-- down: there are numbers -/
theorem nx_down (hA : SpA A) (hW : CuW cs) (r0 : Rw0 A σ0) (k1 : YeK A cs P σ0 K) : ∀ (m L : Nat) (β : Nat → Bool) (σ : Sg) (tn : Nat), cs.length - L ≤ m → NxF A σ0 σ → SpT A cs β L 0 σ → (∀ x, PtW x → (P x ↔ TcP cs β L 0 x)) → tn + 2 * m < 999000 → C_X9_toNextCell_2 Z (d + 2) σ A (Int32.ofNat tn) K := by
  intro m
  induction m with
  | zero =>
    intro L β σ tn hm f S hP ht
    have hl := S.2.2.1.2
    have : L = cs.length := by omega
    subst this
    exact nx_leaf hA hW r0 f S hP (by omega) k1
  | succ m ih =>
    intro L β σ tn hm f S hP ht
    have hl := S.2.2.1.2
    by_cases e : L = cs.length
    · subst e
      exact nx_leaf hA hW r0 f S hP (by omega) k1
    · have hN := S.2.2.2.2.2.2.2
      refine nx_turn hA hW S (by omega) (by omega) (fun z => absurd z e) (fun _ z => absurd z (by decide)) (fun hL b hb τ g => ?_)
      obtain ⟨-, rfl⟩ | ⟨z, -⟩ := hb
      rotate_left
      · cases z
      have fτ : NxF A σ0 τ := (f.w6).tr g.nx
      have S1 := SpT.w6 (v := 1) S
      refine ⟨fun no => ?_, fun ok => ih (L + 1) (upB β L true) _ (tn + 1) (by omega) fτ.w10.w6 (g.yes S1 (Or.inl ⟨rfl, rfl⟩) hL ok) (fun x hx => (hP x hx).trans (tc_in (Or.inl ⟨rfl, rfl⟩)).symm) (by omega)⟩
      have S2 := g.no S1
      refine nx_turn hA hW S2 (by omega) (by omega) (fun z => absurd z e) (fun _ z => absurd z (by decide)) (fun hL b hb τ' g' => ?_)
      obtain ⟨z, -⟩ | ⟨-, rfl⟩ := hb
      · cases z
      have fτ' : NxF A σ0 τ' := (fτ.w6).tr g'.nx
      have S3 := SpT.w6 (v := 2) S2
      refine ⟨fun no' => absurd (ok_or hW hL hN) (by rintro (q | q); exact no q; exact no' q), fun ok => ih (L + 1) (upB β L false) _ (tn + 1 + 1) (by omega) fτ'.w10.w6 (g'.yes S3 (Or.inr ⟨rfl, rfl⟩) hL ok) (fun x hx => ?_) (by omega)⟩
      rw [tc_in (Or.inr ⟨rfl, rfl⟩)]
      exact (hP x hx).trans (tc_no (s := 0) (Or.inl ⟨rfl, rfl⟩) (fun ha => ok_no hW hL hN no hx ha)).symm
/-- the answer is no -/
def NoK (A : Nat) (cs : List Cut) (P : (Nat → Int) → Prop) (σ : Sg) (K : kS) : Prop := ∀ τ, NxF A σ τ → (∀ x, PtW x → ¬ P x) → SpQ A cs P τ → K (.inl (some (.int 0))) τ
theorem nx_end {tn : Nat} (hA : SpA A) (F : FX ΦC σ.sh σ.r) (h : σ.i A 10 = -1) (ht : tn < 1000000) (k : K (.inl (some (.int 0))) σ) : C_X9_toNextCell_2 Z (d + 2) σ A (Int32.ofNat tn) K := by
  refine T_X9_toNextCell_2 F hA.p ?_
  rw [h, show (1000000 : Int32) ≤ Int32.ofNat tn ↔ 1000000 ≤ tn from oN_le (a := 1000000) (by decide) (by omega)]
  exact ⟨fun z => absurd z (by omega), fun _ => ⟨fun _ => k, fun z => absurd (by decide) z⟩⟩
/-- up and down -/
theorem nx_up (hA : SpA A) (hW : CuW cs) (r0 : Rw0 A σ0) (k1 : YeK A cs P σ0 K) (k0 : NoK A cs P σ0 K) : ∀ (m L s : Nat) (β : Nat → Bool) (σ : Sg) (tn : Nat), 3 * L + (2 - s) ≤ m → s ≤ 2 → (L = cs.length → s = 0) → NxF A σ0 σ → SpT A cs β L s σ → (∀ x, PtW x → (P x ↔ TcP cs β L s x)) → tn + m < 900000 → C_X9_toNextCell_2 Z (d + 2) σ A (Int32.ofNat tn) K := by
  intro m
  induction m with
  | zero =>
    intro L s β σ tn hm hs hls f S hP ht
    have hl := S.2.2.1.2
    have e1 : L = 0 := by omega
    have e2 : s = 2 := by omega
    subst e1 e2
    refine nx_turn hA hW S (by omega) (by omega) (fun z => absurd (hls z) (by decide)) (fun _ _ => ?_) (fun _ b hb => by omega)
    have f' : NxF A σ0 ((σ.wi (A + 6) 0 (Int32.ofNat 3)).wi A 10 (Int32.ofNat 0 - 1)) := f.w6.w10
    have g' : NxF A σ ((σ.wi (A + 6) 0 (Int32.ofNat 3)).wi A 10 (Int32.ofNat 0 - 1)) := (NxF.refl _ _).w6.w10
    have e : ((σ.wi (A + 6) 0 (Int32.ofNat 3)).wi A 10 (Int32.ofNat 0 - 1)).i A 10 = -1 := (wi_at ..).trans (by decide)
    have no : ∀ x, PtW x → ¬ P x := fun x hx q => tc_end ((hP x hx).mp q)
    exact nx_end hA S.1 e (by omega) (k0 _ f' no ⟨⟨S.1, S.2.1.nx g', r0.nx f'⟩, Or.inr ⟨e, no⟩⟩)
  | succ m ih =>
    intro L s β σ tn hm hs hls f S hP ht
    have hl := S.2.2.1.2
    have hc := S.2.1.1.2
    by_cases e : L = cs.length
    · have := hls e
      subst e this
      exact nx_leaf hA hW r0 f S hP (by omega) k1
    · have hN := S.2.2.2.2.2.2.2
      refine nx_turn hA hW S hs (by omega) (fun z => absurd z e) (fun hL z => ?_) (fun hL b hb τ g => ?_)
      · subst z
        cases L with
        | zero =>
          have f' : NxF A σ0 ((σ.wi (A + 6) 0 (Int32.ofNat 3)).wi A 10 (Int32.ofNat 0 - 1)) := f.w6.w10
          have g' : NxF A σ ((σ.wi (A + 6) 0 (Int32.ofNat 3)).wi A 10 (Int32.ofNat 0 - 1)) := (NxF.refl _ _).w6.w10
          have e : ((σ.wi (A + 6) 0 (Int32.ofNat 3)).wi A 10 (Int32.ofNat 0 - 1)).i A 10 = -1 := (wi_at ..).trans (by decide)
          have no : ∀ x, PtW x → ¬ P x := fun x hx q => tc_end ((hP x hx).mp q)
          exact nx_end hA S.1 e (by omega) (k0 _ f' no ⟨⟨S.1, S.2.1.nx g', r0.nx f'⟩, Or.inr ⟨e, no⟩⟩)
        | succ L =>
          have f' : NxF A σ0 ((σ.wi (A + 6) (L + 1) (Int32.ofNat 3)).wi A 10 (Int32.ofNat (L + 1) - 1)) := f.w6.w10
          have g' : NxF A σ ((σ.wi (A + 6) (L + 1) (Int32.ofNat 3)).wi A 10 (Int32.ofNat (L + 1) - 1)) := (NxF.refl _ _).w6.w10
          obtain ⟨F, s3, ⟨s4, s5⟩, s6, s7, s8, s9, s10⟩ := S
          have hl : Int32.ofNat (L + 1) - 1 = Int32.ofNat L := oN_p1 (m := L + 1) (by omega)
          refine ih L (if β L = true then 1 else 2) β _ (tn + 1) (by split <;> omega) (by split <;> omega) (fun z => by omega) f' ⟨F, s3.nx g', ⟨(wi_at ..).trans hl, by omega⟩, fun l hl => (wi_ne (by omega)).trans ((wi_ne (by omega)).trans (s6 l (by omega))), ?_, fun l hl => s8 l (by omega), fun l hl => s9 l (by omega), s10.mono (by omega)⟩ (fun x hx => (hP x hx).trans tc_up) (by omega)
          refine (wi_ne (by omega)).trans ((wi_ne (by omega)).trans ((s6 L (by omega)).trans ?_))
          split <;> rfl
      · have fτ : NxF A σ0 τ := (f.w6).tr g.nx
        have S1 := SpT.w6 (v := s + 1) S
        refine ⟨fun no => ih L (s + 1) β τ (tn + 1) (by omega) (by omega) (fun z => absurd z e) fτ (g.no S1) (fun x hx => ?_) (by omega), fun ok => nx_down hA hW r0 k1 36 (L + 1) (upB β L b) _ (tn + 1) (by omega) fτ.w10.w6 (g.yes S1 (by rcases hb with ⟨rfl, rfl⟩ | ⟨rfl, rfl⟩; exact Or.inl ⟨rfl, rfl⟩; exact Or.inr ⟨rfl, rfl⟩) hL ok) (fun x hx => (hP x hx).trans (tc_in hb).symm) (by omega)⟩
        exact (hP x hx).trans (tc_no hb (fun ha => ok_no hW hL hN no hx ha)).symm
/-- to the next cell -/
theorem cl_nextC (hA : SpA A) (hW : CuW cs) (S : SpQ A cs P σ) (k1 : YeK A cs P σ K) (k0 : NoK A cs P σ K) : C_X9_toNextCell_0 Z (d + 2) σ A K := by
  refine T_X9_toNextCell_0 S.1.1 hA.p ?_
  rcases S.2 with ⟨β, L, s, h1, h2, h3, h4⟩ | ⟨h1, h2⟩
  · have := h3.2.2.1.2
    have := h3.2.1.1.2
    exact nx_up hA hW S.1.2.2 k1 k0 (3 * L + 2) L s β σ 0 (by omega) h1 h2 (NxF.refl _ _) h3 h4 (by omega)
  · exact nx_end (tn := 0) hA S.1.1 h1 (by decide) (k0 σ (NxF.refl _ _) h2 S)
end NEXT

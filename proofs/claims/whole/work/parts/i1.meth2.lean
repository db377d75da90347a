/-! THE CLASS: a method read, its end -/
def mtI (u a j : Nat) : Prop := ((a = 11 ∨ a = 12 ∨ a = 13 ∨ a = 14 ∨ a = 18) ∧ j ≤ u) ∨ ((a = 15 ∨ a = 16 ∨ a = 17) ∧ j / 3 ≤ u) ∨ ((a = 19 ∨ a = 20 ∨ a = 21) ∧ j / 6 ≤ u)
def mtL (u a j : Nat) : Prop := (a = 22 ∧ j / 6 ≤ u) ∨ (a = 23 ∧ j ≤ u)
theorem MtC.keep {C C' : Nat × Nat × Nat × Nat} {a0 a1 m u : Nat} {x : Mtd × Bool} {σ τ : Sg} (h : MtC C a0 m x σ) (hm : m ≤ u) (ha : a0 ≤ a1) (gi : ∀ a j, mtI u a j → τ.i a j = σ.i a j) (gl : ∀ a j, mtL u a j → τ.l a j = σ.l a j) (gc : ∀ j, j < a0 → τ.i C'.2.1 j = σ.i C.2.1 j ∧ τ.i C'.2.2.1 j = σ.i C.2.2.1 j ∧ τ.i C'.2.2.2 j = σ.i C.2.2.2 j) : MtC C' a1 m x τ := by
  obtain ⟨c1, c2, c3, c4, ⟨t1, t2, t3, t4, t5⟩, S, s1, s2, s3, s4⟩ := h
  refine ⟨(gi 11 m (by unfold mtI; omega)).trans c1, (gi 12 m (by unfold mtI; omega)).trans c2, (gi 13 m (by unfold mtI; omega)).trans c3, fun j hj => ?_, ⟨(gi 18 m (by unfold mtI; omega)).trans t1, t2, t3, fun j l hl => ?_, (gl 23 m (by unfold mtL; omega)).trans t5⟩, S, (gi 14 m (by unfold mtI; omega)).trans s1, s2, by omega, fun j q hq => ?_⟩
  · obtain ⟨p1, p2, p3⟩ := c4 j hj
    exact ⟨(gi 15 _ (by unfold mtI; omega)).trans p1, (gi 16 _ (by unfold mtI; omega)).trans p2, (gi 17 _ (by unfold mtI; omega)).trans p3⟩
  · have := (List.getElem?_eq_some_iff.mp hl).1
    exact (t4 j l hl).keep ⟨gi 19 _ (by unfold mtI; omega), gi 20 _ (by unfold mtI; omega), gi 21 _ (by unfold mtI; omega), gl 22 _ (by unfold mtL; omega)⟩
  · have hl := (List.getElem?_eq_some_iff.mp hq).1
    rw [List.length_append, List.length_singleton] at hl
    obtain ⟨g1, g2, g3⟩ := gc (S + j) (by omega)
    obtain ⟨k1, k2, k3⟩ := s4 j q hq
    exact ⟨g1.trans k1, g2.trans k2, g3.trans k3⟩
theorem WMc.keep {C C' : Nat × Nat × Nat × Nat} {a0 a1 : Nat} {ms : List (Mtd × Bool)} {σ τ : Sg} (h : WMc C a0 ms σ) (g10 : τ.i 10 0 = σ.i 10 0) (g24 : τ.i 24 3 = Int32.ofNat a1) (ha : a0 ≤ a1 ∧ a1 < C'.1 ∧ capK C'.1) (gi : ∀ a j, mtI ms.length a j → τ.i a j = σ.i a j) (gl : ∀ a j, mtL ms.length a j → τ.l a j = σ.l a j) (gc : ∀ j, j < a0 → τ.i C'.2.1 j = σ.i C.2.1 j ∧ τ.i C'.2.2.1 j = σ.i C.2.2.1 j ∧ τ.i C'.2.2.2 j = σ.i C.2.2.2 j) : WMc C' a1 ms τ := by
  obtain ⟨m1, m2, m3, ⟨m4, m5, m6⟩, mm⟩ := h
  refine ⟨g10.trans m1, m2, g24, ⟨by omega, ha.2⟩, fun m x hx => ?_⟩
  have := (List.getElem?_eq_some_iff.mp hx).1
  exact (mm m x hx).keep (by omega) ha.1 gi gl gc
section MT2
variable {Z : zT} {d : Nat} {t : Nat → Int32} {n N : Nat} {B : Nat × Nat × Nat × Nat × Nat} {C : Nat × Nat × Nat × Nat} {W : Wld} {w : Int} {σ τ υ : Sg} {K : kS} {vs : List (List Int32)} {R : HR}
/-- the program's code stays -/
def CdY (C : Nat × Nat × Nat × Nat) : Prop := (C.2.1 = 25 ∨ 102 ≤ C.2.1) ∧ (C.2.2.1 = 26 ∨ 102 ≤ C.2.2.1) ∧ (C.2.2.2 = 27 ∨ 102 ≤ C.2.2.2)
def CdK (C C' : Nat × Nat × Nat × Nat) (σ τ : Sg) : Prop := CdY C → 102 ≤ σ.sh.length → ∀ j, j < 902 → τ.i C'.2.1 j = σ.i C.2.1 j ∧ τ.i C'.2.2.1 j = σ.i C.2.2.1 j ∧ τ.i C'.2.2.2 j = σ.i C.2.2.2 j
theorem CdK.tr {C C' C2 : Nat × Nat × Nat × Nat} {σ τ υ : Sg} (h : CdK C C' σ τ) (g : CdK C' C2 τ υ) (f : DcF C C' σ τ) : CdK C C2 σ υ := fun y l j q => by
  obtain ⟨h1, h2, h3⟩ := h y l j q
  obtain ⟨⟨dyn, f1⟩, -, -, -, f5, f6, f7⟩ := f
  have le : σ.sh.length ≤ τ.sh.length := by
    rw [f1, List.length_append]
    exact Nat.le_add_right ..
  obtain ⟨y1, y2, y3⟩ := y
  obtain ⟨g1, g2, g3⟩ := g (by unfold CdY; omega) (by omega) j q
  exact ⟨g1.trans h1, g2.trans h2, g3.trans h3⟩
theorem CdK.ke {C : Nat × Nat × Nat × Nat} {σ τ : Sg} (h : ∀ a j, a = 25 ∨ a = 26 ∨ a = 27 ∨ 102 ≤ a → τ.i a j = σ.i a j) : CdK C C σ τ := fun y _ j _ => by
  obtain ⟨y1, y2, y3⟩ := y
  exact ⟨h _ j (by omega), h _ j (by omega), h _ j (by omega)⟩
/-- what a method's reading leaves of the ints, and all else -/
def GfM (u : Nat) (C C' : Nat × Nat × Nat × Nat) (σ τ : Sg) : Prop := ((∀ a j, a < 10 ∨ (31 ≤ a ∧ a ≤ 39) → τ.i a j = σ.i a j) ∧ ∀ j, j ≤ u → τ.i 14 j = σ.i 14 j) ∧ DcF C C' σ τ ∧ ((τ.sh = σ.sh ∧ C' = C) ∨ (τ.sh = σ.sh ++ [Sh.arr 0 C'.1] ++ [Sh.arr 0 C'.1] ++ [Sh.arr 0 C'.1] ∧ C'.1 = 2 * C.1)) ∧ CdK C C' σ τ
theorem MdF.gf {u : Nat} (h : MdF (u + 1) σ τ) : GfM u C C σ τ := ⟨⟨fun a j q => h.2.2.1 a j (by unfold mdI; omega), fun j q => h.2.2.1 14 j (by unfold mdI; omega)⟩, ⟨⟨[], by rw [h.1, List.append_nil]⟩, fun a _ _ => by rw [h.2.1], fun a _ q _ _ _ => funext fun j => h.2.2.1 a j (fun z => q (by unfold mdI at z; unfold rtI; omega)), fun a _ q1 q2 q3 q4 q5 => funext fun j => h.2.2.2 a j (fun z => by unfold mdL at z; omega), Or.inl rfl, Or.inl rfl, Or.inl rfl⟩, Or.inl ⟨h.1, rfl⟩, CdK.ke (fun a j q => h.2.2.1 a j (by unfold mdI; omega))⟩
end MT2

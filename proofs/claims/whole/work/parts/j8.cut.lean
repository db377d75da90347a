/-! THE CLASS: a text cut, with more room -/
section CUTG
variable {Z : zT} {d : Nat} {t : Nat → Int32} {n A m : Nat} {B : Nat × Nat × Nat × Nat × Nat} {σ τ υ : Sg} {K : kS}
/-- what cutting leaves; B' the rows of signs now -/
def CutR (B B' : Nat × Nat × Nat × Nat × Nat) (σ τ : Sg) : Prop := (FX ΦC τ.sh τ.r ∧ SgA τ B'.1 B'.2.1 B'.2.2.1 B'.2.2.2.1 B'.2.2.2.2) ∧ ((B' = B ∧ τ.sh = σ.sh) ∨ (τ.sh = σ.sh ++ [Sh.arr 0 B'.1] ++ [Sh.arr 0 B'.1] ++ [Sh.arr 1 B'.1] ++ [Sh.arr 1 B'.1] ∧ 2 * B.1 ≤ B'.1 ∧ B'.2.1 = σ.sh.length ∧ B'.2.2.1 = σ.sh.length + 1 ∧ B'.2.2.2.1 = σ.sh.length + 2 ∧ B'.2.2.2.2 = σ.sh.length + 3)) ∧ (∀ a j, a < σ.sh.length → ¬ (a = 41 ∧ j = 4) → a ≠ B.2.1 → a ≠ B.2.2.1 → τ.i a j = σ.i a j) ∧ (∀ a j, a < σ.sh.length → a ≠ B.2.2.2.1 → a ≠ B.2.2.2.2 → τ.l a j = σ.l a j) ∧ ∀ a j, a < σ.sh.length → ¬ (a = 41 ∧ j ≤ 3) → τ.r a j = σ.r a j
/-- a new row, put into a field of the signs -/
def nuA (s : Sh) (k : Nat) (σ : Sg) : Sg := (σ.al s).wr 41 k (Rf.ptr σ.sh.length)
theorem nu_i {s : Sh} {k a j : Nat} (h : a < σ.sh.length) : (nuA s k σ).i a j = σ.i a j := if_neg (by omega)
theorem nu_l {s : Sh} {k a j : Nat} (h : a < σ.sh.length) : (nuA s k σ).l a j = σ.l a j := if_neg (by omega)
theorem nu_r {s : Sh} {k a j : Nat} (h : a < σ.sh.length) (q : ¬ (a = 41 ∧ j = k)) : (nuA s k σ).r a j = σ.r a j := (wr_ne q).trans (if_neg (by omega))
theorem nu_q {s : Sh} {k : Nat} : (nuA s k σ).r 41 k = Rf.ptr σ.sh.length := wr_eq
theorem nu_s {s : Sh} {k : Nat} : (nuA s k σ).sh = σ.sh ++ [s] := rfl
theorem nu_n {s : Sh} {k : Nat} : (nuA s k σ).sh.length = σ.sh.length + 1 := by
  rw [nu_s, List.length_append]
  rfl
theorem nu_f {s : Sh} {k : Nat} (hk : k ≤ 3) (F : FX ΦC σ.sh σ.r) : FX ΦC (nuA s k σ).sh (nuA s k σ).r := by
  have : k = 0 ∨ k = 1 ∨ k = 2 ∨ k = 3 := by omega
  rcases this with rfl | rfl | rfl | rfl
  · exact (FX.al cs_c F).w (by decide +kernel)
  · exact (FX.al cs_c F).w (by decide +kernel)
  · exact (FX.al cs_c F).w (by decide +kernel)
  · exact (FX.al cs_c F).w (by decide +kernel)
theorem cl_cut (hZ : ZK Z) (hd : 21 ≤ d) (F : FX ΦC σ.sh σ.r) (T : TxC t n A m σ) (S : SgA σ B.1 B.2.1 B.2.2.1 B.2.2.2.1 B.2.2.2.2) (k : ∀ τ N B', CutR B B' σ τ → SgS t n N τ B'.2.1 B'.2.2.1 B'.2.2.2.1 B'.2.2.2.2 → N + 1 ≤ B'.1 → K (.inl none) τ) : C_X8_cut_0 Z (d + 1) σ A (Int32.ofNat n) K := by
  obtain ⟨T1, ⟨T2, T2', T2''⟩, T3, T4, T5⟩ := T
  have S' := S
  obtain ⟨⟨a1, a2⟩, ⟨a3, a4⟩, ⟨a5, a6⟩, ⟨a7, a8⟩, ⟨n1, n2⟩, c1, c2, c3, c4, hc⟩ := S
  have l100 : 101 < σ.sh.length := (List.getElem?_eq_some_iff.mp (F.s (a := 101) t0_101)).1
  have lA := (List.getElem?_eq_some_iff.mp T1).1
  have ea : Int32.ofNat n + 2 = Int32.ofNat (n + 2) := (Int32.ofNat_add n 2).symm
  have em : (2 : Int32) * Int32.ofNat B.1 = Int32.ofNat (2 * B.1) := (Int32.ofNat_mul 2 B.1).symm
  refine T_X8_cut_0 F ⟨B.2.1, a1, B.1, a2, fun z => ?_, fun z => ⟨B.2.1, a1, B.1, a2, ?_⟩⟩
  · rw [ea, oN_le (by omega) (by omega)] at z
    refine cl_cut64 (σ := σ.wi 41 4 0) (m := m) hZ hd F ⟨T1, ⟨T2, T2', T2''⟩, fun k hk => (wi_ne (by omega)).trans (T3 k hk), T4, T5⟩ S' z (fun τ N g s => k τ N B ⟨⟨g.fx F, SgA.ct (σ := σ.wi 41 4 0) S' g⟩, Or.inl ⟨rfl, g.1⟩, fun a j _ q1 q2 q3 => (g.2.2.1 a j q1 q2 q3).trans (wi_ne q1), fun a j _ q1 q2 => by rw [g.2.2.2 a q1 q2]; rfl, fun a j _ _ => by rw [g.2.1]; rfl⟩ s (by have := s.2.2.2; omega)) n 0 0 0 _ (by omega) (by omega) (by omega) (by omega) (CtF.refl ..) wi_eq (fun j hj => by omega) rfl
  · rw [ea, oN_le (by omega) (by omega)] at z
    obtain ⟨m', em', hm'⟩ : ∃ m', (if (Int32.ofNat n + (2 : Int32)) < ((2 : Int32) * (Int32.ofNat B.1)) then ((2 : Int32) * (Int32.ofNat B.1)) else (Int32.ofNat n + (2 : Int32))) = Int32.ofNat m' ∧ n + 2 ≤ m' ∧ 2 * B.1 ≤ m' ∧ m' ≤ 16386 := by
      rw [ea, em]
      have lt2 : Int32.ofNat (n + 2) < Int32.ofNat (2 * B.1) ↔ n + 2 < 2 * B.1 := oN_lt (by omega) (by omega)
      by_cases q : n + 2 < 2 * B.1
      · rw [if_pos (lt2.mpr q)]
        exact ⟨2 * B.1, rfl, by omega, by omega, by omega⟩
      · rw [if_neg (fun y => q (lt2.mp y))]
        exact ⟨n + 2, rfl, by omega, by omega, by omega⟩
    rw [em', oN_t (by omega)]
    have no : ¬ (Int32.ofNat m' < 0 ∨ 60000000 < m') := by
      rintro (q | q)
      · rw [show (0 : Int32) = Int32.ofNat 0 from rfl, oN_lt (by omega) (by decide)] at q
        omega
      · omega
    refine ⟨no, no, no, no, ?_⟩
    show C_X8_cut_64 Z (d + 1) ((nuA (Sh.arr 1 m') 3 (nuA (Sh.arr 1 m') 2 (nuA (Sh.arr 0 m') 1 (nuA (Sh.arr 0 m') 0 σ)))).wi 41 4 (0 : Int32)) A (Int32.ofNat n) 0 0 K
    obtain ⟨σ1, e1⟩ : ∃ x, nuA (Sh.arr 0 m') 0 σ = x := ⟨_, rfl⟩
    have s1 : σ1.sh = σ.sh ++ [Sh.arr 0 m'] := by rw [← e1]; rfl
    have k1 : σ1.sh.length = σ.sh.length + 1 := by rw [← e1]; exact nu_n
    have f1 : FX ΦC σ1.sh σ1.r := by rw [← e1]; exact nu_f (by decide) F
    have i1 : ∀ a j, a < σ.sh.length → σ1.i a j = σ.i a j := fun a j q => by rw [← e1]; exact nu_i q
    have j1 : ∀ a j, a < σ.sh.length → σ1.l a j = σ.l a j := fun a j q => by rw [← e1]; exact nu_l q
    have r1 : ∀ a j, a < σ.sh.length → ¬ (a = 41 ∧ j = 0) → σ1.r a j = σ.r a j := fun a j q y => by rw [← e1]; exact nu_r q y
    have q1 : σ1.r 41 0 = Rf.ptr σ.sh.length := by rw [← e1]; exact nu_q
    rw [e1]
    obtain ⟨σ2, e2⟩ : ∃ x, nuA (Sh.arr 0 m') 1 σ1 = x := ⟨_, rfl⟩
    have s2 : σ2.sh = σ1.sh ++ [Sh.arr 0 m'] := by rw [← e2]; rfl
    have k2 : σ2.sh.length = σ1.sh.length + 1 := by rw [← e2]; exact nu_n
    have f2 : FX ΦC σ2.sh σ2.r := by rw [← e2]; exact nu_f (by decide) f1
    have i2 : ∀ a j, a < σ1.sh.length → σ2.i a j = σ1.i a j := fun a j q => by rw [← e2]; exact nu_i q
    have j2 : ∀ a j, a < σ1.sh.length → σ2.l a j = σ1.l a j := fun a j q => by rw [← e2]; exact nu_l q
    have r2 : ∀ a j, a < σ1.sh.length → ¬ (a = 41 ∧ j = 1) → σ2.r a j = σ1.r a j := fun a j q y => by rw [← e2]; exact nu_r q y
    have q2 : σ2.r 41 1 = Rf.ptr σ1.sh.length := by rw [← e2]; exact nu_q
    rw [e2]
    obtain ⟨σ3, e3⟩ : ∃ x, nuA (Sh.arr 1 m') 2 σ2 = x := ⟨_, rfl⟩
    have s3 : σ3.sh = σ2.sh ++ [Sh.arr 1 m'] := by rw [← e3]; rfl
    have k3 : σ3.sh.length = σ2.sh.length + 1 := by rw [← e3]; exact nu_n
    have f3 : FX ΦC σ3.sh σ3.r := by rw [← e3]; exact nu_f (by decide) f2
    have i3 : ∀ a j, a < σ2.sh.length → σ3.i a j = σ2.i a j := fun a j q => by rw [← e3]; exact nu_i q
    have j3 : ∀ a j, a < σ2.sh.length → σ3.l a j = σ2.l a j := fun a j q => by rw [← e3]; exact nu_l q
    have r3 : ∀ a j, a < σ2.sh.length → ¬ (a = 41 ∧ j = 2) → σ3.r a j = σ2.r a j := fun a j q y => by rw [← e3]; exact nu_r q y
    have q3 : σ3.r 41 2 = Rf.ptr σ2.sh.length := by rw [← e3]; exact nu_q
    rw [e3]
    obtain ⟨σ4, e4⟩ : ∃ x, nuA (Sh.arr 1 m') 3 σ3 = x := ⟨_, rfl⟩
    have s4 : σ4.sh = σ3.sh ++ [Sh.arr 1 m'] := by rw [← e4]; rfl
    have f4 : FX ΦC σ4.sh σ4.r := by rw [← e4]; exact nu_f (by decide) f3
    have i4 : ∀ a j, a < σ3.sh.length → σ4.i a j = σ3.i a j := fun a j q => by rw [← e4]; exact nu_i q
    have j4 : ∀ a j, a < σ3.sh.length → σ4.l a j = σ3.l a j := fun a j q => by rw [← e4]; exact nu_l q
    have r4 : ∀ a j, a < σ3.sh.length → ¬ (a = 41 ∧ j = 3) → σ4.r a j = σ3.r a j := fun a j q y => by rw [← e4]; exact nu_r q y
    have q4 : σ4.r 41 3 = Rf.ptr σ3.sh.length := by rw [← e4]; exact nu_q
    rw [e4]
    clear e1 e2 e3 e4
    have gi : ∀ a j, a < σ.sh.length → σ4.i a j = σ.i a j := fun a j q => (i4 a j (by omega)).trans ((i3 a j (by omega)).trans ((i2 a j (by omega)).trans (i1 a j q)))
    have gl : ∀ a j, a < σ.sh.length → σ4.l a j = σ.l a j := fun a j q => (j4 a j (by omega)).trans ((j3 a j (by omega)).trans ((j2 a j (by omega)).trans (j1 a j q)))
    have gr : ∀ a j, a < σ.sh.length → ¬ (a = 41 ∧ j ≤ 3) → σ4.r a j = σ.r a j := fun a j q y => (r4 a j (by omega) (by omega)).trans ((r3 a j (by omega) (by omega)).trans ((r2 a j (by omega) (by omega)).trans (r1 a j q (by omega))))
    have sh : σ4.sh = σ.sh ++ [Sh.arr 0 m'] ++ [Sh.arr 0 m'] ++ [Sh.arr 1 m'] ++ [Sh.arr 1 m'] := by rw [s4, s3, s2, s1]
    have h0 : σ4.sh[σ.sh.length]? = some (Sh.arr 0 m') := by
      rw [s4, List.getElem?_append_left (by omega), s3, List.getElem?_append_left (by omega), s2, List.getElem?_append_left (by omega), s1, List.getElem?_append_right (Nat.le_refl _), Nat.sub_self]
      rfl
    have h1 : σ4.sh[σ.sh.length + 1]? = some (Sh.arr 0 m') := by
      rw [s4, List.getElem?_append_left (by omega), s3, List.getElem?_append_left (by omega), s2, List.getElem?_append_right (by omega), k1, Nat.sub_self]
      rfl
    have h2 : σ4.sh[σ.sh.length + 2]? = some (Sh.arr 1 m') := by
      rw [s4, List.getElem?_append_left (by omega), s3, List.getElem?_append_right (by omega), k2, k1, Nat.sub_self]
      rfl
    have h3 : σ4.sh[σ.sh.length + 3]? = some (Sh.arr 1 m') := by
      rw [s4, List.getElem?_append_right (by omega), k3, k2, k1, Nat.sub_self]
      rfl
    have SA : SgA (σ4.wi 41 4 0) m' σ.sh.length (σ.sh.length + 1) (σ.sh.length + 2) (σ.sh.length + 3) := by
      refine ⟨⟨?_, h0⟩, ⟨?_, h1⟩, ⟨?_, h2⟩, ⟨?_, h3⟩, ⟨by omega, by omega⟩, Or.inr (by omega), Or.inr (by omega), Or.inr (by omega), Or.inr (by omega), by omega⟩
      · exact (r4 41 0 (by omega) (by omega)).trans ((r3 41 0 (by omega) (by omega)).trans ((r2 41 0 (by omega) (by omega)).trans q1))
      · rw [← k1]
        exact (r4 41 1 (by omega) (by omega)).trans ((r3 41 1 (by omega) (by omega)).trans q2)
      · rw [show σ.sh.length + 2 = σ2.sh.length by omega]
        exact (r4 41 2 (by omega) (by omega)).trans q3
      · rw [show σ.sh.length + 3 = σ3.sh.length by omega]
        exact q4
    have TA : σ4.sh[A]? = some (Sh.arr 2 m) := by
      rw [sh, List.getElem?_append_left (by simp only [List.length_append]; omega), List.getElem?_append_left (by simp only [List.length_append]; omega), List.getElem?_append_left (by simp only [List.length_append]; omega), List.getElem?_append_left lA]
      exact T1
    refine cl_cut64 (σ := σ4.wi 41 4 0) (m := m) hZ hd f4 ⟨TA, ⟨T2, T2', T2''⟩, fun k hk => (wi_ne (by omega)).trans ((gi A k lA).trans (T3 k hk)), T4, T5⟩ SA (by omega) (fun τ N g s => k τ N (m', σ.sh.length, σ.sh.length + 1, σ.sh.length + 2, σ.sh.length + 3) ⟨⟨g.fx f4, SA.ct g⟩, Or.inr ⟨by rw [g.1]; exact sh, by omega, rfl, rfl, rfl, rfl⟩, fun a j l q1 _ _ => (g.2.2.1 a j q1 (by omega) (by omega)).trans ((wi_ne q1).trans (gi a j l)), fun a j l _ _ => by rw [g.2.2.2 a (by omega) (by omega)]; exact gl a j l, fun a j l q => by rw [g.2.1]; exact gr a j l q⟩ s (by have := s.2.2.2; show N + 1 ≤ m'; omega)) n 0 0 0 _ (by omega) (by omega) (by omega) (by omega) (CtF.refl ..) wi_eq (fun j hj => by omega) rfl
end CUTG

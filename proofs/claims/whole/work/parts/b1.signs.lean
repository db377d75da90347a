/-! THE CLASS: Signs -/
/-- the rows of signs, that so many have room in -/
def SgA (σ : Sg) (cap b0 b1 b2 b3 : Nat) : Prop := (σ.r 41 0 = Rf.ptr b0 ∧ σ.sh[b0]? = some (Sh.arr 0 cap)) ∧ (σ.r 41 1 = Rf.ptr b1 ∧ σ.sh[b1]? = some (Sh.arr 0 cap)) ∧ (σ.r 41 2 = Rf.ptr b2 ∧ σ.sh[b2]? = some (Sh.arr 1 cap)) ∧ (σ.r 41 3 = Rf.ptr b3 ∧ σ.sh[b3]? = some (Sh.arr 1 cap)) ∧ (b0 ≠ b1 ∧ b2 ≠ b3) ∧ (b0 = 42 ∨ 102 ≤ b0) ∧ (b1 = 43 ∨ 102 ≤ b1) ∧ (b2 = 44 ∨ 102 ≤ b2) ∧ (b3 = 45 ∨ 102 ≤ b3) ∧ cap ≤ 20000
def hdS (t : Nat → Int32) (n p : Nat) : Int64 := if tyS t n p = 2 ∨ 20 ≤ tyS t n p then nmH (nmS t n p) else if tyS t n p = 3 then (skD t n (n - p) p 0).2 else 0
def tlS (t : Nat → Int32) (n p : Nat) : Int64 := if tyS t n p = 2 ∨ 20 ≤ tyS t n p then nmT (nmS t n p) else 0
/-- the j-th sign is the one at p -/
def Sg1 (t : Nat → Int32) (n : Nat) (σ : Sg) (b0 b1 b2 b3 j p : Nat) : Prop := σ.i b0 j = Int32.ofNat (tyS t n p) ∧ σ.i b1 j = Int32.ofNat p ∧ σ.l b2 j = hdS t n p ∧ σ.l b3 j = tlS t n p
/-- what cutting writes -/
def CtF (b0 b1 b2 b3 : Nat) (σ τ : Sg) : Prop := τ.sh = σ.sh ∧ τ.r = σ.r ∧ (∀ a k, ¬ (a = 41 ∧ k = 4) → a ≠ b0 → a ≠ b1 → τ.i a k = σ.i a k) ∧ ∀ a, a ≠ b2 → a ≠ b3 → τ.l a = σ.l a
section CUT
variable {Z : zT} {d : Nat} {t : Nat → Int32} {n : Nat} {σ τ υ : Sg} {K : kS} {cap b0 b1 b2 b3 : Nat}
theorem CtF.refl (b0 b1 b2 b3 : Nat) (σ : Sg) : CtF b0 b1 b2 b3 σ σ := ⟨rfl, rfl, fun _ _ _ _ _ => rfl, fun _ _ _ => rfl⟩
theorem CtF.tr (h : CtF b0 b1 b2 b3 σ τ) (g : CtF b0 b1 b2 b3 τ υ) : CtF b0 b1 b2 b3 σ υ := ⟨g.1.trans h.1, g.2.1.trans h.2.1, fun a k q1 q2 q3 => (g.2.2.1 a k q1 q2 q3).trans (h.2.2.1 a k q1 q2 q3), fun a q1 q2 => (g.2.2.2 a q1 q2).trans (h.2.2.2 a q1 q2)⟩
theorem CtF.fx (h : CtF b0 b1 b2 b3 σ τ) (F : FX ΦC σ.sh σ.r) : FX ΦC τ.sh τ.r := by rw [h.1, h.2.1]; exact F
theorem SgA.ct (h : SgA σ cap b0 b1 b2 b3) (g : CtF b0 b1 b2 b3 σ τ) : SgA τ cap b0 b1 b2 b3 := by
  unfold SgA
  rw [g.1, g.2.1]
  exact h
theorem cl_put {ty pl k : Nat} {hd tl : Int64} (F : FX ΦC σ.sh σ.r) (A : SgA σ cap b0 b1 b2 b3) (e4 : σ.i 41 4 = Int32.ofNat k) (hk : k < cap) (h : ∀ τ, CtF b0 b1 b2 b3 σ τ → τ.i 41 4 = Int32.ofNat (k + 1) → (∀ j, j ≠ k → τ.i b0 j = σ.i b0 j ∧ τ.i b1 j = σ.i b1 j ∧ τ.l b2 j = σ.l b2 j ∧ τ.l b3 j = σ.l b3 j) → (τ.i b0 k = Int32.ofNat ty ∧ τ.i b1 k = Int32.ofNat pl ∧ τ.l b2 k = hd ∧ τ.l b3 k = tl) → K (.inl none) τ) : C_X8_put_0 Z (d + 1) σ (Int32.ofNat ty) (Int32.ofNat pl) hd tl K := by
  obtain ⟨⟨a1, a2⟩, ⟨a3, a4⟩, ⟨a5, a6⟩, ⟨a7, a8⟩, ⟨n1, n2⟩, c1, c2, c3, c4, hc⟩ := A
  refine T_X8_put_0 F ⟨b0, a1, cap, a2, fun z => absurd z ?_, fun _ => ?_⟩
  · rw [e4, oN_le (by omega) (by omega)]
    omega
  · have w1 : (σ.wi b0 ((σ.i 41 4).toNatClampNeg) (Int32.ofNat ty)).i 41 4 = Int32.ofNat k := (wi_ne (by omega)).trans e4
    have w2 : ((σ.wi b0 ((σ.i 41 4).toNatClampNeg) (Int32.ofNat ty)).wi b1 (((σ.wi b0 ((σ.i 41 4).toNatClampNeg) (Int32.ofNat ty)).i 41 4).toNatClampNeg) (Int32.ofNat pl)).i 41 4 = Int32.ofNat k := (wi_ne (by omega)).trans w1
    refine ⟨b0, a1, cap, a2, by rw [e4]; exact ib_oN hk (by omega), b1, a3, cap, a4, by rw [w1]; exact ib_oN hk (by omega), b2, a5, cap, a6, by rw [w2]; exact ib_oN hk (by omega), b3, a7, cap, a8, by rw [w2]; exact ib_oN hk (by omega), ?_⟩
    rw [w2, w1, e4, oN_t (by omega), oN_1]
    refine h _ ⟨rfl, rfl, fun a j q1 q2 q3 => (wi_ne q1).trans ((wi_ne (fun z => q3 z.1)).trans (wi_ne (fun z => q2 z.1))), fun a q1 q2 => funext fun j => (wl_ne (fun z => q2 z.1)).trans (wl_ne (fun z => q1 z.1))⟩ wi_eq (fun j hj => ⟨?_, ?_, ?_, ?_⟩) ⟨?_, ?_, ?_, ?_⟩
    · exact (wi_ne (by omega)).trans ((wi_ne (by omega)).trans (wi_ne (by omega)))
    · exact (wi_ne (by omega)).trans ((wi_ne (by omega)).trans (wi_ne (by omega)))
    · exact (wl_ne (by omega)).trans (wl_ne (by omega))
    · exact (wl_ne (by omega)).trans (wl_ne (by omega))
    · exact (wi_ne (by omega)).trans ((wi_ne (by omega)).trans wi_eq)
    · exact (wi_ne (by omega)).trans wi_eq
    · exact (wl_ne (by omega)).trans wl_eq
    · exact wl_eq
/-- codeOf() -/
theorem cl_code {c : Int32} (F : FX ΦC σ.sh σ.r) (h : K (.inl (some (.int (Int32.ofNat (cdN c))))) σ) : C_X8_codeOf_0 Z (d + 1) σ c K := by
  have q := cdN_or c
  have lt : ∀ k : Nat, k < 2147483648 → (c < Int32.ofNat k ↔ c.toInt < k) ∧ (Int32.ofNat k < c ↔ (k : Int) < c.toInt) := fun k hk => ⟨(i32_le_k c k hk).2, (i32_le_k c k hk).1⟩
  have sub : ∀ (a b : Nat), a < 200 → b < 200 → (a : Int) ≤ c.toInt → c.toInt ≤ 200 → (cdN c : Int) = c.toInt - a + b → (c - Int32.ofNat a) + Int32.ofNat b = Int32.ofNat (cdN c) := fun a b ha hb h1 h2 h3 => by
    rw [i_oN (x := c) (by omega), oN_sub (by omega), oN_add]
    rw [show c.toInt.toNat - a + b = cdN c by omega]
    congr 1
    rw [← i_oN (x := c) (by omega)]
  have p39 : ¬ (97 ≤ c.toInt ∧ c.toInt ≤ 122) → ¬ (65 ≤ c.toInt ∧ c.toInt ≤ 90) → C_X8_codeOf_39 Z (d + 1) σ c K := fun n1 n2 => by
    have fin : ¬ (48 ≤ c.toInt ∧ c.toInt ≤ 57) → (¬ c = 95 → K (.inl (some (.int 0))) σ) ∧ (c = 95 → K (.inl (some (.int 53))) σ) := fun n3 => by
      have e95 := (cdN_i c).2.2.2
      refine ⟨fun z => ?_, fun z => ?_⟩
      · have z : ¬ c.toInt = 95 := fun y => z (e95.mpr y)
        rw [show cdN c = 0 by omega] at h
        exact h
      · have z : c.toInt = 95 := e95.mp z
        rw [show cdN c = 53 by omega] at h
        exact h
    refine T_X8_codeOf_39 F ⟨fun z => ?_, fun z => ⟨fun z2 => ?_, fun z2 => ?_⟩⟩
    · have z := ((lt 48 (by decide)).1).mp z
      exact fin (by omega)
    · have z2 := ((lt 57 (by decide)).2).mp z2
      exact fin (by omega)
    · have z : ¬ c.toInt < (48 : Nat) := fun y => z (((lt 48 (by decide)).1).mpr y)
      have z2 : ¬ ((57 : Nat) : Int) < c.toInt := fun y => z2 (((lt 57 (by decide)).2).mpr y)
      have := sub 48 54 (by decide) (by decide) (by omega) (by omega) (by omega)
      rw [show (48 : Int32) = Int32.ofNat 48 from rfl, show (54 : Int32) = Int32.ofNat 54 from rfl, this]
      exact h
  have p19 : ¬ (97 ≤ c.toInt ∧ c.toInt ≤ 122) → C_X8_codeOf_19 Z (d + 1) σ c K := fun n1 => by
    refine T_X8_codeOf_19 F ⟨fun z => ?_, fun z => ⟨fun z2 => ?_, fun z2 => ?_⟩⟩
    · have z := ((lt 65 (by decide)).1).mp z
      exact p39 n1 (by omega)
    · have z2 := ((lt 90 (by decide)).2).mp z2
      exact p39 n1 (by omega)
    · have z : ¬ c.toInt < (65 : Nat) := fun y => z (((lt 65 (by decide)).1).mpr y)
      have z2 : ¬ ((90 : Nat) : Int) < c.toInt := fun y => z2 (((lt 90 (by decide)).2).mpr y)
      have := sub 65 27 (by decide) (by decide) (by omega) (by omega) (by omega)
      rw [show (65 : Int32) = Int32.ofNat 65 from rfl, show (27 : Int32) = Int32.ofNat 27 from rfl, this]
      exact h
  refine T_X8_codeOf_0 F ⟨fun z => ?_, fun z => ⟨fun z2 => ?_, fun z2 => ?_⟩⟩
  · have z := ((lt 97 (by decide)).1).mp z
    exact p19 (by omega)
  · have z2 := ((lt 122 (by decide)).2).mp z2
    exact p19 (by omega)
  · have z : ¬ c.toInt < (97 : Nat) := fun y => z (((lt 97 (by decide)).1).mpr y)
    have z2 : ¬ ((122 : Nat) : Int) < c.toInt := fun y => z2 (((lt 122 (by decide)).2).mpr y)
    have := sub 97 1 (by decide) (by decide) (by omega) (by omega) (by omega)
    rw [show (97 : Int32) = Int32.ofNat 97 from rfl, show (1 : Int32) = Int32.ofNat 1 from rfl, this]
    exact h
end CUT

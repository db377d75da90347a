/-! THE CLASS: a sign out of a range -/
section RG
variable (t : Nat → Int32) (n : Nat)
def hrg (lo hi : Nat) (R : HR) : HR := hbd R fun p es => if lo ≤ tyS t n p ∧ tyS t n p ≤ hi then .inr (nxS t n p, es) else .inl p
end RG
section RG2
variable {Z : zT} {d : Nat} {t : Nat → Int32} {n N : Nat} {B : Nat × Nat × Nat × Nat × Nat} {C : Nat × Nat × Nat × Nat} {W : Wld} {σ τ υ : Sg} {K : kS} {vs : List (List Int32)} {R : HR}
theorem hsg_b (R : HR) : hsg t n R ≤ 52 := by
  rcases R with q | ⟨p, es⟩
  · exact Nat.zero_le _
  · exact ty_b
theorem h_rng {lo hi : Nat} {s1 : Int32} (hlo : 2 ≤ lo) (hhi : hi ≤ 52) (h1 : lo ≤ hsg t n R ∧ hsg t n R ≤ hi → s1 = Int32.ofNat (hsg t n R)) (h0 : ¬ (lo ≤ hsg t n R ∧ hsg t n R ≤ hi) → s1 = -1) (hB : HB t n N B C W σ) (h : BdS t n N vs R σ) (k : ∀ τ, HdF σ τ → BdS t n N vs (hrg t n lo hi R) τ → K (.inl none) τ) : C_X7_take_0 Z (d + 1) σ s1 K := by
  by_cases z : lo ≤ hsg t n R ∧ hsg t n R ≤ hi
  · rw [h1 z]
    have e : hrg t n lo hi R = htk t n (hsg t n R) R := by
      rcases R with q | ⟨p, es⟩
      · rfl
      · have z : lo ≤ tyS t n p ∧ tyS t n p ≤ hi := z
        show (if lo ≤ tyS t n p ∧ tyS t n p ≤ hi then _ else _) = (if tyS t n p = tyS t n p then _ else _)
        rw [if_pos z, if_pos rfl]
    rw [e] at k
    exact h_take (by omega) hB h k
  · rw [h0 z]
    have e : hrg t n lo hi R = hnv R := by
      rcases R with q | ⟨p, es⟩
      · rfl
      · exact if_neg z
    rw [e] at k
    exact h_never hB h k
/-- a call's join and way, as far as the last signs -/
theorem cl_ca103 {l1 l2 l3 s1 : Int32} (h1 : 34 ≤ hsg t n R ∧ hsg t n R ≤ 38 → s1 = Int32.ofNat (hsg t n R)) (h0 : ¬ (34 ≤ hsg t n R ∧ hsg t n R ≤ 38) → s1 = -1) (hB : HB t n N B C W σ) (h : BdS t n N vs R σ) (k : ∀ τ (s2 : Int32), HdF σ τ → BdS t n N vs (hrg t n 34 38 R) τ → (39 ≤ hsg t n (hrg t n 34 38 R) ∧ hsg t n (hrg t n 34 38 R) ≤ 41 → s2 = Int32.ofNat (hsg t n (hrg t n 34 38 R))) → (¬ (39 ≤ hsg t n (hrg t n 34 38 R) ∧ hsg t n (hrg t n 34 38 R) ≤ 41) → s2 = -1) → C_X7_readCall_142 Z (d + 2) τ l1 l2 l3 (Int32.ofNat (hsg t n (hrg t n 34 38 R)) - 39) s2 K) : C_X7_readCall_103 Z (d + 2) σ l1 l2 l3 s1 K := by
  refine T_X7_readCall_103 hB.1 (h_rng (by decide) (by decide) h1 h0 hB h (fun τ1 f1 b1 => ?_))
  have hB1 := hB.hd f1
  have tb := hsg_b (t := t) (n := n) (hrg t n 34 38 R)
  refine h_sign hB1 b1 (h_sign hB1 b1 ?_)
  show (Int32.ofNat (hsg t n (hrg t n 34 38 R)) < Int32.ofNat 39 → _) ∧ (¬ Int32.ofNat (hsg t n (hrg t n 34 38 R)) < Int32.ofNat 39 → _)
  rw [oN_lt (by omega) (by decide)]
  refine ⟨fun z => T_X7_readCall_141 hB1.1 (k τ1 (-1) f1 b1 (fun y => absurd y (by omega)) (fun _ => rfl)), fun z => h_sign hB1 b1 ?_⟩
  show (Int32.ofNat 41 < Int32.ofNat (hsg t n (hrg t n 34 38 R)) → _) ∧ (¬ Int32.ofNat 41 < Int32.ofNat (hsg t n (hrg t n 34 38 R)) → _)
  rw [oN_lt (by decide) (by omega)]
  exact ⟨fun z2 => T_X7_readCall_141 hB1.1 (k τ1 (-1) f1 b1 (fun y => absurd y (by omega)) (fun _ => rfl)), fun z2 => h_sign hB1 b1 (k τ1 _ f1 b1 (fun _ => rfl) (fun y => absurd (by omega) y))⟩
end RG2

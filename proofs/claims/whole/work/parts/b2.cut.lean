/-! THE CLASS: numbers, names and marks cut -/
theorem ub_i {x : Int32} (h : by8 x) : (x &&& 255).toInt = if 0 ≤ x.toInt then x.toInt else x.toInt + 256 := by
  have key : ∀ k : Fin 256, ((Int32.ofInt ((k.val : Int) - 128)) &&& 255).toInt = if 0 ≤ (k.val : Int) - 128 then (k.val : Int) - 128 else (k.val : Int) - 128 + 256 := by decide +kernel
  obtain ⟨h1, h2⟩ := h
  have := key ⟨(x.toInt + 128).toNat, by omega⟩
  dsimp only at this
  rw [show (((x.toInt + 128).toNat : Nat) : Int) - 128 = x.toInt by omega, Int32.ofInt_toInt] at this
  exact this
theorem ub_eq {x : Int32} (h : by8 x) {c : Nat} (hc : c < 128) : (x &&& 255) = Int32.ofNat c ↔ x = Int32.ofNat c := by
  have e := ub_i h
  rw [← Int32.toInt_inj, ← Int32.toInt_inj, oN_i (by omega), e]
  obtain ⟨h1, h2⟩ := h
  split <;> omega
theorem ub_cd {x : Int32} (h : by8 x) : cdN (x &&& 255) = cdN x := by
  have e := ub_i h
  obtain ⟨h1, h2⟩ := h
  have q1 := cdN_or (x &&& 255)
  have q2 := cdN_or x
  rw [e] at q1
  split at q1 <;> omega
theorem skB_f1 (t : Nat → Int32) (n : Nat) : ∀ m a, n - a ≤ m → skB t n (m + 1) a = skB t n m a
  | 0, a, h => by
    have e : skB t n (0 + 1) a = if a < n then (if t a = 36 then skB t n 0 (skR t n (n - a) a) else if t a = 9 ∨ t a = 10 ∨ t a = 13 ∨ t a = 32 then skB t n 0 (a + 1) else a) else a := rfl
    rw [e, if_neg (by omega)]
    rfl
  | m + 1, a, h => by
    rw [skB]
    conv => rhs; rw [skB]
    by_cases ha : a < n
    · rw [if_pos ha, if_pos ha]
      by_cases h36 : t a = 36
      · rw [if_pos h36, if_pos h36]
        obtain ⟨r, hr⟩ : ∃ r, n - a = r + 1 := ⟨n - a - 1, by omega⟩
        have g := skR_gt t n (m := r) ha h36
        rw [← hr] at g
        exact skB_f1 t n m _ (by omega)
      · rw [if_neg h36, if_neg h36]
        split
        · exact skB_f1 t n m _ (by omega)
        · rfl
    · rw [if_neg ha, if_neg ha]
theorem skB_fu (t : Nat → Int32) (n : Nat) : ∀ m a, n - a ≤ m → skB t n m a = skB t n (n - a) a
  | 0, a, h => by rw [show n - a = 0 by omega]
  | m + 1, a, h => by
    by_cases q : n - a = m + 1
    · rw [q]
    · rw [skB_f1 t n m a (by omega), skB_fu t n m a (by omega)]
/-- the text, in the class's heap -/
def TxC (t : Nat → Int32) (n A m : Nat) (σ : Sg) : Prop := σ.sh[A]? = some (Sh.arr 2 m) ∧ (n ≤ m ∧ n ≤ 8192 ∧ m ≤ 8192) ∧ (∀ k, k < n → σ.i A k = t k) ∧ (∀ k, by8 (t k)) ∧ 100 ≤ A
section CUT2
variable {Z : zT} {d : Nat} {t : Nat → Int32} {n A m : Nat} {σ τ υ : Sg} {K : kS} {cap b0 b1 b2 b3 : Nat}
theorem TxC.ct (h : TxC t n A m σ) (S : SgA σ cap b0 b1 b2 b3) (g : CtF b0 b1 b2 b3 σ τ) : TxC t n A m τ := by
  obtain ⟨h1, h2, h3, h4, h5⟩ := h
  have n0 : A ≠ b0 := fun z => by
    rw [z, S.1.2] at h1
    cases h1
  have n1 : A ≠ b1 := fun z => by
    rw [z, S.2.1.2] at h1
    cases h1
  exact ⟨by rw [g.1]; exact h1, h2, fun k hk => (g.2.2.1 A k (by omega) n0 n1).trans (h3 k hk), h4, h5⟩
/-- a sign was put: the k-th, at p -/
def PuR (t : Nat → Int32) (n : Nat) (b0 b1 b2 b3 k p : Nat) (σ τ : Sg) : Prop := CtF b0 b1 b2 b3 σ τ ∧ τ.i 41 4 = Int32.ofNat (k + 1) ∧ (∀ j, j ≠ k → τ.i b0 j = σ.i b0 j ∧ τ.i b1 j = σ.i b1 j ∧ τ.l b2 j = σ.l b2 j ∧ τ.l b3 j = σ.l b3 j) ∧ Sg1 t n τ b0 b1 b2 b3 k p
theorem cl_puts {k p : Nat} {ty : Int32} {hd tl : Int64} (F : FX ΦC σ.sh σ.r) (S : SgA σ cap b0 b1 b2 b3) (e4 : σ.i 41 4 = Int32.ofNat k) (hk : k < cap) (ht : ty = Int32.ofNat (tyS t n p)) (hh : hd = hdS t n p) (hl : tl = tlS t n p) (h : ∀ τ, PuR t n b0 b1 b2 b3 k p σ τ → K (.inl none) τ) : C_X8_put_0 Z (d + 1) σ ty (Int32.ofNat p) hd tl K := by
  rw [ht, hh, hl]
  exact cl_put F S e4 hk (fun τ g e q1 q2 => h τ ⟨g, e, q1, q2⟩)
/-- numbers -/
theorem dg_64 {x : Int32} (h : isDig x) (v : Int64) : ((10 : Int64) * v) + (Int32.toInt64 (x - (48 : Int32))) = (((10 : Int64) * v) + (Int32.toInt64 x)) - (48 : Int64) := by
  have e : Int32.toInt64 (x - 48) = Int32.toInt64 x - 48 := by
    have hx := ((cdN_i x).2.2.1).mp h
    apply Int64.toInt_inj.mp
    rw [Int32.toInt_toInt64, Int64.toInt_sub, Int32.toInt_toInt64, Int32.toInt_sub, show (48 : Int32).toInt = 48 from rfl, show (48 : Int64).toInt = 48 from rfl, Int.bmod_def, Int.bmod_def]
    omega
  rw [e, Int64.sub_eq_add_neg, Int64.sub_eq_add_neg, Int64.add_assoc]
theorem cl_skD (F : FX ΦC σ.sh σ.r) (T : TxC t n A m σ) {p : Nat} : ∀ f a (v : Int64), a ≤ n → n - a ≤ f → C_X8_cutNumber_59 Z (d + 1) σ (Int32.ofNat n) (Int32.ofNat p) (skD t n f a v).2 (Int32.ofNat (skD t n f a v).1) K → C_X8_cutNumber_6 Z (d + 1) σ A (Int32.ofNat n) (Int32.ofNat p) v (Int32.ofNat a) K
  | 0, a, v, ha, hf, w => by
    obtain ⟨h1, h2, h3, h4, h5⟩ := T
    refine T_X8_cutNumber_6 F ⟨fun _ => w, fun z => absurd ?_ z⟩
    rw [oN_le (by omega) (by omega)]
    omega
  | f + 1, a, v, ha, hf, w => by
    have T' := T
    obtain ⟨h1, h2, h3, h4, h5⟩ := T
    rw [skD] at w
    by_cases q : a < n
    · have lt : ∀ k : Nat, k < 2147483648 → (t a < Int32.ofNat k ↔ (t a).toInt < k) ∧ (Int32.ofNat k < t a ↔ (k : Int) < (t a).toInt) := fun k hk => ⟨(i32_le_k _ k hk).2, (i32_le_k _ k hk).1⟩
      have dg := (cdN_i (t a)).2.2.1
      refine T_X8_cutNumber_6 F ⟨fun z => absurd z ?_, fun _ => ⟨m, h1, ib_oN (by omega) (by omega), ?_⟩⟩
      · rw [oN_le (by omega) (by omega)]
        omega
      · rw [oN_t (by omega), h3 a q, oN_1]
        refine ⟨fun z => ?_, fun z => ⟨ib_oN (by omega) (by omega), fun z2 => ?_, fun z2 => ⟨ib_oN (by omega) (by omega), ?_⟩⟩⟩
        · have z := ((lt 48 (by decide)).1).mp z
          rw [if_neg (fun y => by have := dg.mp y.2; omega)] at w
          exact w
        · have z2 := ((lt 57 (by decide)).2).mp z2
          rw [if_neg (fun y => by have := dg.mp y.2; omega)] at w
          exact w
        · have z : ¬ (t a).toInt < (48 : Nat) := fun y => z (((lt 48 (by decide)).1).mpr y)
          have z2 : ¬ ((57 : Nat) : Int) < (t a).toInt := fun y => z2 (((lt 57 (by decide)).2).mpr y)
          have hd : isDig (t a) := dg.mpr (by omega)
          rw [if_pos ⟨q, hd⟩] at w
          rw [dg_64 hd]
          exact cl_skD F T' f (a + 1) _ (by omega) (by omega) w
    · rw [if_neg (fun y => q y.1)] at w
      refine T_X8_cutNumber_6 F ⟨fun _ => w, fun z => absurd ?_ z⟩
      rw [oN_le (by omega) (by omega)]
      omega
/-- the place behind a sign, as the class has it -/
def enC (t : Nat → Int32) (n p : Nat) : Nat := if tyS t n p ≤ 1 then n else enS t n p
theorem cl_number {k p : Nat} (F : FX ΦC σ.sh σ.r) (T : TxC t n A m σ) (S : SgA σ cap b0 b1 b2 b3) (e4 : σ.i 41 4 = Int32.ofNat k) (hk : k < cap) (hp : p < n) (hd : isDig (t p)) (h : ∀ τ, PuR t n b0 b1 b2 b3 k p σ τ → K (.inl (some (.int (Int32.ofNat (enC t n p))))) τ) : C_X8_cutNumber_0 Z (d + 2) σ A (Int32.ofNat n) (Int32.ofNat p) K := by
  have hnl : ¬ isLet (t p) := fun z => by
    obtain ⟨q1, q2, q3, q4⟩ := cdN_i (t p)
    have hd := q3.mp hd
    rcases z with z | z | z
    · have := q1.mp z
      omega
    · have := q2.mp z
      omega
    · have := q4.mp z
      omega
  have so : soS t n p = if lg_cmp (skD t n (n - p) p 0).2 2147483647 ≤ 0 then 3 else 5 := by
    unfold soS
    rw [if_pos hp, if_neg hnl, if_pos hd]
  have en : enS t n p = (skD t n (n - p) p 0).1 := by
    unfold enS
    rw [if_pos hp, if_neg hnl, if_pos hd]
  refine T_X8_cutNumber_0 F (cl_skD F T (n - p) p 0 (by omega) (Nat.le_refl _) (T_X8_cutNumber_59 F ⟨fun z => ?_, fun z => ?_⟩))
  · rw [if_pos z] at so
    have ty : tyS t n p = 3 := by
      unfold tyS
      rw [so]
      rfl
    refine cl_puts F S e4 hk (p := p) (t := t) (n := n) (by rw [ty]; rfl) (by unfold hdS; rw [ty]; rfl) (by unfold tlS; rw [ty]; rfl) (fun τ g => ?_)
    have := h τ g
    unfold enC at this
    rw [ty, if_neg (by decide), en] at this
    exact this
  · rw [if_neg z] at so
    have ty : tyS t n p = 1 := by
      unfold tyS
      rw [so]
      rfl
    refine cl_puts F S e4 hk (p := p) (t := t) (n := n) (by rw [ty]; rfl) (by unfold hdS; rw [ty]; rfl) (by unfold tlS; rw [ty]; rfl) (fun τ g => ?_)
    have := h τ g
    unfold enC at this
    rw [ty, if_pos (by decide)] at this
    exact this
end CUT2

/-! THE REFERENCE: start(), what it is between calls -/
/-- the place of the first sign -/
def fiS (t : Nat → Int32) (n : Nat) : Nat := skB t n (n - 0) 0
def StF (σ τ : Sg) : Prop := τ.sh = σ.sh ∧ τ.l = σ.l ∧ (∀ a k, ¬ (a = 0 ∧ (k = 16 ∨ k = 17 ∨ k = 18 ∨ k = 19 ∨ k = 20 ∨ k = 23 ∨ k = 24 ∨ k = 26)) → τ.i a k = σ.i a k) ∧ (∀ a k, ¬ (a = 0 ∧ k = 25) → τ.r a k = σ.r a k)
theorem fi_le (t : Nat → Int32) (n : Nat) : fiS t n ≤ n := by
  have : ∀ m a, a ≤ n → skB t n m a ≤ n := by
    intro m
    induction m with
    | zero => intro a h; exact h
    | succ m ih =>
      intro a h
      unfold skB
      split
      · split
        · exact ih _ ((skR_le t n _ a).2 h)
        · split
          · exact ih _ (by omega)
          · exact h
      · exact h
  exact this _ 0 (Nat.zero_le _)
theorem rf_start {Z : zT} {d n : Nat} {t : Nat → Int32} {σ : Sg} {K : kS} (hZ : ZK Z) (hd : 16 ≤ d) (F : FX ΦR σ.sh σ.r) (hT : TX t n σ) (k : ∀ τ, FX ΦR τ.sh τ.r → StF σ τ → Cur t n (fiS t n) τ → τ.i 0 20 = 0 → τ.i 0 23 = -1 → τ.i 0 24 = 0 → K (.inl none) τ) : B_X23_start_0 Z d σ K := by
  obtain ⟨d, rfl⟩ : ∃ e, d = e + 4 := ⟨d - 4, by omega⟩
  refine S_X23_start_0 (d := d + 3) F ?_
  obtain ⟨σ1, h1⟩ : ∃ x, x = (((σ.wi 0 16 (0 : Int32)).wi 0 20 (0 : Int32)).wi 0 23 (-1 : Int32)).wi 0 24 (0 : Int32) := ⟨_, rfl⟩
  rw [← h1]
  have hi : ∀ a k, ¬ (a = 0 ∧ (k = 16 ∨ k = 20 ∨ k = 23 ∨ k = 24)) → σ1.i a k = σ.i a k := fun a k hk => by
    rw [h1, wi_ne (by omega), wi_ne (by omega), wi_ne (by omega), wi_ne (by omega)]
  have e16 : σ1.i 0 16 = Int32.ofNat 0 := by
    rw [h1, wi_ne (by decide), wi_ne (by decide), wi_ne (by decide), wi_at]
    rfl
  have e20 : σ1.i 0 20 = 0 := by
    rw [h1, wi_ne (by decide), wi_ne (by decide), wi_at]
  have e23 : σ1.i 0 23 = -1 := by
    rw [h1, wi_ne (by decide), wi_at]
  have e24 : σ1.i 0 24 = 0 := by
    rw [h1, wi_at]
  have es : σ1.sh = σ.sh ∧ σ1.l = σ.l ∧ σ1.r = σ.r := by
    rw [h1]
    exact ⟨rfl, rfl, rfl⟩
  obtain ⟨t1, t2, t3, t4⟩ := hT
  have F1 : FX ΦR σ1.sh σ1.r := by
    rw [es.1, es.2.2]
    exact F
  refine rf_next (a := 0) hZ (by omega) F1 t1 ((hi 0 15 (by decide)).trans t2) (fun k hk => (hi 37 k (by omega)).trans (t3 k hk)) t4 (Nat.zero_le _) e16 (fun τ h => ?_)
  obtain ⟨g1, g2, g3⟩ := nx_cur (fi_le t n) F1 h
  refine k τ g1 ⟨g2.1.trans es.1, g2.2.1.trans es.2.1, fun a k hk => (g2.2.2.1 a k (fun q => hk ⟨q.1, by omega⟩)).trans (hi a k (fun q => hk ⟨q.1, by omega⟩)), fun a k hk => (g2.2.2.2 a k hk).trans (by rw [es.2.2])⟩ g3 ((g2.2.2.1 0 20 (by decide)).trans e20) ((g2.2.2.1 0 23 (by decide)).trans e23) ((g2.2.2.1 0 24 (by decide)).trans e24)
/-- a list of Nodes, so many of them in use -/
def NdS (σ : Sg) (N : Nat) (m : Nat) (lst : List Nat) (cap : Nat) : Prop := LsS σ (N + 1) lst cap ∧ σ.i N 1 = Int32.ofNat m ∧ m ≤ lst.length ∧ lst.length ≤ 23400 ∧ cap ≤ 2 * lst.length + 10
/-- the reference between two calls: its world, its program, its tape -/
def RefR (W : Wld) (pg : Ast) (t : Nat → Int32) (n m : Nat) (lst : List Nat) (cap m7 : Nat) (lst7 : List Nat) (cap7 : Nat) (σ : Sg) : Prop :=
  FX ΦR σ.sh σ.r ∧ W3 W.1 W.2.1 W.2.2.1 σ ∧ (σ.i 0 6 = Int32.ofNat W.2.2.2.length ∧ W.2.2.2.length ≤ 120) ∧ MsL W.2.2.2 W.2.1 σ lst m ∧ RbR W.1 W.2.1 W.2.2.2 σ ∧
  (TX t n σ ∧ ∀ k, by8 (t k)) ∧ NdS σ 5 m lst cap ∧ NdS σ 7 m7 lst7 cap7 ∧ ((∀ v ∈ lst, v ∉ lst7) ∧ ∀ b, σ.r 6 1 = Rf.ptr b → σ.r 8 1 ≠ Rf.ptr b) ∧ TrN σ (Rg lst7 0 m7) pg (σ.r 0 10)
/-- what tell() leaves as it was, beside the world -/
def KpR (σ τ : Sg) : Prop :=
  (∀ a, 9 ≤ a → a < 3365 → ¬ (10 ≤ a ∧ a ≤ 36) → ¬ (38 ≤ a ∧ a ≤ 54) → ¬ (2193 ≤ a ∧ a < 2981) → τ.i a = σ.i a ∧ τ.l a = σ.l a ∧ τ.r a = σ.r a) ∧
  (∀ k, ¬ rdK k → k ≠ 33 → k ≠ 15 → k ≠ 110 → k ≠ 112 → ¬ (4 ≤ k ∧ k ≤ 7) → τ.i 0 k = σ.i 0 k) ∧ τ.l 0 = σ.l 0 ∧ (∀ k, k ≠ 25 → k ≠ 34 → τ.r 0 k = σ.r 0 k)
/-- the room that reading takes -/
def RmW (sh sh' : List Sh) (k cap cap' : Nat) : Prop := ∃ ext, sh' = sh ++ ext ∧ ext.length ≤ 2 * k + 1 ∧ szS ext + 3 * cap ≤ 13 * k + 3 * cap' + 7

/-! TESTS AND BODIES THAT WERE READ WITHOUT FAULT -/
theorem i32_le (x : Int32) : -2147483648 ≤ x.toInt ∧ x.toInt ≤ 2147483647 := ⟨Int32.le_toInt x, by have := Int32.toInt_lt x; omega⟩
theorem skD_nn (t : Nat → Int32) (n : Nat) : ∀ m a v, 0 ≤ v.toInt → v.toInt ≤ 1099511627776 → 0 ≤ (skD t n m a v).2.toInt ∧ (skD t n m a v).2.toInt ≤ 1099511627776
  | 0, a, v, h1, h2 => ⟨h1, h2⟩
  | m + 1, a, v, h1, h2 => by
    rw [skD]
    split
    · rename_i hd
      obtain ⟨d1, d2⟩ := hd.2
      rw [Int32.le_iff_toInt_le] at d1 d2
      have d1 : 48 ≤ (t a).toInt := d1
      have d2 : (t a).toInt ≤ 57 := d2
      have e1 : ((10 : Int64) * v).toInt = 10 * v.toInt := by
        rw [Int64.toInt_mul, show (10 : Int64).toInt = 10 from rfl, Int.bmod_def]
        omega
      have e2 : (((10 : Int64) * v) + (Int32.toInt64 (t a))).toInt = 10 * v.toInt + (t a).toInt := by
        have e3 : (Int32.toInt64 (t a)).toInt = (t a).toInt := Int32.toInt_toInt64 _
        rw [i64_add (by rw [e1, e3]; omega) (by rw [e1, e3]; omega), e1, e3]
      have e4 : ((((10 : Int64) * v) + (Int32.toInt64 (t a))) - (48 : Int64)).toInt = 10 * v.toInt + (t a).toInt - 48 := by
        rw [Int64.toInt_sub, e2, show (48 : Int64).toInt = 48 from rfl, Int.bmod_def]
        omega
      refine skD_nn t n m _ _ ?_ ?_
      · split
        · decide
        · omega
      · split
        · decide
        · rename_i hlt
          rw [Int64.lt_iff_toInt_lt] at hlt
          have : ¬ (1099511627776 : Int) < ((((10 : Int64) * v) + (Int32.toInt64 (t a))) - (48 : Int64)).toInt := hlt
          omega
    · exact ⟨h1, h2⟩
theorem va_nn {t : Nat → Int32} {n p : Nat} (h : tyS t n p = 3) : 0 ≤ (vaS t n p).toInt := by
  have hs : soS t n p = 3 ∧ p < n ∧ ¬ isLet (t p) := by
    rcases ty_or t n p with ⟨a, -⟩ | ⟨a, -⟩ | ⟨a, -⟩ | ⟨-, a⟩ | ⟨-, -, -, a⟩ | ⟨-, -, -, -, a⟩
    · omega
    · omega
    · omega
    · exact a
    · exfalso
      rcases a with a | ⟨q, hq, -, a⟩
      · omega
      · have : ∀ q ∈ mkL2, q.2 ≠ 3 := by decide
        exact this q hq (by omega)
    · exfalso
      rcases a with a | ⟨q, hq, -, a⟩
      · omega
      · have : ∀ q ∈ wdL, q.2 ≠ 3 := by decide
        exact this q hq (by omega)
  obtain ⟨h1, h2, h3⟩ := hs
  unfold soS at h1
  rw [if_pos h2, if_neg h3] at h1
  by_cases hd : isDig (t p)
  · rw [if_pos hd] at h1
    by_cases hc : lg_cmp (skD t n (n - p) p 0).2 2147483647 ≤ 0
    · have hv := skD_nn t n (n - p) p 0 (by decide) (by decide)
      unfold vaS
      rw [if_pos hd]
      generalize (skD t n (n - p) p 0).2 = v at *
      have hle : v.toInt ≤ 2147483647 := by
        unfold lg_cmp at hc
        split at hc
        · exact absurd hc (by decide)
        · rename_i q
          have q : ¬ (2147483647 : Int) < v.toInt := fun z => q (Int64.lt_iff_toInt_lt.mpr z)
          omega
      rw [Int64.toInt_toInt32, Int.bmod_def]
      omega
    · rw [if_neg hc] at h1
      exact absurd h1 (by decide)
  · rw [if_neg hd] at h1
    split at h1 <;> exact absurd h1 (by decide)
/-- how many comparisons and is-tests -/
def lfN : Ast → Nat
  | .tag op (.nest _ (.nest _ (.append a (.append b .nil)))) => if op = 8 ∨ op = 9 then 1 else lfN a + lfN b
  | _ => 0
theorem lfN_2 (op : Nat) (y w : Int) (a b : Ast) : lfN (aN op y w a b .nil) = if op = 8 ∨ op = 9 then 1 else lfN a + lfN b := rfl
theorem tsW_2 (kn pl op : Nat) (v w : Int) (a b : Ast) : tsW kn pl (aN op v w a b .nil) = ((op = 8 ∧ b = .nil ∧ (v = 15 ∨ v = 16 ∨ v = 17) ∧ (-1 ≤ w ∧ w < pl) ∧ ∃ pb mo, a = .nest pb (.nest mo .nil) ∧ (-1 ≤ pb ∧ pb < pl) ∧ (-4294967294 ≤ mo ∧ mo ≤ 4294967294)) ∨
    (op = 9 ∧ a = .nil ∧ b = .nil ∧ (0 ≤ v ∧ v < kn) ∧ (0 ≤ w ∧ w < pl)) ∨ ((op = 20 ∨ op = 21) ∧ tsW kn pl a ∧ tsW kn pl b) ∨ (op = 22 ∧ tsW kn pl a ∧ b = .nil)) := rfl
theorem ap_nil {α : Type} {a b : List α} (h : a ++ b = []) : a = [] ∧ b = [] := List.append_eq_nil_iff.mp h
theorem lstI_lt {vs : List (List Int32)} {nm : List Int32} {k : Nat} (h : lstI vs nm = some k) : k < vs.length := by
  unfold lstI at h
  have := List.mem_filter.mp (List.mem_of_getLast? h)
  exact List.mem_range.mp this.1
theorem sp_ok {vs : List (List Int32)} {nm : List Int32} {w : Nat} (h : spE vs nm w = []) : 0 ≤ spV vs nm ∧ spV vs nm < vs.length := by
  unfold spE at h
  unfold spV
  cases hx : lstI vs nm with
  | none =>
    rw [hx] at h
    exact absurd h (by simp)
  | some k =>
    have := lstI_lt hx
    show (0 : Int) ≤ (k : Int) ∧ (k : Int) < _
    omega
theorem ct_ok {k w : Nat} (h : ctE k w = []) (hk : k ≤ 6) : k + 1 ≤ 6 := by
  unfold ctE at h
  by_cases q : k = 6
  · rw [q, if_pos (by decide)] at h
    exact absurd h (by simp)
  · omega
section WFT
variable {t : Nat → Int32} {n : Nat} {env : Env} {kn : Nat}
theorem sg_ok {p p' : Nat} {v : Int} (h : pSg t n p = .inr (v, p')) : -2147483647 ≤ v ∧ v ≤ 2147483647 := by
  unfold pSg at h
  split at h
  · split at h
    · rename_i h3
      cases h
      have := va_nn h3
      have := i32_le (vaS t n (nxS t n p))
      omega
    · cases h
  · split at h
    · rename_i h3
      cases h
      have := va_nn h3
      have := i32_le (vaS t n p)
      omega
    · cases h
theorem bh_ok {p p' : Nat} {v : Int} (h : pBh t n p = .inr (v, p')) : -2147483647 ≤ v ∧ v ≤ 2147483647 := by
  unfold pBh at h
  split at h
  · split at h
    · rename_i h3
      have h1 := va_nn h3
      have h2 := i32_le (vaS t n (nxS t n p))
      have e := (Prod.mk.inj (Sum.inr.inj h)).1
      rw [← e]
      split <;> omega
    · cases h
  · cases h
    omega
/-- what was read is well formed, its comparisons are counted -/
def WfP (kn : Nat) (f : Pf) : Prop := ∀ vs p k p' k' x, f vs p k = .inr (p', k', [], x) → k ≤ 6 → tsW kn vs.length x ∧ k' = k + lfN x ∧ k' ≤ 6
theorem c2_ok {vs : List (List Int32)} {p1 k w p' k' : Nat} {es : Evs} {pa mo : Int} {x : Ast} (h : pC2 t n vs p1 k w es pa mo = .inr (p', k', [], x)) (hk : k ≤ 6) (hpa : es = [] → -1 ≤ pa ∧ pa < vs.length) (hmo : -2147483647 ≤ mo ∧ mo ≤ 2147483647) : tsW kn vs.length x ∧ k' = k + lfN x ∧ k' ≤ 6 := by
  unfold pC2 at h
  split at h
  · rename_i ho
    have hop : (tyS t n p1 : Int) = 15 ∨ (tyS t n p1 : Int) = 16 ∨ (tyS t n p1 : Int) = 17 := by omega
    split at h
    · split at h
      · cases h
      · rename_i b p2 hb
        have hb := bh_ok hb
        obtain ⟨e1, e2⟩ := Prod.mk.inj (Sum.inr.inj h)
        obtain ⟨e2, e3⟩ := Prod.mk.inj e2
        obtain ⟨e3, e4⟩ := Prod.mk.inj e3
        obtain ⟨g1, g2⟩ := ap_nil e3
        obtain ⟨g3, g4⟩ := ap_nil g1
        have hs := sp_ok g2
        have hc := ct_ok g4 hk
        rw [← e4, tsW_2, lfN_2]
        refine ⟨Or.inl ⟨rfl, rfl, hop, hpa g3, _, _, rfl, ⟨by omega, hs.2⟩, by omega⟩, ?_, by omega⟩
        rw [← e2]
        rfl
    · split at h
      · cases h
      · rename_i b p2 hb
        have hb := sg_ok hb
        obtain ⟨e1, e2⟩ := Prod.mk.inj (Sum.inr.inj h)
        obtain ⟨e2, e3⟩ := Prod.mk.inj e2
        obtain ⟨e3, e4⟩ := Prod.mk.inj e3
        obtain ⟨g3, g4⟩ := ap_nil e3
        have hc := ct_ok g4 hk
        rw [← e4, tsW_2, lfN_2]
        refine ⟨Or.inl ⟨rfl, rfl, hop, hpa g3, _, _, rfl, ⟨by omega, by omega⟩, by omega⟩, ?_, by omega⟩
        rw [← e2]
        rfl
  · cases h
theorem cm_ok (hE : ∀ nm k, env.1 nm = some k → k < kn) : WfP kn (pCm t n env) := by
  intro vs p k p' k' x h hk
  unfold pCm at h
  split at h
  · split at h
    · split at h
      · obtain ⟨e1, e2⟩ := Prod.mk.inj (Sum.inr.inj h)
        obtain ⟨e2, e3⟩ := Prod.mk.inj e2
        obtain ⟨e3, e4⟩ := Prod.mk.inj e3
        obtain ⟨g1, g2⟩ := ap_nil e3
        obtain ⟨g3, g4⟩ := ap_nil g1
        have hs := sp_ok g3
        have hc := ct_ok g4 hk
        rw [← e4, tsW_2, lfN_2]
        refine ⟨Or.inr (Or.inl ⟨rfl, rfl, rfl, ?_, hs⟩), ?_, by omega⟩
        · cases hx : env.1 (nmS t n (nxS t n (nxS t n p))) with
          | none =>
            rw [hx] at g2
            exact absurd g2 (by simp)
          | some k0 =>
            have := hE _ _ hx
            show (0 : Int) ≤ (k0 : Int) ∧ (k0 : Int) < kn
            omega
        · rw [← e2]
          rfl
      · cases h
    · split at h
      · cases h
      · rename_i a p1 hb
        exact c2_ok h hk (fun z => by have := sp_ok z; omega) (bh_ok hb)
  · split at h
    · cases h
    · rename_i a p1 hb
      exact c2_ok h hk (fun z => by omega) (sg_ok hb)
theorem lo_ok {sub : Pf} (hs : WfP kn sub) {w op : Nat} (hop : op = 20 ∨ op = 21) {vs : List (List Int32)} : ∀ f p k es x p' k' y, pLo t n sub w op vs f p k es x = .inr (p', k', [], y) → es = [] ∧ (tsW kn vs.length x → k ≤ 6 → tsW kn vs.length y ∧ k' + lfN x = k + lfN y ∧ k' ≤ 6)
  | 0, p, k, es, x, p', k', y, h => by cases h
  | f + 1, p, k, es, x, p', k', y, h => by
    rw [pLo] at h
    split at h
    · split at h
      · cases h
      · rename_i p1 k1 es1 z hz
        obtain ⟨g1, g2⟩ := lo_ok hs hop f _ _ _ _ _ _ _ h
        obtain ⟨g3, g4⟩ := ap_nil g1
        refine ⟨g3, fun hx hk => ?_⟩
        rw [g4] at hz
        obtain ⟨a1, a2, a3⟩ := hs _ _ _ _ _ _ hz hk
        obtain ⟨b1, b2, b3⟩ := g2 (by rw [tsW_2]; exact Or.inr (Or.inr (Or.inl ⟨hop, hx, a1⟩))) a3
        refine ⟨b1, ?_, b3⟩
        rw [lfN_2, if_neg (by omega)] at b2
        omega
    · cases h
      exact ⟨rfl, fun hx hk => ⟨hx, rfl, hk⟩⟩
theorem ls_ok {sub : Pf} (hs : WfP kn sub) {w op : Nat} (hop : op = 20 ∨ op = 21) : WfP kn (pLs t n sub w op) := by
  intro vs p k p' k' x h hk
  unfold pLs bnd at h
  split at h
  · cases h
  · rename_i p1 k1 es1 z hz
    obtain ⟨g1, g2⟩ := lo_ok hs hop _ _ _ _ _ _ _ _ h
    rw [g1] at hz
    obtain ⟨a1, a2, a3⟩ := hs _ _ _ _ _ _ hz hk
    obtain ⟨b1, b2, b3⟩ := g2 a1 a3
    exact ⟨b1, by omega, b3⟩
theorem tt_ok {s : Pf} (hs : WfP kn s) : WfP kn (pTt t n s) := ls_ok (ls_ok hs (Or.inr rfl)) (Or.inl rfl)
theorem ts_ok (hE : ∀ nm k, env.1 nm = some k → k < kn) : ∀ r, WfP kn (pTs t n env r)
  | 0 => fun vs p k p' k' x h hk => by cases h
  | r + 1 => fun vs p k p' k' x h hk => by
    rw [pTs] at h
    dsimp only at h
    split at h
    · unfold bnd at h
      split at h
      · cases h
      · rename_i p1 k1 es1 z hz
        cases h
        obtain ⟨a1, a2, a3⟩ := ts_ok hE r _ _ _ _ _ _ hz hk
        rw [tsW_2, lfN_2, if_neg (by decide)]
        exact ⟨Or.inr (Or.inr (Or.inr ⟨rfl, a1, rfl⟩)), a2, a3⟩
    · split at h
      · unfold bnd at h
        split at h
        · cases h
        · rename_i p1 k1 es1 z hz
          dsimp only at h
          split at h
          · cases h
            exact tt_ok (ts_ok hE r) _ _ _ _ _ _ hz hk
          · cases h
      · exact cm_ok hE _ _ _ _ _ _ h hk
/-- how high a test is -/
def tH : Ast → Nat
  | .tag _ (.nest _ (.nest _ (.append a (.append b .nil)))) => max (tH a) (tH b) + 1
  | _ => 0
theorem tH_2 (op : Nat) (y w : Int) (a b : Ast) : tH (aN op y w a b .nil) = max (tH a) (tH b) + 1 := rfl
def HtP (r : Nat) (f : Pf) : Prop := ∀ vs p k p' k' es x, f vs p k = .inr (p', k', es, x) → 1 ≤ lfN x ∧ tH x ≤ lfN x + r
theorem ht_c2 {vs : List (List Int32)} {p1 k w p' k' : Nat} {es es' : Evs} {pa mo : Int} {x : Ast} (h : pC2 t n vs p1 k w es pa mo = .inr (p', k', es', x)) : 1 ≤ lfN x ∧ tH x ≤ lfN x + 0 := by
  unfold pC2 at h
  split at h
  · split at h
    · split at h
      · cases h
      · cases h
        exact ⟨Nat.le_refl _, Nat.le_refl _⟩
    · split at h
      · cases h
      · cases h
        exact ⟨Nat.le_refl _, Nat.le_refl _⟩
  · cases h
theorem ht_cm : HtP 0 (pCm t n env) := by
  intro vs p k p' k' es x h
  unfold pCm at h
  split at h
  · split at h
    · split at h
      · cases h
        exact ⟨Nat.le_refl _, Nat.le_refl _⟩
      · cases h
    · split at h
      · cases h
      · exact ht_c2 h
  · split at h
    · cases h
    · exact ht_c2 h
theorem ht_lo {r : Nat} {sub : Pf} (hs : HtP r sub) {w op : Nat} (hop : op = 20 ∨ op = 21) {vs : List (List Int32)} : ∀ f p k es x p' k' es' y, pLo t n sub w op vs f p k es x = .inr (p', k', es', y) → (1 ≤ lfN x ∧ tH x ≤ lfN x + r) → 1 ≤ lfN y ∧ tH y ≤ lfN y + r
  | 0, p, k, es, x, p', k', es', y, h, _ => by cases h
  | f + 1, p, k, es, x, p', k', es', y, h, hx => by
    rw [pLo] at h
    split at h
    · split at h
      · cases h
      · rename_i p1 k1 es1 z hz
        have hz := hs _ _ _ _ _ _ _ hz
        refine ht_lo hs hop f _ _ _ _ _ _ _ _ h ?_
        rw [lfN_2, if_neg (by omega), tH_2]
        omega
    · cases h
      exact hx
theorem ht_ls {r : Nat} {sub : Pf} (hs : HtP r sub) {w op : Nat} (hop : op = 20 ∨ op = 21) : HtP r (pLs t n sub w op) := by
  intro vs p k p' k' es x h
  unfold pLs at h
  unfold bnd at h
  split at h
  · cases h
  · rename_i p1 k1 es1 z hz
    exact ht_lo hs hop _ _ _ _ _ _ _ _ _ h (hs _ _ _ _ _ _ _ hz)
theorem ht_ts : ∀ r, HtP r (pTs t n env r)
  | 0 => fun vs p k p' k' es x h => by cases h
  | r + 1 => fun vs p k p' k' es x h => by
    rw [pTs] at h
    dsimp only at h
    split at h
    · unfold bnd at h
      split at h
      · cases h
      · rename_i p1 k1 es1 z hz
        cases h
        have hz := ht_ts r _ _ _ _ _ _ _ hz
        rw [lfN_2, if_neg (by decide), tH_2]
        have e1 : lfN .nil = 0 := rfl
        have e2 : tH .nil = 0 := rfl
        omega
    · split at h
      · unfold bnd at h
        split at h
        · cases h
        · rename_i p1 k1 es1 z hz
          dsimp only at h
          split at h
          · cases h
            have := ht_ls (ht_ls (ht_ts r) (Or.inr rfl)) (Or.inl rfl) _ _ _ _ _ _ _ hz
            omega
          · cases h
      · have := ht_cm _ _ _ _ _ _ _ h
        omega
/-- the test of a method -/
theorem if_ok (hE : ∀ nm k, env.1 nm = some k → k < kn) {V : List (List Int32)} {p p' k' : Nat} {x : Ast} (h : pIf t n env V p = .inr (p', k', [], x)) : (x = .nil ∨ tsW kn V.length x) ∧ k' = lfN x ∧ k' ≤ 6 ∧ (x = .nil → k' = 0) ∧ (x ≠ .nil → 1 ≤ k') ∧ tH x ≤ 18 := by
  unfold pIf at h
  split at h
  · have hh := ht_ls (ht_ls (ht_ts 12) (Or.inr rfl)) (Or.inl rfl) _ _ _ _ _ _ _ h
    obtain ⟨a1, a2, a3⟩ := tt_ok (ts_ok hE 12) _ _ _ _ _ _ h (by omega)
    have hx : 1 ≤ lfN x := by
      refine ts_ind (P := fun x => 1 ≤ lfN x) ?_ ?_ ?_ ?_ x a1
      · intro v w pb mo _ _ _ _
        exact Nat.le_refl _
      · intro v w _ _
        exact Nat.le_refl _
      · intro op v w a b ho _ _ ha hb
        rw [lfN_2, if_neg (by omega)]
        omega
      · intro v w a _ ha
        rw [lfN_2, if_neg (by omega)]
        exact ha
    refine ⟨Or.inr a1, by omega, a3, fun z => ?_, fun _ => by omega, by omega⟩
    rw [z] at a1
    exact a1.elim
  · cases h
    exact ⟨Or.inl rfl, rfl, by omega, fun _ => rfl, fun z => absurd rfl z, Nat.zero_le _⟩
end WFT
/-! BODIES -/
def lkN : Ast → Nat
  | .tag _ (.nest _ (.nest _ (.append _ (.append b _)))) => lkN b + 1
  | _ => 0
/-- kinds, calls, layers, which kinds are bare, how many places, the own call (-1: none) -/
abbrev Wev : Type := Nat × Nat × Nat × (Nat → Bool) × (Nat → Nat) × Int
/-- a body as it should be, so many variables before it; or a link of a chain -/
def exW (E : Wev) : Ast → Bool → Nat → Prop
  | .tag op (.nest v (.nest w (.append a (.append b c)))), lk, nv =>
    (lk = true ∧ (39 ≤ op ∧ op ≤ 42) ∧ exW E a false nv ∧ (b = .nil ∨ exW E b true nv) ∧ c = .nil) ∨
    (lk = false ∧ ((op = 1 ∧ (v = (nv : Int) ∧ nv ≤ 14) ∧ exW E a false nv ∧ exW E b false (nv + 1) ∧ c = .nil) ∨
      (op = 2 ∧ exW E a false nv ∧ exW E b false nv ∧ exW E c false nv) ∨
      ((op = 3 ∨ op = 4) ∧ (0 ≤ v ∧ v < (E.2.2.1 : Int)) ∧ exW E a false nv ∧ b = .nil ∧ c = .nil) ∨
      (op = 5 ∧ (v = (nv : Int) ∧ nv ≤ 14) ∧ exW E a false nv ∧ exW E b false (nv + 1) ∧ c = .nil) ∨
      ((op = 6 ∨ op = 7 ∨ op = 16) ∧ exW E a false nv ∧ b = .nil ∧ c = .nil) ∨
      (op = 8 ∧ (v = 15 ∨ v = 16 ∨ v = 17) ∧ exW E a false nv ∧ exW E b false nv ∧ c = .nil) ∨
      (op = 9 ∧ (0 ≤ v ∧ v < (E.1 : Int)) ∧ exW E a false nv ∧ b = .nil ∧ c = .nil) ∨
      (op = 10 ∧ w = (lkN b : Int) ∧ exW E a false nv ∧ exW E b true nv ∧ c = .nil) ∨
      (op = 11 ∧ (-2147483647 ≤ v ∧ v ≤ 2147483647) ∧ a = .nil ∧ b = .nil ∧ c = .nil) ∨
      (op = 12 ∧ (0 ≤ v ∧ v < (nv : Int)) ∧ a = .nil ∧ b = .nil ∧ c = .nil) ∨
      (op = 13 ∧ ((0 ≤ v ∧ v < (E.1 : Int)) ∧ E.2.2.2.1 v.toNat = false) ∧ w = 1 ∧ exW E a false nv ∧ b = .nil ∧ c = .nil) ∨
      (op = 14 ∧ ((0 ≤ v ∧ v < (E.2.1 : Int)) ∧ w = (E.2.2.2.2.1 v.toNat : Int)) ∧ exW E a false nv ∧ (if 2 ≤ w then exW E b false nv else b = .nil) ∧ (if 3 ≤ w then exW E c false nv else c = .nil)) ∨
      (op = 15 ∧ 0 ≤ E.2.2.2.2.2 ∧ w = 0 ∧ a = .nil ∧ b = .nil ∧ c = .nil) ∨
      (op = 15 ∧ 0 ≤ E.2.2.2.2.2 ∧ w = (E.2.2.2.2.1 E.2.2.2.2.2.toNat : Int) ∧ exW E a false nv ∧ (if 2 ≤ w then exW E b false nv else b = .nil) ∧ (if 3 ≤ w then exW E c false nv else c = .nil))))
  | _, _, _ => False
theorem exW_2 (E : Wev) (op : Nat) (v w : Int) (a b c : Ast) (nv : Nat) : exW E (aN op v w a b c) false nv = ((false = true ∧ (39 ≤ op ∧ op ≤ 42) ∧ exW E a false nv ∧ (b = .nil ∨ exW E b true nv) ∧ c = .nil) ∨
    (false = false ∧ ((op = 1 ∧ (v = (nv : Int) ∧ nv ≤ 14) ∧ exW E a false nv ∧ exW E b false (nv + 1) ∧ c = .nil) ∨
      (op = 2 ∧ exW E a false nv ∧ exW E b false nv ∧ exW E c false nv) ∨
      ((op = 3 ∨ op = 4) ∧ (0 ≤ v ∧ v < (E.2.2.1 : Int)) ∧ exW E a false nv ∧ b = .nil ∧ c = .nil) ∨
      (op = 5 ∧ (v = (nv : Int) ∧ nv ≤ 14) ∧ exW E a false nv ∧ exW E b false (nv + 1) ∧ c = .nil) ∨
      ((op = 6 ∨ op = 7 ∨ op = 16) ∧ exW E a false nv ∧ b = .nil ∧ c = .nil) ∨
      (op = 8 ∧ (v = 15 ∨ v = 16 ∨ v = 17) ∧ exW E a false nv ∧ exW E b false nv ∧ c = .nil) ∨
      (op = 9 ∧ (0 ≤ v ∧ v < (E.1 : Int)) ∧ exW E a false nv ∧ b = .nil ∧ c = .nil) ∨
      (op = 10 ∧ w = (lkN b : Int) ∧ exW E a false nv ∧ exW E b true nv ∧ c = .nil) ∨
      (op = 11 ∧ (-2147483647 ≤ v ∧ v ≤ 2147483647) ∧ a = .nil ∧ b = .nil ∧ c = .nil) ∨
      (op = 12 ∧ (0 ≤ v ∧ v < (nv : Int)) ∧ a = .nil ∧ b = .nil ∧ c = .nil) ∨
      (op = 13 ∧ ((0 ≤ v ∧ v < (E.1 : Int)) ∧ E.2.2.2.1 v.toNat = false) ∧ w = 1 ∧ exW E a false nv ∧ b = .nil ∧ c = .nil) ∨
      (op = 14 ∧ ((0 ≤ v ∧ v < (E.2.1 : Int)) ∧ w = (E.2.2.2.2.1 v.toNat : Int)) ∧ exW E a false nv ∧ (if 2 ≤ w then exW E b false nv else b = .nil) ∧ (if 3 ≤ w then exW E c false nv else c = .nil)) ∨
      (op = 15 ∧ 0 ≤ E.2.2.2.2.2 ∧ w = 0 ∧ a = .nil ∧ b = .nil ∧ c = .nil) ∨
      (op = 15 ∧ 0 ≤ E.2.2.2.2.2 ∧ w = (E.2.2.2.2.1 E.2.2.2.2.2.toNat : Int) ∧ exW E a false nv ∧ (if 2 ≤ w then exW E b false nv else b = .nil) ∧ (if 3 ≤ w then exW E c false nv else c = .nil))))) := rfl
theorem exW_l (E : Wev) (op : Nat) (v w : Int) (a b c : Ast) (nv : Nat) (h1 : 39 ≤ op ∧ op ≤ 42) (h2 : exW E a false nv) (h3 : b = .nil ∨ exW E b true nv) (h4 : c = .nil) : exW E (aN op v w a b c) true nv := Or.inl ⟨rfl, h1, h2, h3, h4⟩
theorem bnd_ok {r : PR} {f : Nat → Nat → Evs → Ast → PR} {y : Nat × Nat × Evs × Ast} (h : bnd r f = .inr y) : ∃ p c es x, r = .inr (p, c, es, x) ∧ f p c es x = .inr y := by
  unfold bnd at h
  split at h
  · cases h
  · exact ⟨_, _, _, _, rfl, h⟩
theorem pr_ok {p p' c c' : Nat} {es : Evs} {x y : Ast} (h : (.inr (p, c, es, x) : PR) = .inr (p', c', [], y)) : es = [] ∧ x = y := by
  cases h
  exact ⟨rfl, rfl⟩
section WFE
variable {t : Nat → Int32} {n : Nat} {env : Env} {E : Wev}
def WfE (E : Wev) (q : Nat) (f : Pf) : Prop := ∀ vs p c p' c' x, vs.length ≤ q → f vs p c = .inr (p', c', [], x) → exW E x false vs.length
theorem lk_ok {sub : Pf} {q : Nat} (hs : WfE E q sub) {s1 s2 : Nat} (h1 : 9 ≤ s1 ∧ s1 ≤ 12) (h2 : 9 ≤ s2 ∧ s2 ≤ 12) {vs : List (List Int32)} (hq : vs.length ≤ q) : ∀ f p c es l p' c' l', pLk t n sub s1 s2 vs f p c es l = .inr (p', c', [], l') → es = [] ∧ ((∀ y ∈ l, (9 ≤ y.1 ∧ y.1 ≤ 12) ∧ exW E y.2 false vs.length) → ∀ y ∈ l', (9 ≤ y.1 ∧ y.1 ≤ 12) ∧ exW E y.2 false vs.length)
  | 0, p, c, es, l, p', c', l', h => by cases h
  | f + 1, p, c, es, l, p', c', l', h => by
    rw [pLk] at h
    split at h
    · rename_i ho
      split at h
      · cases h
      · rename_i p1 c1 es1 y hy
        obtain ⟨g1, g2⟩ := lk_ok hs h1 h2 hq f _ _ _ _ _ _ _ h
        obtain ⟨g3, g4⟩ := ap_nil g1
        obtain ⟨g5, g6⟩ := ap_nil g3
        refine ⟨g5, fun hl => g2 fun z hz => ?_⟩
        rcases List.mem_append.mp hz with q1 | q1
        · exact hl z q1
        · rw [List.mem_singleton] at q1
          rw [q1]
          rw [g4] at hy
          exact ⟨by dsimp only; omega, hs _ _ _ _ _ _ hq hy⟩
    · cases h
      exact ⟨rfl, fun hl => hl⟩
theorem lkA_n : ∀ l : List (Nat × Ast), lkN (lkA l) = l.length
  | [] => rfl
  | (s, y) :: r => by
    show lkN (lkA r) + 1 = _
    rw [lkA_n r]
    rfl
theorem lkA_ok {nv : Nat} : ∀ l : List (Nat × Ast), (∀ y ∈ l, (9 ≤ y.1 ∧ y.1 ≤ 12) ∧ exW E y.2 false nv) → l = [] ∨ exW E (lkA l) true nv
  | [], _ => Or.inl rfl
  | (s, y) :: r, h => by
    have h1 := h (s, y) (List.mem_cons_self ..)
    refine Or.inr (exW_l E (30 + s) 0 0 y (lkA r) .nil nv ?_ h1.2 ?_ rfl)
    · have := h1.1
      dsimp only at this
      omega
    · rcases lkA_ok r (fun z hz => h z (List.mem_cons_of_mem _ hz)) with q | q
      · left
        rw [q]
        rfl
      · exact Or.inr q
theorem ch_ok {sub : Pf} {q : Nat} (hs : WfE E q sub) {s1 s2 : Nat} (h1 : 9 ≤ s1 ∧ s1 ≤ 12) (h2 : 9 ≤ s2 ∧ s2 ≤ 12) : WfE E q (pCh t n sub s1 s2) := by
  intro vs p c p' c' x hq h
  unfold pCh at h
  obtain ⟨p1, c1, es1, z, hz, h⟩ := bnd_ok h
  split at h
  · cases h
  · rename_i p2 c2 es2 l hl
    obtain ⟨e1, e2⟩ := pr_ok h
    rw [e1] at hl
    obtain ⟨g1, g2⟩ := lk_ok hs h1 h2 hq _ _ _ _ _ _ _ _ hl
    rw [g1] at hz
    have hx := hs _ _ _ _ _ _ hq hz
    have hl := lkA_ok l (g2 fun y hy => by cases hy)
    rw [← e2]
    unfold mkCh
    split
    · exact hx
    · rename_i hne
      rcases hl with q1 | q1
      · exact absurd q1 hne
      · rw [exW_2]
        refine Or.inr ⟨rfl, ?_⟩
        refine Or.inr (Or.inr (Or.inr (Or.inr (Or.inr (Or.inr (Or.inr (Or.inl ⟨rfl, ?_, hx, q1, rfl⟩)))))))
        rw [lkA_n]
theorem co_ok {sm : Pf} {q : Nat} (hs : WfE E q sm) (hE : ∀ nm k, env.1 nm = some k → k < E.1) : WfE E q (pCo t n env sm) := by
  intro vs p c p' c' x hq h
  unfold pCo at h
  obtain ⟨p1, c1, es1, z, hz, h⟩ := bnd_ok h
  split at h
  · rename_i ho
    obtain ⟨p2, c2, es2, y, hy, h⟩ := bnd_ok h
    obtain ⟨e1, e2⟩ := pr_ok h
    obtain ⟨g1, g2⟩ := ap_nil e1
    obtain ⟨g3, g4⟩ := ap_nil g1
    rw [g3] at hz
    rw [g2] at hy
    rw [← e2, exW_2]
    exact Or.inr ⟨rfl, Or.inr (Or.inr (Or.inr (Or.inr (Or.inr (Or.inl ⟨rfl, by omega, hs _ _ _ _ _ _ hq hz, hs _ _ _ _ _ _ hq hy, rfl⟩)))))⟩
  · split at h
    · split at h
      · obtain ⟨e1, e2⟩ := pr_ok h
        obtain ⟨g1, g2⟩ := ap_nil e1
        obtain ⟨g3, g4⟩ := ap_nil g1
        rw [g3] at hz
        rw [← e2, exW_2]
        refine Or.inr ⟨rfl, Or.inr (Or.inr (Or.inr (Or.inr (Or.inr (Or.inr (Or.inl ⟨rfl, ?_, hs _ _ _ _ _ _ hq hz, rfl, rfl⟩))))))⟩
        cases hx : env.1 (nmS t n (nxS t n p1)) with
        | none =>
          rw [hx] at g2
          exact absurd g2 (by simp)
        | some k0 =>
          have := hE _ _ hx
          show (0 : Int) ≤ (k0 : Int) ∧ (k0 : Int) < _
          omega
      · cases h
    · obtain ⟨e1, e2⟩ := pr_ok h
      rw [e1] at hz
      rw [← e2]
      exact hs _ _ _ _ _ _ hq hz
theorem ar_ok {e : Pf} {q most : Nat} (hs : WfE E q e) {vs : List (List Int32)} (hq : vs.length ≤ q) : ∀ f p c es l p' c' l', pAr t n e most vs f p c es l = .inr (p', c', [], l') → es = [] ∧ (0 < most → l.length ≤ most → l'.length = most) ∧ ((∀ y ∈ l, exW E y false vs.length) → ∀ y ∈ l', exW E y false vs.length)
  | 0, p, c, es, l, p', c', l', h => by cases h
  | f + 1, p, c, es, l, p', c', l', h => by
    rw [pAr] at h
    split at h
    · cases h
    · rename_i p2 c2 es2 x hx
      split at h
      · obtain ⟨g1, g2, g3⟩ := ar_ok hs hq f _ _ _ _ _ _ _ h
        obtain ⟨g4, g5⟩ := ap_nil g1
        obtain ⟨g6, g7⟩ := ap_nil g4
        rw [g5] at hx
        refine ⟨g6, fun hm hl => g2 hm ?_, fun hl => g3 fun z hz => ?_⟩
        · rw [List.length_append]
          show l.length + 1 ≤ most
          by_cases q1 : l.length = most
          · rw [if_pos ⟨hm, q1⟩] at g7
            exact absurd g7 (by simp)
          · omega
        · rcases List.mem_append.mp hz with q1 | q1
          · exact hl z q1
          · rw [List.mem_singleton] at q1
            rw [q1]
            exact hs _ _ _ _ _ _ hq hx
      · split at h
        · obtain ⟨e1, e2⟩ := Prod.mk.inj (Sum.inr.inj h)
          obtain ⟨e2, e3⟩ := Prod.mk.inj e2
          obtain ⟨e3, e4⟩ := Prod.mk.inj e3
          obtain ⟨g0, g1⟩ := ap_nil e3
          obtain ⟨g4, g5⟩ := ap_nil g0
          obtain ⟨g6, g7⟩ := ap_nil g4
          rw [g5] at hx
          rw [← e4]
          refine ⟨g6, fun hm hl => ?_, fun hl z hz => ?_⟩
          · rw [List.length_append]
            show l.length + 1 = most
            by_cases q1 : l.length = most
            · rw [if_pos ⟨hm, q1⟩] at g7
              exact absurd g7 (by simp)
            · by_cases q2 : l.length + 1 < most
              · rw [if_pos ⟨hm, q2⟩] at g1
                exact absurd g1 (by simp)
              · omega
          · rcases List.mem_append.mp hz with q1 | q1
            · exact hl z q1
            · rw [List.mem_singleton] at q1
              rw [q1]
              exact hs _ _ _ _ _ _ hq hx
        · cases h
/-- the arguments, as parts -/
def arW (E : Wev) (w : Int) (a b c : Ast) (nv : Nat) : Prop := exW E a false nv ∧ (if 2 ≤ w then exW E b false nv else b = .nil) ∧ (if 3 ≤ w then exW E c false nv else c = .nil)
theorem an_ok {e : Pf} {q most : Nat} (hs : WfE E q e) {vs : List (List Int32)} (hq : vs.length ≤ q) (hm : 1 ≤ most ∧ most ≤ 3) {p c p' c' : Nat} {es : Evs} {op : Nat} {v : Int} {x : Ast} (h : pAN t n e most vs p c es op v = .inr (p', c', [], x)) : es = [] ∧ ∃ a b d, x = aN op v most a b d ∧ arW E most a b d vs.length := by
  unfold pAN at h
  split at h
  · cases h
  · rename_i p1 c1 es1 l hl
    obtain ⟨e1, e2⟩ := pr_ok h
    rw [e1] at hl
    obtain ⟨g1, g2, g3⟩ := ar_ok hs hq _ _ _ _ _ _ _ _ hl
    have hlen := g2 hm.1 (Nat.zero_le _)
    have hall := g3 (fun y hy => by cases hy)
    refine ⟨g1, _, _, _, by rw [← e2, hlen], ?_⟩
    unfold arW
    match l, hlen, hall with
    | [a], hlen, hall =>
      have hlen : 1 = most := hlen
      subst hlen
      exact ⟨hall a (by simp), rfl, rfl⟩
    | [a, b], hlen, hall =>
      have hlen : 2 = most := hlen
      subst hlen
      exact ⟨hall a (by simp), hall b (by simp), rfl⟩
    | [a, b, d], hlen, hall =>
      have hlen : 3 = most := hlen
      subst hlen
      exact ⟨hall a (by simp), hall b (by simp), hall d (by simp)⟩
    | [], hlen, hall =>
      have hlen : 0 = most := hlen
      omega
    | a :: b :: d :: e :: r, hlen, hall =>
      have hlen : r.length + 1 + 1 + 1 + 1 = most := hlen
      omega
/-- the names told are those of E -/
def EvW (env : Env) (E : Wev) : Prop := (∀ nm k, env.1 nm = some k → k < E.1) ∧ (∀ nm k, env.2.1 nm = some k → k < E.2.1) ∧ (∀ nm k, env.2.2.1 nm = some k → k < E.2.2.1) ∧ env.2.2.2.1 = E.2.2.2.1 ∧ env.2.2.2.2.1 = E.2.2.2.2.1 ∧ env.2.2.2.2.2 = E.2.2.2.2.2 ∧ (∀ k, k < E.2.1 → 1 ≤ E.2.2.2.2.1 k ∧ E.2.2.2.2.1 k ≤ 3) ∧ (E.2.2.2.2.2 = -1 ∨ (0 ≤ E.2.2.2.2.2 ∧ E.2.2.2.2.2.toNat < E.2.1))
theorem pb_ok {e pp : Pf} {q : Nat} (hv : EvW env E) (he : WfE E q e) (hp : WfE E q pp) : WfE E q (pPb t n env e pp) := by
  obtain ⟨h1, h2, h3, h4, h5, h6, h7, h8⟩ := hv
  intro vs p c p' c' x hq h
  unfold pPb at h
  split at h
  · split at h
    · cases h
    · rename_i v p1 hb
      have hb := sg_ok hb
      obtain ⟨e1, e2⟩ := pr_ok h
      rw [← e2, exW_2]
      exact Or.inr ⟨rfl, Or.inr (Or.inr (Or.inr (Or.inr (Or.inr (Or.inr (Or.inr (Or.inr (Or.inl ⟨rfl, hb, rfl, rfl, rfl⟩))))))))⟩
  · split at h
    · split at h
      · cases hk : env.1 (nmS t n p) with
        | some k =>
          rw [hk] at h
          dsimp only at h
          obtain ⟨g1, a, b, d, g2, g3⟩ := an_ok he hq (by omega) h
          have hk2 := h1 _ _ hk
          obtain ⟨g4, g5⟩ := ap_nil g1
          have hba : env.2.2.2.1 k = false := by
            cases q1 : env.2.2.2.1 k with
            | false => rfl
            | true =>
              rw [q1, if_pos rfl] at g5
              exact absurd g5 (by simp)
          obtain ⟨a1, a2, a3⟩ := g3
          rw [g2, exW_2]
          refine Or.inr ⟨rfl, Or.inr (Or.inr (Or.inr (Or.inr (Or.inr (Or.inr (Or.inr (Or.inr (Or.inr (Or.inr (Or.inl ⟨rfl, ⟨⟨?_, ?_⟩, ?_⟩, rfl, a1, a2, a3⟩))))))))))⟩
          · omega
          · omega
          · rw [← h4]
            exact hba
        | none =>
          rw [hk] at h
          dsimp only at h
          cases hc : env.2.1 (nmS t n p) with
          | none =>
            rw [hc] at h
            dsimp only at h
            exfalso
            unfold pAN at h
            split at h
            · cases h
            · rename_i p1 c1 es1 l hl
              obtain ⟨e1, e2⟩ := pr_ok h
              rw [e1] at hl
              have g1 := (ar_ok he hq _ _ _ _ _ _ _ _ hl).1
              exact absurd (ap_nil g1).2 (by simp)
          | some k =>
            rw [hc] at h
            dsimp only at h
            have hk2 := h2 _ _ hc
            have h7k := h7 k hk2
            rw [h5] at h
            obtain ⟨g1, a, b, d, g2, g3⟩ := an_ok he hq h7k h
            obtain ⟨a1, a2, a3⟩ := g3
            rw [g2, exW_2]
            refine Or.inr ⟨rfl, Or.inr (Or.inr (Or.inr (Or.inr (Or.inr (Or.inr (Or.inr (Or.inr (Or.inr (Or.inr (Or.inr (Or.inl ⟨rfl, ⟨⟨?_, ?_⟩, rfl⟩, a1, a2, a3⟩)))))))))))⟩
            · show (0 : Int) ≤ (k : Int)
              omega
            · show (k : Int) < _
              omega
      · obtain ⟨e1, e2⟩ := pr_ok h
        obtain ⟨g1, g2⟩ := ap_nil e1
        rw [← e2, exW_2]
        refine Or.inr ⟨rfl, Or.inr (Or.inr (Or.inr (Or.inr (Or.inr (Or.inr (Or.inr (Or.inr (Or.inr (Or.inl ⟨rfl, ?_, rfl, rfl, rfl⟩)))))))))⟩
        cases hx : lstI vs (nmS t n p) with
        | none =>
          rw [hx] at g2
          exact absurd g2 (by simp)
        | some k0 =>
          have := lstI_lt hx
          show (0 : Int) ≤ (k0 : Int) ∧ (k0 : Int) < _
          omega
    · split at h
      · have own : (if env.2.2.2.2.2 = -1 then [(p, 3)] else ([] : Evs)) = [] → 0 ≤ E.2.2.2.2.2 ∧ E.2.2.2.2.2.toNat < E.2.1 := fun z => by
          rcases h8 with q1 | q1
          · rw [h6, if_pos q1] at z
            exact absurd z (by simp)
          · exact q1
        split at h
        · rw [h6] at h own
          by_cases q1 : 0 ≤ E.2.2.2.2.2
          · rw [if_pos q1, h5] at h
            have hw : E.2.2.2.2.2.toNat < E.2.1 := by
              rcases h8 with q2 | q2
              · omega
              · exact q2.2
            obtain ⟨g1, a, b, d, g2, g3⟩ := an_ok he hq (h7 _ hw) h
            obtain ⟨a1, a2, a3⟩ := g3
            rw [g2, exW_2]
            exact Or.inr ⟨rfl, Or.inr (Or.inr (Or.inr (Or.inr (Or.inr (Or.inr (Or.inr (Or.inr (Or.inr (Or.inr (Or.inr (Or.inr (Or.inr ⟨rfl, q1, rfl, a1, a2, a3⟩))))))))))))⟩
          · rw [if_neg q1] at h
            exfalso
            unfold pAN at h
            split at h
            · cases h
            · rename_i p1 c1 es1 l hl
              obtain ⟨e1, e2⟩ := pr_ok h
              rw [e1] at hl
              have g1 := (ar_ok he hq _ _ _ _ _ _ _ _ hl).1
              exact q1 (own (ap_nil g1).2).1
        · obtain ⟨e1, e2⟩ := pr_ok h
          obtain ⟨g1, g2⟩ := ap_nil e1
          have := own g2
          rw [← e2, exW_2]
          exact Or.inr ⟨rfl, Or.inr (Or.inr (Or.inr (Or.inr (Or.inr (Or.inr (Or.inr (Or.inr (Or.inr (Or.inr (Or.inr (Or.inr (Or.inl ⟨rfl, this.1, rfl, rfl, rfl, rfl⟩))))))))))))⟩
      · split at h
        · obtain ⟨p1, c1, es1, z, hz, h⟩ := bnd_ok h
          obtain ⟨e1, e2⟩ := pr_ok h
          obtain ⟨g1, g2⟩ := ap_nil e1
          rw [g2] at hz
          rw [← e2, exW_2]
          exact Or.inr ⟨rfl, Or.inr (Or.inr (Or.inr (Or.inr (Or.inl ⟨by omega, hp _ _ _ _ _ _ hq hz, rfl, rfl⟩))))⟩
        · split at h
          · obtain ⟨p1, c1, es1, z, hz, h⟩ := bnd_ok h
            split at h
            · obtain ⟨e1, e2⟩ := pr_ok h
              rw [e1] at hz
              rw [← e2]
              exact he _ _ _ _ _ _ hq hz
            · cases h
          · cases h
theorem eb_ok {e pp : Pf} {q : Nat} (hv : EvW env E) (hq14 : q ≤ 14) (he : WfE E (q + 1) e) (hp : WfE E (q + 1) pp) : WfE E q (pEb t n env e pp) := by
  obtain ⟨h1, h2, h3, h4, h5, h6, h7, h8⟩ := hv
  intro vs p c p' c' x hq h
  have hq1 : vs.length ≤ q + 1 := by omega
  have hq2 : ∀ nm : List Int32, (vs ++ [nm]).length = vs.length + 1 := fun nm => by rw [List.length_append]; rfl
  unfold pEb at h
  split at h
  · split at h
    · split at h
      · obtain ⟨p1, c1, es1, z, hz, h⟩ := bnd_ok h
        split at h
        · obtain ⟨p2, c2, es2, y, hy, h⟩ := bnd_ok h
          obtain ⟨e1, e2⟩ := pr_ok h
          obtain ⟨g1, g2⟩ := ap_nil e1
          obtain ⟨g3, g4⟩ := ap_nil g1
          rw [g4] at hz
          rw [g2] at hy
          have hb := he _ _ _ _ _ _ (by rw [hq2]; omega) hy
          rw [hq2] at hb
          rw [← e2, exW_2]
          exact Or.inr ⟨rfl, Or.inl ⟨rfl, ⟨rfl, by omega⟩, he _ _ _ _ _ _ hq1 hz, hb, rfl⟩⟩
        · cases h
      · cases h
    · cases h
  · split at h
    · obtain ⟨p1, c1, es1, z, hz, h⟩ := bnd_ok h
      split at h
      · obtain ⟨p2, c2, es2, y, hy, h⟩ := bnd_ok h
        split at h
        · obtain ⟨p3, c3, es3, u, hu, h⟩ := bnd_ok h
          obtain ⟨e1, e2⟩ := pr_ok h
          obtain ⟨g1, g2⟩ := ap_nil e1
          obtain ⟨g3, g4⟩ := ap_nil g1
          obtain ⟨g5, g6⟩ := ap_nil g3
          rw [g6] at hz
          rw [g4] at hy
          rw [g2] at hu
          rw [← e2, exW_2]
          exact Or.inr ⟨rfl, Or.inr (Or.inl ⟨rfl, he _ _ _ _ _ _ hq1 hz, he _ _ _ _ _ _ hq1 hy, he _ _ _ _ _ _ hq1 hu⟩)⟩
        · cases h
      · cases h
    · split at h
      · split at h
        · split at h
          · obtain ⟨p1, c1, es1, z, hz, h⟩ := bnd_ok h
            obtain ⟨e1, e2⟩ := pr_ok h
            obtain ⟨g1, g2⟩ := ap_nil e1
            obtain ⟨g3, g4⟩ := ap_nil g1
            rw [g2] at hz
            rw [← e2, exW_2]
            refine Or.inr ⟨rfl, Or.inr (Or.inr (Or.inl ⟨by split <;> omega, ?_, he _ _ _ _ _ _ hq1 hz, rfl, rfl⟩))⟩
            cases hx : env.2.2.1 (nmS t n (nxS t n p)) with
            | none =>
              rw [hx] at g4
              exact absurd g4 (by simp)
            | some k0 =>
              have := h3 _ _ hx
              show (0 : Int) ≤ (k0 : Int) ∧ (k0 : Int) < _
              omega
          · cases h
        · cases h
      · split at h
        · obtain ⟨p1, c1, es1, z, hz, h⟩ := bnd_ok h
          split at h
          · split at h
            · split at h
              · obtain ⟨p2, c2, es2, y, hy, h⟩ := bnd_ok h
                obtain ⟨e1, e2⟩ := pr_ok h
                obtain ⟨g1, g2⟩ := ap_nil e1
                obtain ⟨g3, g4⟩ := ap_nil g1
                rw [g4] at hz
                rw [g2] at hy
                have hb := he _ _ _ _ _ _ (by rw [hq2]; omega) hy
                rw [hq2] at hb
                rw [← e2, exW_2]
                exact Or.inr ⟨rfl, Or.inr (Or.inr (Or.inr (Or.inl ⟨rfl, ⟨rfl, by omega⟩, he _ _ _ _ _ _ hq1 hz, hb, rfl⟩)))⟩
              · cases h
            · cases h
          · cases h
        · split at h
          · obtain ⟨p1, c1, es1, z, hz, h⟩ := bnd_ok h
            obtain ⟨e1, e2⟩ := pr_ok h
            obtain ⟨g1, g2⟩ := ap_nil e1
            rw [g2] at hz
            rw [← e2, exW_2]
            exact Or.inr ⟨rfl, Or.inr (Or.inr (Or.inr (Or.inr (Or.inl ⟨by split <;> omega, he _ _ _ _ _ _ hq1 hz, rfl, rfl⟩))))⟩
          · exact co_ok (ch_ok (ch_ok hp (by omega) (by omega)) (by omega) (by omega)) h1 _ _ _ _ _ _ hq1 h
theorem x_ok (hv : EvW env E) : ∀ r b, r ≤ 14 → WfE E (15 - r) (pX t n env r b)
  | 0, b, _ => fun vs p c p' c' x hq h => by cases h
  | r + 1, false, hr => by
    have h1 := x_ok hv r false (by omega)
    have h2 := x_ok hv r true (by omega)
    rw [show 15 - r = 15 - (r + 1) + 1 by omega] at h1 h2
    exact eb_ok hv (by omega) h1 h2
  | r + 1, true, hr => by
    have h1 := x_ok hv r false (by omega)
    have h2 := x_ok hv r true (by omega)
    rw [show 15 - r = 15 - (r + 1) + 1 by omega] at h1 h2
    exact fun vs p c p' c' x hq h => pb_ok hv h1 h2 vs p c p' c' x (by omega) h
end WFE

/-! THE REFERENCE'S SIGNS: next() -/
theorem wi_i (σ : Sg) (a k : Nat) (v : Int32) (b j : Nat) : (σ.wi a k v).i b j = if b = a ∧ j = k then v else σ.i b j := rfl
theorem wi_r (σ : Sg) (a k : Nat) (v : Int32) : (σ.wi a k v).r = σ.r := rfl
theorem wi_l (σ : Sg) (a k : Nat) (v : Int32) : (σ.wi a k v).l = σ.l := rfl
theorem wi_sh (σ : Sg) (a k : Nat) (v : Int32) : (σ.wi a k v).sh = σ.sh := rfl
theorem wr_i (σ : Sg) (a k : Nat) (v : Rf) : (σ.wr a k v).i = σ.i := rfl
theorem wr_l (σ : Sg) (a k : Nat) (v : Rf) : (σ.wr a k v).l = σ.l := rfl
theorem wr_sh (σ : Sg) (a k : Nat) (v : Rf) : (σ.wr a k v).sh = σ.sh := rfl
theorem wr_r (σ : Sg) (a k : Nat) (v : Rf) (b j : Nat) : (σ.wr a k v).r b j = if b = a ∧ j = k then v else σ.r b j := rfl
theorem wi_wi (σ : Sg) (a k : Nat) (v w : Int32) : (σ.wi a k v).wi a k w = σ.wi a k w := by
  show (σ.sh, up (up σ.i a k v) a k w, σ.l, σ.r) = (σ.sh, up σ.i a k w, σ.l, σ.r)
  rw [up_up]
theorem wi_cm {σ : Sg} {a k b j : Nat} {v w : Int32} (h : ¬ (a = b ∧ k = j)) : (σ.wi a k v).wi b j w = (σ.wi b j w).wi a k v := by
  show (σ.sh, up (up σ.i a k v) b j w, σ.l, σ.r) = (σ.sh, up (up σ.i b j w) a k v, σ.l, σ.r)
  rw [up_cm h]
abbrev isLet (c : Int32) : Prop := (97 ≤ c ∧ c ≤ 122) ∨ (65 ≤ c ∧ c ≤ 90) ∨ c = 95
abbrev isDig (c : Int32) : Prop := 48 ≤ c ∧ c ≤ 57
theorem rf_let {Z : zT} {d : Nat} {σ : Sg} {c : Int32} {K : kS} (F : FX ΦR σ.sh σ.r) (h1 : isLet c → K (.inl (some (.int 1))) σ) (h0 : ¬ isLet c → K (.inl (some (.int 0))) σ) : B_X23_isLetter_0 Z (d + 1) σ c K := by
  have key : ¬ (97 ≤ c ∧ c ≤ 122) → B_X23_isLetter_12 Z (d + 1) σ c K := by
    intro n
    refine S_X23_isLetter_12 F ⟨fun q => ⟨fun z => h0 ?_, fun z => h1 (Or.inr (Or.inr z))⟩, fun q => ⟨fun z => h1 (Or.inr (Or.inl ⟨Int32.not_lt.mp q, z⟩)), fun z => ⟨fun y => h0 ?_, fun y => h1 (Or.inr (Or.inr y))⟩⟩⟩
    · rintro (y | y | y)
      · exact n y
      · exact absurd q (Int32.not_lt.mpr y.1)
      · exact z y
    · rintro (x | x | x)
      · exact n x
      · exact z x.2
      · exact y x
  refine S_X23_isLetter_0 F ⟨fun q => key fun y => absurd q (Int32.not_lt.mpr y.1), fun q => ⟨fun z => h1 (Or.inl ⟨Int32.not_lt.mp q, z⟩), fun z => key fun y => z y.2⟩⟩
theorem rf_dig {Z : zT} {d : Nat} {σ : Sg} {c : Int32} {K : kS} (F : FX ΦR σ.sh σ.r) (h1 : isDig c → K (.inl (some (.int 1))) σ) (h0 : ¬ isDig c → K (.inl (some (.int 0))) σ) : B_X23_isDigit_0 Z (d + 1) σ c K := by
  refine S_X23_isDigit_0 F ⟨fun q => h0 fun y => absurd q (Int32.not_lt.mpr y.1), fun q => ⟨fun z => h0 fun y => absurd z (Int32.not_lt.mpr y.2), fun z => h1 ⟨Int32.not_lt.mp q, Int32.not_lt.mp z⟩⟩⟩
/-- a remark's end: from place a on to a byte 10 or the text's end n -/
def skR (t : Nat → Int32) (n : Nat) : Nat → Nat → Nat
  | 0, a => a
  | m + 1, a => if a < n then (if t a = 10 then a else skR t n m (a + 1)) else a
/-- blanks and remarks passed over -/
def skB (t : Nat → Int32) (n : Nat) : Nat → Nat → Nat
  | 0, a => a
  | m + 1, a => if a < n then (if t a = 36 then skB t n m (skR t n (n - a) a) else if t a = 9 ∨ t a = 10 ∨ t a = 13 ∨ t a = 32 then skB t n m (a + 1) else a) else a
theorem skR_le (t : Nat → Int32) (n : Nat) : ∀ m a, a ≤ skR t n m a ∧ (a ≤ n → skR t n m a ≤ n)
  | 0, a => ⟨Nat.le_refl _, fun h => h⟩
  | m + 1, a => by
    unfold skR
    split
    · split
      · exact ⟨Nat.le_refl _, fun h => h⟩
      · have := skR_le t n m (a + 1)
        exact ⟨by omega, fun h => this.2 (by omega)⟩
    · exact ⟨Nat.le_refl _, fun h => h⟩
theorem skR_gt (t : Nat → Int32) (n : Nat) {m a : Nat} (h : a < n) (h36 : t a = 36) : a < skR t n (m + 1) a := by
  unfold skR
  rw [if_pos h, if_neg (by rw [h36]; decide)]
  have := (skR_le t n m (a + 1)).1
  omega
section NEXT
variable {Z : zT} {d n : Nat} {σ : Sg} {K : kS} {t : Nat → Int32}
theorem rf_skR (F : FX ΦR σ.sh σ.r) (hn : n ≤ 8192) (hs : σ.i 0 15 = Int32.ofNat n) (ht : ∀ k, k < n → σ.i 37 k = t k) : ∀ m a, a ≤ n → n - a = m → B_X23_next_0 Z (d + 1) (σ.wi 0 16 (Int32.ofNat (skR t n m a))) K → B_X23_next_27 Z (d + 1) (σ.wi 0 16 (Int32.ofNat a)) K
  | 0, a, ha, hm, w => by
    have e : a = n := by omega
    subst e
    refine S_X23_next_27 F ⟨fun _ => w, fun q => absurd ?_ q⟩
    simp only [wi_i, wi_r, wi_l, wi_sh, wr_i, wr_l, wr_sh, wr_r, wi_wi, Nat.reduceEqDiff, eq_self, reduceCtorEq, and_true, and_false, true_and, false_and, and_self, reduceIte, if_true, if_false]
    rw [hs]
    exact Int32.le_refl _
  | m + 1, a, ha, hm, w => by
    have hl : a < n := by omega
    refine S_X23_next_27 F ⟨fun q => ?_, fun _ => ⟨?_, fun q => ?_, fun q => ?_⟩⟩
    · exfalso
      simp only [wi_i, wi_r, wi_l, wi_sh, wr_i, wr_l, wr_sh, wr_r, wi_wi, Nat.reduceEqDiff, eq_self, reduceCtorEq, and_true, and_false, true_and, false_and, and_self, reduceIte, if_true, if_false] at q
      rw [hs, oN_le (by omega) (by omega)] at q
      omega
    · simp only [wi_i, wi_r, wi_l, wi_sh, wr_i, wr_l, wr_sh, wr_r, wi_wi, Nat.reduceEqDiff, eq_self, reduceCtorEq, and_true, and_false, true_and, false_and, and_self, reduceIte, if_true, if_false]
      exact ib_oN (by omega) (by decide)
    · simp only [wi_i, wi_r, wi_l, wi_sh, wr_i, wr_l, wr_sh, wr_r, wi_wi, Nat.reduceEqDiff, eq_self, reduceCtorEq, and_true, and_false, true_and, false_and, and_self, reduceIte, if_true, if_false] at q
      rw [oN_t (by omega), ht a hl] at q
      unfold skR at w
      rw [if_pos hl, if_pos q] at w
      exact w
    · simp only [wi_i, wi_r, wi_l, wi_sh, wr_i, wr_l, wr_sh, wr_r, wi_wi, Nat.reduceEqDiff, eq_self, reduceCtorEq, and_true, and_false, true_and, false_and, and_self, reduceIte, if_true, if_false] at q
      rw [oN_t (by omega), ht a hl] at q
      unfold skR at w
      rw [if_pos hl, if_neg q] at w
      simp only [wi_i, wi_r, wi_l, wi_sh, wr_i, wr_l, wr_sh, wr_r, wi_wi, Nat.reduceEqDiff, eq_self, reduceCtorEq, and_true, and_false, true_and, false_and, and_self, reduceIte, if_true, if_false]
      rw [oN_1]
      exact rf_skR F hn hs ht m (a + 1) (by omega) (by omega) w
theorem rf_skB (F : FX ΦR σ.sh σ.r) (hn : n ≤ 8192) (hs : σ.i 0 15 = Int32.ofNat n) (ht : ∀ k, k < n → σ.i 37 k = t k) : ∀ m a, a ≤ n → n - a ≤ m → B_X23_next_102 Z (d + 1) (σ.wi 0 16 (Int32.ofNat (skB t n m a))) K → B_X23_next_0 Z (d + 1) (σ.wi 0 16 (Int32.ofNat a)) K
  | 0, a, ha, hm, w => by
    have e : a = n := by omega
    subst e
    refine S_X23_next_0 F ⟨fun _ => w, fun q => absurd ?_ q⟩
    simp only [wi_i, wi_r, wi_l, wi_sh, wr_i, wr_l, wr_sh, wr_r, wi_wi, Nat.reduceEqDiff, eq_self, reduceCtorEq, and_true, and_false, true_and, false_and, and_self, reduceIte, if_true, if_false]
    rw [hs]
    exact Int32.le_refl _
  | m + 1, a, ha, hm, w => by
    by_cases hl : a < n
    · have ih := rf_skB F hn hs ht m (a + 1) (by omega) (by omega)
      have step : skB t n (m + 1) a = skB t n m (a + 1) → B_X23_next_0 Z (d + 1) ((σ.wi 0 16 (Int32.ofNat a)).wi 0 16 ((σ.wi 0 16 (Int32.ofNat a)).i 0 16 + 1)) K := by
        intro e
        rw [e] at w
        simp only [wi_i, wi_r, wi_l, wi_sh, wr_i, wr_l, wr_sh, wr_r, wi_wi, Nat.reduceEqDiff, eq_self, reduceCtorEq, and_true, and_false, true_and, false_and, and_self, reduceIte, if_true, if_false]
        rw [oN_1]
        exact ih w
      have hu : skB t n (m + 1) a = if t a = 36 then skB t n m (skR t n (n - a) a) else if t a = 9 ∨ t a = 10 ∨ t a = 13 ∨ t a = 32 then skB t n m (a + 1) else a := by
        rw [skB, if_pos hl]
      have et : (σ.wi 0 16 (Int32.ofNat a)).i 37 ((σ.wi 0 16 (Int32.ofNat a)).i 0 16).toNatClampNeg = t a := by
        simp only [wi_i, wi_r, wi_l, wi_sh, wr_i, wr_l, wr_sh, wr_r, wi_wi, Nat.reduceEqDiff, eq_self, reduceCtorEq, and_true, and_false, true_and, false_and, and_self, reduceIte, if_true, if_false]
        rw [oN_t (by omega), ht a hl]
      refine S_X23_next_0 F ⟨fun q => ?_, fun _ => ⟨?_, fun q36 => ⟨fun q => ?_, fun q9 => ⟨fun q => ?_, fun q10 => ⟨fun q => ?_, fun q13 => ⟨fun q => ?_, fun q => ?_⟩⟩⟩⟩, fun q => ?_⟩⟩
      · exfalso
        simp only [wi_i, wi_r, wi_l, wi_sh, wr_i, wr_l, wr_sh, wr_r, wi_wi, Nat.reduceEqDiff, eq_self, reduceCtorEq, and_true, and_false, true_and, false_and, and_self, reduceIte, if_true, if_false] at q
        rw [hs, oN_le (by omega) (by omega)] at q
        omega
      · simp only [wi_i, wi_r, wi_l, wi_sh, wr_i, wr_l, wr_sh, wr_r, wi_wi, Nat.reduceEqDiff, eq_self, reduceCtorEq, and_true, and_false, true_and, false_and, and_self, reduceIte, if_true, if_false]
        exact ib_oN (by omega) (by decide)
      · rw [et] at q36 q
        exact step (by rw [hu, if_neg q36, if_pos (Or.inl q)])
      · rw [et] at q36 q
        exact step (by rw [hu, if_neg q36, if_pos (Or.inr (Or.inl q))])
      · rw [et] at q36 q
        exact step (by rw [hu, if_neg q36, if_pos (Or.inr (Or.inr (Or.inl q)))])
      · rw [et] at q36 q9 q10 q13 q
        rw [hu, if_neg q36, if_neg (fun z => z.elim q9 (fun z => z.elim q10 (fun z => z.elim q13 q)))] at w
        exact w
      · rw [et] at q36 q
        exact step (by rw [hu, if_neg q36, if_pos (Or.inr (Or.inr (Or.inr q)))])
      · rw [et] at q
        rw [hu, if_pos q] at w
        have h1 := skR_le t n (n - a) a
        have h2 : a < skR t n (n - a) a := by
          obtain ⟨k, hk⟩ : ∃ k, n - a = k + 1 := ⟨n - a - 1, by omega⟩
          rw [hk]
          exact skR_gt t n hl q
        exact rf_skR F hn hs ht (n - a) a ha rfl (rf_skB F hn hs ht m _ (h1.2 ha) (by omega) w)
    · have e : a = n := by omega
      subst e
      rw [skB, if_neg hl] at w
      refine S_X23_next_0 F ⟨fun _ => w, fun q => absurd ?_ q⟩
      simp only [wi_i, wi_r, wi_l, wi_sh, wr_i, wr_l, wr_sh, wr_r, wi_wi, Nat.reduceEqDiff, eq_self, reduceCtorEq, and_true, and_false, true_and, false_and, and_self, reduceIte, if_true, if_false]
      rw [hs]
      exact Int32.le_refl _
/-- a name's end -/
def skN (t : Nat → Int32) (n : Nat) : Nat → Nat → Nat
  | 0, a => a
  | m + 1, a => if a < n ∧ (isLet (t a) ∨ isDig (t a)) then skN t n m (a + 1) else a
theorem rf_skN (F : FX ΦR σ.sh σ.r) (hn : n ≤ 8192) (hs : σ.i 0 15 = Int32.ofNat n) (ht : ∀ k, k < n → σ.i 37 k = t k) : ∀ m a, a ≤ n → n - a ≤ m → B_X23_next_198 Z (d + 2) (σ.wi 0 16 (Int32.ofNat (skN t n m a))) K → B_X23_next_144 Z (d + 2) (σ.wi 0 16 (Int32.ofNat a)) K
  | 0, a, ha, hm, w => by
    have e : a = n := by omega
    subst e
    refine S_X23_next_144 (d := d + 1) F ⟨fun _ => w, fun q => absurd ?_ q⟩
    simp only [wi_i, wi_r, wi_l, wi_sh, wr_i, wr_l, wr_sh, wr_r, wi_wi, Nat.reduceEqDiff, eq_self, reduceCtorEq, and_true, and_false, true_and, false_and, and_self, reduceIte, if_true, if_false]
    rw [hs]
    exact Int32.le_refl _
  | m + 1, a, ha, hm, w => by
    by_cases hl : a < n
    · have ih := rf_skN F hn hs ht m (a + 1) (by omega) (by omega)
      have step : (isLet (t a) ∨ isDig (t a)) → B_X23_next_144 Z (d + 2) ((σ.wi 0 16 (Int32.ofNat a)).wi 0 16 ((σ.wi 0 16 (Int32.ofNat a)).i 0 16 + 1)) K := by
        intro e
        rw [skN, if_pos ⟨hl, e⟩] at w
        simp only [wi_i, wi_r, wi_l, wi_sh, wr_i, wr_l, wr_sh, wr_r, wi_wi, Nat.reduceEqDiff, eq_self, reduceCtorEq, and_true, and_false, true_and, false_and, and_self, reduceIte, if_true, if_false]
        rw [oN_1]
        exact ih w
      have et : (σ.wi 0 16 (Int32.ofNat a)).i 37 ((σ.wi 0 16 (Int32.ofNat a)).i 0 16).toNatClampNeg = t a := by
        simp only [wi_i, wi_r, wi_l, wi_sh, wr_i, wr_l, wr_sh, wr_r, wi_wi, Nat.reduceEqDiff, eq_self, reduceCtorEq, and_true, and_false, true_and, false_and, and_self, reduceIte, if_true, if_false]
        rw [oN_t (by omega), ht a hl]
      have hb : ib ((σ.wi 0 16 (Int32.ofNat a)).i 0 16) 8192 := by
        simp only [wi_i, wi_r, wi_l, wi_sh, wr_i, wr_l, wr_sh, wr_r, wi_wi, Nat.reduceEqDiff, eq_self, reduceCtorEq, and_true, and_false, true_and, false_and, and_self, reduceIte, if_true, if_false]
        exact ib_oN (by omega) (by decide)
      refine S_X23_next_144 (d := d + 1) F ⟨fun q => ?_, fun _ => ⟨hb, ?_⟩⟩
      · exfalso
        simp only [wi_i, wi_r, wi_l, wi_sh, wr_i, wr_l, wr_sh, wr_r, wi_wi, Nat.reduceEqDiff, eq_self, reduceCtorEq, and_true, and_false, true_and, false_and, and_self, reduceIte, if_true, if_false] at q
        rw [hs, oN_le (by omega) (by omega)] at q
        omega
      · rw [et]
        refine rf_let F (fun h1 => ⟨fun _ => step (Or.inl h1), fun z => absurd z (by decide)⟩) (fun h1 => ⟨fun z => absurd rfl z, fun _ => ⟨hb, ?_⟩⟩)
        rw [et]
        refine rf_dig F (fun h2 => ⟨fun z => absurd z (by decide), fun _ => step (Or.inr h2)⟩) (fun h2 => ⟨fun _ => ?_, fun z => absurd rfl z⟩)
        rw [skN, if_neg (fun z => z.2.elim h1 h2)] at w
        exact w
    · have e : a = n := by omega
      subst e
      rw [skN, if_neg (fun z => hl z.1)] at w
      refine S_X23_next_144 (d := d + 1) F ⟨fun _ => w, fun q => absurd ?_ q⟩
      simp only [wi_i, wi_r, wi_l, wi_sh, wr_i, wr_l, wr_sh, wr_r, wi_wi, Nat.reduceEqDiff, eq_self, reduceCtorEq, and_true, and_false, true_and, false_and, and_self, reduceIte, if_true, if_false]
      rw [hs]
      exact Int32.le_refl _
/-- a number: its end, its value (cut at 2^40) -/
def skD (t : Nat → Int32) (n : Nat) : Nat → Nat → Int64 → Nat × Int64
  | 0, a, v => (a, v)
  | m + 1, a, v => if a < n ∧ isDig (t a) then skD t n m (a + 1) (if (1099511627776 : Int64) < ((((10 : Int64) * v) + (Int32.toInt64 (t a))) - (48 : Int64)) then (1099511627776 : Int64) else ((((10 : Int64) * v) + (Int32.toInt64 (t a))) - (48 : Int64))) else (a, v)
theorem rf_skD (F : FX ΦR σ.sh σ.r) (hn : n ≤ 8192) (hs : σ.i 0 15 = Int32.ofNat n) (ht : ∀ k, k < n → σ.i 37 k = t k) : ∀ m a v, a ≤ n → n - a ≤ m → B_X23_next_328 Z (d + 2) (σ.wi 0 16 (Int32.ofNat (skD t n m a v).1)) (skD t n m a v).2 K → B_X23_next_262 Z (d + 2) (σ.wi 0 16 (Int32.ofNat a)) v K
  | 0, a, v, ha, hm, w => by
    have e : a = n := by omega
    subst e
    refine S_X23_next_262 (d := d + 1) F ⟨fun _ => w, fun q => absurd ?_ q⟩
    simp only [wi_i, wi_r, wi_l, wi_sh, wr_i, wr_l, wr_sh, wr_r, wi_wi, Nat.reduceEqDiff, eq_self, reduceCtorEq, and_true, and_false, true_and, false_and, and_self, reduceIte, if_true, if_false]
    rw [hs]
    exact Int32.le_refl _
  | m + 1, a, v, ha, hm, w => by
    by_cases hl : a < n
    · have et : (σ.wi 0 16 (Int32.ofNat a)).i 37 ((σ.wi 0 16 (Int32.ofNat a)).i 0 16).toNatClampNeg = t a := by
        simp only [wi_i, wi_r, wi_l, wi_sh, wr_i, wr_l, wr_sh, wr_r, wi_wi, Nat.reduceEqDiff, eq_self, reduceCtorEq, and_true, and_false, true_and, false_and, and_self, reduceIte, if_true, if_false]
        rw [oN_t (by omega), ht a hl]
      have hb : ib ((σ.wi 0 16 (Int32.ofNat a)).i 0 16) 8192 := by
        simp only [wi_i, wi_r, wi_l, wi_sh, wr_i, wr_l, wr_sh, wr_r, wi_wi, Nat.reduceEqDiff, eq_self, reduceCtorEq, and_true, and_false, true_and, false_and, and_self, reduceIte, if_true, if_false]
        exact ib_oN (by omega) (by decide)
      refine S_X23_next_262 (d := d + 1) F ⟨fun q => ?_, fun _ => ⟨hb, ?_⟩⟩
      · exfalso
        simp only [wi_i, wi_r, wi_l, wi_sh, wr_i, wr_l, wr_sh, wr_r, wi_wi, Nat.reduceEqDiff, eq_self, reduceCtorEq, and_true, and_false, true_and, false_and, and_self, reduceIte, if_true, if_false] at q
        rw [hs, oN_le (by omega) (by omega)] at q
        omega
      · rw [et]
        refine rf_dig F (fun h2 => ⟨fun z => absurd z (by decide), fun _ => ⟨hb, ?_⟩⟩) (fun h2 => ⟨fun _ => ?_, fun z => absurd rfl z⟩)
        · rw [et]
          rw [skD, if_pos ⟨hl, h2⟩] at w
          simp only [wi_i, wi_r, wi_l, wi_sh, wr_i, wr_l, wr_sh, wr_r, wi_wi, Nat.reduceEqDiff, eq_self, reduceCtorEq, and_true, and_false, true_and, false_and, and_self, reduceIte, if_true, if_false]
          rw [oN_1]
          exact rf_skD F hn hs ht m (a + 1) _ (by omega) (by omega) w
        · rw [skD, if_neg (fun z => h2 z.2)] at w
          exact w
    · have e : a = n := by omega
      subst e
      rw [skD, if_neg (fun z => hl z.1)] at w
      refine S_X23_next_262 (d := d + 1) F ⟨fun _ => w, fun q => absurd ?_ q⟩
      simp only [wi_i, wi_r, wi_l, wi_sh, wr_i, wr_l, wr_sh, wr_r, wi_wi, Nat.reduceEqDiff, eq_self, reduceCtorEq, and_true, and_false, true_and, false_and, and_self, reduceIte, if_true, if_false]
      rw [hs]
      exact Int32.le_refl _
end NEXT

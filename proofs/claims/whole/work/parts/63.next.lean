/-! THE REFERENCE'S SIGNS: next(), whole -/
/-- two bytes are one sign -/
abbrev two (t : Nat → Int32) (n a : Nat) : Prop := (t a = 61 ∨ t a = 60) ∧ a + 1 < n ∧ t (a + 1) = 61
/-- what next() makes of a heap, a being the first place behind blanks -/
def nx (t : Nat → Int32) (n a : Nat) (σ τ : Sg) : Prop :=
  (a = n ∧ τ = ((σ.wi 0 18 (Int32.ofNat a)).wi 0 16 (Int32.ofNat a)).wi 0 17 0) ∨
  (a < n ∧ isLet (t a) ∧ ¬ skN t n (n - a) a - a ≤ 16 ∧ τ = (((σ.wi 0 18 (Int32.ofNat a)).wi 0 16 (Int32.ofNat (skN t n (n - a) a))).wi 0 17 5).wi 0 26 (Int32.ofNat (skN t n (n - a) a - a))) ∨
  (a < n ∧ isLet (t a) ∧ skN t n (n - a) a - a ≤ 16 ∧ ∃ x, wd t a (skN t n (n - a) a - a) x ∧ τ = (((((σ.wi 0 18 (Int32.ofNat a)).wi 0 16 (Int32.ofNat (skN t n (n - a) a))).wi 0 17 5).wi 0 26 (Int32.ofNat (skN t n (n - a) a - a))).wr 0 25 x).wi 0 17 (if x = Rf.nul then 2 else 1)) ∨
  (a < n ∧ ¬ isLet (t a) ∧ isDig (t a) ∧ τ = (((σ.wi 0 18 (Int32.ofNat a)).wi 0 16 (Int32.ofNat (skD t n (n - a) a 0).1)).wi 0 19 (Int64.toInt32 (skD t n (n - a) a 0).2)).wi 0 17 (if lg_cmp (skD t n (n - a) a 0).2 2147483647 ≤ 0 then 3 else 5)) ∨
  (a < n ∧ ¬ isLet (t a) ∧ ¬ isDig (t a) ∧ τ = (((σ.wi 0 18 (Int32.ofNat a)).wi 0 16 (Int32.ofNat (a + if two t n a then 2 else 1))).wi 0 19 (if two t n a then 256 + t a else t a)).wi 0 17 (if 32 < t a ∧ 0 ≤ stF 184 (t a) then 4 else 5))
theorem skN_le (t : Nat → Int32) (n : Nat) : ∀ m a, a ≤ skN t n m a ∧ (a ≤ n → skN t n m a ≤ n)
  | 0, a => ⟨Nat.le_refl _, fun h => h⟩
  | m + 1, a => by
    unfold skN
    split
    · have := skN_le t n m (a + 1)
      rename_i h
      exact ⟨by omega, fun _ => this.2 (by omega)⟩
    · exact ⟨Nat.le_refl _, fun h => h⟩
theorem skB_le (t : Nat → Int32) (n : Nat) : ∀ m a, a ≤ n → skB t n m a ≤ n
  | 0, a, h => h
  | m + 1, a, h => by
    unfold skB
    split
    · split
      · exact skB_le t n m _ ((skR_le t n _ a).2 h)
      · split
        · exact skB_le t n m _ (by omega)
        · exact h
    · exact h
theorem b_pos {c : Int32} (h : 32 < c) (hb : c.toInt ≤ 127) : ((Int32.toUInt32 c) % 65536).toInt32 = Int32.ofNat c.toInt.toNat ∧ 32 ≤ c.toInt.toNat ∧ c.toInt.toNat < 128 ∧ c = Int32.ofNat c.toInt.toNat := by
  have h1 : 32 < c.toInt := by
    have := Int32.lt_iff_toInt_lt.mp h
    exact this
  have e : c = Int32.ofNat c.toInt.toNat := i_oN (by omega)
  refine ⟨?_, by omega, by omega, e⟩
  have key : ∀ k : Fin 128, ((Int32.toUInt32 (Int32.ofNat k.val)) % 65536).toInt32 = Int32.ofNat k.val := by decide +kernel
  have := key ⟨c.toInt.toNat, by omega⟩
  rw [← e] at this
  exact this.trans e
section NEXT2
variable {Z : zT} {d n : Nat} {σ : Sg} {K : kS} {t : Nat → Int32}
theorem rf_102 (hZ : ZK Z) (hd : 12 ≤ d) (F : FX ΦR σ.sh σ.r) (hn : n ≤ 8192) (hs : σ.i 0 15 = Int32.ofNat n) (ht : ∀ k, k < 8192 → σ.i 37 k = t k) (hy : ∀ k, (t k).toInt ≤ 127) {a : Nat} (ha : a ≤ n) (hk : ∀ τ, nx t n a σ τ → K (.inl none) τ) : B_X23_next_102 Z (d + 3) (σ.wi 0 16 (Int32.ofNat a)) K := by
  have cm : ∀ (v w : Int32), (σ.wi 0 16 v).wi 0 18 w = (σ.wi 0 18 w).wi 0 16 v := fun v w => wi_cm (by decide)
  by_cases hl : a < n
  · have et : (σ.wi 0 16 (Int32.ofNat a)).i 37 ((σ.wi 0 16 (Int32.ofNat a)).i 0 16).toNatClampNeg = t a := by
      simp only [wi_i, wi_r, wi_l, wi_sh, wr_i, wr_l, wr_sh, wr_r, wi_wi, Nat.reduceEqDiff, eq_self, reduceCtorEq, and_true, and_false, true_and, false_and, and_self, reduceIte, if_true, if_false]
      rw [oN_t (by omega), ht a (by omega)]
    have ea : (σ.wi 0 16 (Int32.ofNat a)).i 0 16 = Int32.ofNat a := rfl
    refine S_X23_next_102 (d := d + 2) F ⟨fun _ => ⟨?_, ?_⟩, fun q => ?_⟩
    · rw [ea]
      exact ib_oN (by omega) (by decide)
    · rw [et, ea, cm]
      refine rf_let F (fun hL => ⟨fun z => absurd z (by decide), fun _ => ?_⟩) (fun hL => ⟨fun _ => ?_, fun z => absurd rfl z⟩)
      · refine rf_skN (σ := σ.wi 0 18 (Int32.ofNat a)) (t := t) (d := d + 1) F hn hs (fun k hk => ht k (by omega)) (n - a) a ha (Nat.le_refl _) ?_
        have hN := skN_le t n (n - a) a
        have hN2 := hN.2 ha
        have es : ((σ.wi 0 18 (Int32.ofNat a)).wi 0 16 (Int32.ofNat (skN t n (n - a) a))).i 0 16 - ((σ.wi 0 18 (Int32.ofNat a)).wi 0 16 (Int32.ofNat (skN t n (n - a) a))).i 0 18 = Int32.ofNat (skN t n (n - a) a - a) := by
          show Int32.ofNat (skN t n (n - a) a) - Int32.ofNat a = _
          rw [← Int32.toInt_inj, Int32.toInt_sub, oN_i (by omega), oN_i (by omega), oN_i (by omega), Int.bmod_def]
          omega
        refine S_X23_next_198 (d := d + 2) F ⟨fun q => ?_, fun q => ?_⟩
        · rw [es] at q ⊢
          rw [show (16 : Int32) = Int32.ofNat 16 from rfl, oN_le (by omega) (by omega)] at q
          refine rf_word (p := a) (l := skN t n (n - a) a - a) hZ hd F rfl rfl (by omega) (by omega) (fun k hk => ht k hk) (fun x hx => Or.inl ⟨x, rfl, fun z => ?_, fun z => ?_⟩)
          · refine hk _ (Or.inr (Or.inr (Or.inl ⟨hl, hL, q, x, hx, ?_⟩)))
            rw [if_pos z]
          · refine hk _ (Or.inr (Or.inr (Or.inl ⟨hl, hL, q, x, hx, ?_⟩)))
            rw [if_neg z]
        · rw [es] at q ⊢
          rw [show (16 : Int32) = Int32.ofNat 16 from rfl, oN_le (by omega) (by omega)] at q
          exact hk _ (Or.inr (Or.inl ⟨hl, hL, q, rfl⟩))
      · refine rf_dig F (fun hD => ⟨fun z => absurd z (by decide), fun _ => ?_⟩) (fun hD => ⟨fun _ => ?_, fun z => absurd rfl z⟩)
        · refine rf_skD (σ := σ.wi 0 18 (Int32.ofNat a)) (t := t) (d := d + 1) F hn hs (fun k hk => ht k (by omega)) (n - a) a 0 ha (Nat.le_refl _) ?_
          refine S_X23_next_328 (d := d + 2) F ⟨fun q => ?_, fun q => ?_⟩
          · refine hk _ (Or.inr (Or.inr (Or.inr (Or.inl ⟨hl, hL, hD, ?_⟩))))
            rw [if_pos q]
          · refine hk _ (Or.inr (Or.inr (Or.inr (Or.inl ⟨hl, hL, hD, ?_⟩))))
            rw [if_neg q]
        · have fin : ∀ (s : Int32), (s = 0 → ¬ two t n a) → (¬ s = 0 → two t n a) → B_X23_next_400 Z (d + 3) ((σ.wi 0 18 (Int32.ofNat a)).wi 0 16 (Int32.ofNat a)) (t a) s K := by
            intro s h0 h1
            have last : ∀ (b : Nat) (v : Int32), (b = a + if two t n a then 2 else 1) → (v = if two t n a then 256 + t a else t a) → B_X23_next_433 Z (d + 3) (((σ.wi 0 18 (Int32.ofNat a)).wi 0 16 (Int32.ofNat a)).wi 0 16 (Int32.ofNat b)) (t a) v K := by
              intro b v hb hv
              rw [wi_wi]
              have sp : ∀ y : Int32, y = (if 32 < t a ∧ 0 ≤ stF 184 (t a) then 4 else 5) → K (.inl none) ((((σ.wi 0 18 (Int32.ofNat a)).wi 0 16 (Int32.ofNat b)).wi 0 19 v).wi 0 17 y) := by
                intro y hy
                refine hk _ (Or.inr (Or.inr (Or.inr (Or.inr ⟨hl, hL, hD, ?_⟩))))
                rw [hy, hb, hv]
              refine S_X23_next_433 (d := d + 2) F ⟨fun q => sp 5 ?_, fun q => ?_⟩
              · rw [if_neg (fun z => absurd z.1 (Int32.not_lt.mpr q))]
              · have q := Int32.not_le.mp q
                obtain ⟨e1, e2, e3, e4⟩ := b_pos q (hy a)
                rw [e1]
                refine st_ix hZ (Or.inr ⟨rfl, e2, e3⟩) (by omega) F ?_
                rw [← e4]
                refine ⟨fun z => sp 5 ?_, fun z => sp 4 ?_⟩
                · rw [if_neg (fun y => absurd z (Int32.not_lt.mpr y.2))]
                · rw [if_pos ⟨q, Int32.not_lt.mp z⟩]
            refine S_X23_next_400 (d := d + 2) F ⟨fun q => ?_, fun q => ?_⟩
            · subst q
              have ht2 := h0 rfl
              refine S_X23_next_415 (d := d + 2) F ⟨fun _ => ?_, fun q => absurd rfl q⟩
              show B_X23_next_433 Z (d + 3) (((σ.wi 0 18 (Int32.ofNat a)).wi 0 16 (Int32.ofNat a)).wi 0 16 (Int32.ofNat a + 1)) (t a) (t a) K
              rw [oN_1]
              exact last _ _ (by rw [if_neg ht2]) (by rw [if_neg ht2])
            · have ht2 := h1 q
              refine S_X23_next_415 (d := d + 2) F ⟨fun z => absurd z q, fun _ => ?_⟩
              show B_X23_next_433 Z (d + 3) (((σ.wi 0 18 (Int32.ofNat a)).wi 0 16 (Int32.ofNat a)).wi 0 16 (Int32.ofNat a + Int32.ofNat 2)) (t a) (256 + t a) K
              rw [oN_add]
              exact last _ _ (by rw [if_pos ht2]) (by rw [if_pos ht2])
          have n399 : ¬ two t n a → B_X23_next_399 Z (d + 3) ((σ.wi 0 18 (Int32.ofNat a)).wi 0 16 (Int32.ofNat a)) (t a) K := fun h => S_X23_next_399 (d := d + 2) F (fin 0 (fun _ => h) (fun z => absurd rfl z))
          have n366 : (t a = 61 ∨ t a = 60) → B_X23_next_366 Z (d + 3) ((σ.wi 0 18 (Int32.ofNat a)).wi 0 16 (Int32.ofNat a)) (t a) K := by
            intro hc
            have e1 : ((σ.wi 0 18 (Int32.ofNat a)).wi 0 16 (Int32.ofNat a)).i 0 16 + (1 : Int32) = Int32.ofNat (a + 1) := oN_1 a
            have e2 : ((σ.wi 0 18 (Int32.ofNat a)).wi 0 16 (Int32.ofNat a)).i 0 15 = Int32.ofNat n := hs
            refine S_X23_next_366 (d := d + 2) F ⟨fun q => ?_, fun q => ⟨?_, fun z => ?_, fun z => ?_⟩⟩
            · rw [e1, e2, oN_le (by omega) (by omega)] at q
              exact n399 fun z => by have := z.2.1; omega
            · rw [e1, e2, oN_le (by omega) (by omega)] at q
              rw [e1]
              exact ib_oN (by omega) (by decide)
            · rw [e1, e2, oN_le (by omega) (by omega)] at q
              rw [e1, oN_t (by omega)] at z
              exact n399 fun y => z ((ht (a + 1) (by omega)).trans y.2.2)
            · rw [e1, e2, oN_le (by omega) (by omega)] at q
              rw [e1, oN_t (by omega)] at z
              exact fin 1 (fun y => absurd y (by decide)) (fun _ => ⟨hc, by omega, (ht (a + 1) (by omega)).symm.trans z⟩)
          exact ⟨fun q => n366 (Or.inl q), fun q => ⟨fun z => n399 fun y => y.1.elim q z, fun z => n366 (Or.inr z)⟩⟩
    · exfalso
      have q : Int32.ofNat a = Int32.ofNat n := q.trans hs
      rw [oN_eq (by omega) (by omega)] at q
      omega
  · have e : a = n := by omega
    subst e
    refine S_X23_next_102 (d := d + 2) F ⟨fun q => absurd (show Int32.ofNat a = σ.i 0 15 from hs.symm) q, fun _ => ?_⟩
    rw [cm]
    exact hk _ (Or.inl ⟨rfl, rfl⟩)
/-- next(): the sign behind blanks and remarks -/
theorem rf_next (hZ : ZK Z) (hd : 12 ≤ d) (F : FX ΦR σ.sh σ.r) (hn : n ≤ 8192) (hs : σ.i 0 15 = Int32.ofNat n) (ht : ∀ k, k < 8192 → σ.i 37 k = t k) (hy : ∀ k, (t k).toInt ≤ 127) {a : Nat} (ha : a ≤ n) (hat : σ.i 0 16 = Int32.ofNat a) (hk : ∀ τ, nx t n (skB t n (n - a) a) σ τ → K (.inl none) τ) : B_X23_next_0 Z (d + 3) σ K := by
  have e : σ = σ.wi 0 16 (Int32.ofNat a) := by rw [← hat, wi_id]
  rw [e]
  exact rf_skB (d := d + 2) F hn hs (fun k hk => ht k (by omega)) (n - a) a ha (Nat.le_refl _) (rf_102 hZ hd F hn hs ht hy (skB_le t n _ a ha) hk)
end NEXT2

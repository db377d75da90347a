/-! THE CLASS: words and names -/
def wLen : List Nat := [4, 4, 4, 5, 6, 6, 6, 6, 2, 2, 3, 2, 3, 2, 4, 3, 3, 3, 5, 4, 4, 4, 3, 4, 4, 4, 7, 2, 3, 2, 4, 4, 4]
def wLn (j : Nat) : Nat := wLen.getD j 0
def wSt (j : Nat) : Nat := (wLen.take j).sum + j
theorem wd_f1 : ∀ j, j < 33 → ∀ i, i < wLn j → stI 106 (wSt j + i) ≠ 32 := by decide +kernel
theorem wd_f2 : ∀ j, j < 32 → stI 106 (wSt j + wLn j) = 32 := by decide +kernel
theorem wd_f3 : (stA 106).1 = wSt 32 + wLn 32 := by decide +kernel
theorem wd_f4 : ∀ j, j < 33 → 2 ≤ wLn j ∧ wLn j ≤ 7 ∧ wSt j + wLn j ≤ wSt 32 + wLn 32 ∧ wSt (j + 1) = wSt j + wLn j + 1 := by decide +kernel
theorem wd_f5 : ∀ q ∈ wdL, q.2 - 20 < 33 ∧ 20 ≤ q.2 ∧ (stA q.1).1 = wLn (q.2 - 20) ∧ ∀ k, k < wLn (q.2 - 20) → stI 106 (wSt (q.2 - 20) + k) = stI q.1 k := by decide +kernel
theorem wd_f6 : ∀ j, j < 33 → ∃ q ∈ wdL, q.2 = 20 + j := by decide +kernel
theorem wd_f7 : ∀ j ∈ stE, ∃ q ∈ wdL, q.1 = j := by decide +kernel
theorem wd_f8 : ∀ q ∈ wdL, ∀ q' ∈ wdL, q.1 = q'.1 → q.2 = q'.2 := by decide +kernel
theorem wd_f9 : wSt 32 + wLn 32 < 1000 := by decide +kernel
/-- the j-th word stands there -/
def wM (t : Nat → Int32) (p l j : Nat) : Prop := wLn j = l ∧ ∀ k, k < l → t (p + k) = stI 106 (wSt j + k)
section WORDS
variable {Z : zT} {d : Nat} {t : Nat → Int32} {n A m : Nat} {σ τ υ : Sg} {K : kS} {cap b0 b1 b2 b3 p l : Nat}
theorem cl_isWord (hZ : ZK Z) (hd : 12 ≤ d) (F : FX ΦC σ.sh σ.r) (T : TxC t n A m σ) (hp : p + l ≤ n) {j : Nat} (hj : j < 33) (hl : wLn j = l) (h1 : (∀ k, k < l → t (p + k) = stI 106 (wSt j + k)) → K (.inl (some (.int 1))) σ) (h0 : ¬ (∀ k, k < l → t (p + k) = stI 106 (wSt j + k)) → K (.inl (some (.int 0))) σ) : C_X8_isWord_0 Z (d + 1) σ A (Int32.ofNat p) (Int32.ofNat (wSt j)) (Int32.ofNat l) K := by
  obtain ⟨x1, x2, x3, x4, x5⟩ := T
  have f4 := wd_f4 j hj
  have f9 := wd_f9
  have loop : ∀ f k, k + f = l → (∀ i, i < k → t (p + i) = stI 106 (wSt j + i)) → C_X8_isWord_3 Z (d + 1) σ A (Int32.ofNat p) (Int32.ofNat (wSt j)) (Int32.ofNat l) (Int32.ofNat k) K := by
    intro f
    induction f with
    | zero =>
      intro k hk hall
      obtain rfl : k = l := by omega
      exact T_X8_isWord_3 F ⟨fun _ => h1 hall, fun z => absurd (Int32.le_refl _) z⟩
    | succ f ih =>
      intro k hk hall
      refine T_X8_isWord_3 F ⟨fun z => absurd z ?_, fun _ => ⟨m, x1, ?_⟩⟩
      · rw [oN_le (by omega) (by omega)]
        omega
      · rw [oN_add, oN_add, oN_t (by omega), x3 _ (by omega)]
        refine ⟨ib_oN (by omega) (by omega), st_ch hZ (j := 106) (by decide) (by rw [wd_f3]; omega) (by omega) F ⟨fun z => ?_, fun z => h0 (fun y => z (y k (by omega)))⟩⟩
        rw [oN_1]
        refine ih (k + 1) (by omega) (fun i hi => ?_)
        by_cases y : i = k
        · rw [y]
          exact z
        · exact hall i (by omega)
  exact T_X8_isWord_0 F (loop l 0 (by omega) (fun i hi => by omega))
theorem cl_words (hZ : ZK Z) (hd : 14 ≤ d) (F : FX ΦC σ.sh σ.r) (T : TxC t n A m σ) (hp : p + l ≤ n) (hl : 2 ≤ l ∧ l ≤ 7) (h : ∀ r : Nat, (∀ j, j < 33 → wM t p l j → (∀ j', j' < j → ¬ wM t p l j') → r = 20 + j) → ((∀ j, j < 33 → ¬ wM t p l j) → r = 2) → K (.inl (some (.int (Int32.ofNat r)))) σ) : C_X8_wordOrName_22 Z d σ A (Int32.ofNat p) (Int32.ofNat l) 0 20 0 K := by
  obtain ⟨d, rfl⟩ : ∃ e, d = e + 1 := ⟨d - 1, by omega⟩
  have f3 := wd_f3
  have f9 := wd_f9
  have x2 := T.2.1
  have loop : ∀ f j, j + f = 33 → (∀ j', j' < j → ¬ wM t p l j') → C_X8_wordOrName_22 Z (d + 1) σ A (Int32.ofNat p) (Int32.ofNat l) (Int32.ofNat (wSt j)) (Int32.ofNat (20 + j)) (Int32.ofNat (wSt j)) K := by
    intro f
    induction f with
    | zero =>
      intro j hj hno
      obtain rfl : j = 33 := by omega
      have f4 : wSt 33 = wSt 32 + wLn 32 + 1 := (wd_f4 32 (by decide)).2.2.2
      refine T_X8_wordOrName_22 F (st_ln hZ (j := 106) (by decide) (by omega) F ⟨fun _ => h 2 (fun j hj hm _ => absurd hm (hno j hj)) (fun _ => rfl), fun z => absurd ?_ z⟩)
      rw [f3, oN_lt (by omega) (by omega)]
      omega
    | succ f ih =>
      intro j hj hno
      have f4 := wd_f4 j (by omega)
      have next : ¬ wM t p l j → C_X8_wordOrName_22 Z (d + 1) σ A (Int32.ofNat p) (Int32.ofNat l) (Int32.ofNat (wSt j + wLn j) + (1 : Int32)) (Int32.ofNat (20 + j) + 1) (Int32.ofNat (wSt j + wLn j) + 1) K := fun hm => by
        rw [oN_1, oN_1, ← f4.2.2.2]
        refine ih (j + 1) (by omega) (fun j' hj' => ?_)
        by_cases y : j' = j
        · rw [y]
          exact hm
        · exact hno j' (by omega)
      have p54 : C_X8_wordOrName_54 Z (d + 1) σ A (Int32.ofNat p) (Int32.ofNat l) (Int32.ofNat (wSt j)) (Int32.ofNat (20 + j)) (Int32.ofNat (wSt j + wLn j)) K := by
        refine T_X8_wordOrName_54 F ?_
        rw [oN_sub (by omega), show wSt j + wLn j - wSt j = wLn j by omega, oN_eq (by omega) (by omega)]
        refine ⟨fun z => next (fun y => z y.1), fun z => ?_⟩
        obtain ⟨d, rfl⟩ : ∃ e, d = e + 1 := ⟨d - 1, by omega⟩
        refine cl_isWord hZ (by omega) F T hp (by omega) z (fun y => ?_) (fun y => ?_)
        · exact ⟨fun q => absurd q (by decide), fun _ => h (20 + j) (fun j' hj' hm hno' => by
            rcases Nat.lt_trichotomy j' j with q | q | q
            · exact absurd hm (hno j' q)
            · rw [q]
            · exact absurd ⟨z, y⟩ (hno' j q)) (fun q => absurd ⟨z, y⟩ (q j (by omega)))⟩
        · exact ⟨fun _ => next (fun q => y q.2), fun q => absurd rfl q⟩
      have inner : ∀ g i, i + g = wLn j → C_X8_wordOrName_22 Z (d + 1) σ A (Int32.ofNat p) (Int32.ofNat l) (Int32.ofNat (wSt j)) (Int32.ofNat (20 + j)) (Int32.ofNat (wSt j + i)) K := by
        intro g
        induction g with
        | zero =>
          intro i hi
          obtain rfl : i = wLn j := by omega
          refine T_X8_wordOrName_22 F (st_ln hZ (j := 106) (by decide) (by omega) F ⟨fun z => absurd z ?_, fun _ => st_ln hZ (j := 106) (by decide) (by omega) F ⟨fun _ => p54, fun z => st_ch hZ (j := 106) (i := wSt j + wLn j) (by decide) ?_ (by omega) F ⟨fun y => absurd ?_ y, fun _ => p54⟩⟩⟩)
          · rw [f3, oN_lt (by omega) (by omega)]
            omega
          · rw [f3, oN_eq (by omega) (by omega)] at z
            omega
          · rw [f3, oN_eq (by omega) (by omega)] at z
            have hj32 : j < 32 := by
              by_cases y : j = 32
              · rw [y] at z
                exact absurd rfl z
              · omega
            exact wd_f2 j hj32
        | succ g ihg =>
          intro i hi
          refine T_X8_wordOrName_22 F (st_ln hZ (j := 106) (by decide) (by omega) F ⟨fun z => absurd z ?_, fun _ => st_ln hZ (j := 106) (by decide) (by omega) F ⟨fun z => absurd z ?_, fun _ => st_ch hZ (j := 106) (i := wSt j + i) (by decide) (by omega) (by omega) F ⟨fun _ => ?_, fun y => absurd y (wd_f1 j (by omega) i (by omega))⟩⟩⟩)
          · rw [f3, oN_lt (by omega) (by omega)]
            omega
          · rw [f3, oN_eq (by omega) (by omega)]
            omega
          · rw [oN_1]
            exact ihg (i + 1) (by omega)
      exact inner (wLn j) 0 (by omega)
  exact loop 33 0 rfl (fun j' hj' => by omega)
/-- a word's or a name's number -/
theorem wd_ty (hp : p < n) (hL : isLet (t p)) (h16 : lnS t n p ≤ 16) {r : Nat} (h1 : ∀ j, j < 33 → wM t p (lnS t n p) j → (∀ j', j' < j → ¬ wM t p (lnS t n p) j') → r = 20 + j) (h0 : (∀ j, j < 33 → ¬ wM t p (lnS t n p) j) → r = 2) : r = tyS t n p := by
  have mq : ∀ q ∈ wdL, mt t p (lnS t n p) q.1 ↔ wM t p (lnS t n p) (q.2 - 20) := fun q hq => by
    obtain ⟨a1, a2, a3, a4⟩ := wd_f5 q hq
    constructor
    · rintro ⟨m1, m2⟩
      exact ⟨by omega, fun k hk => by rw [a4 k (by omega), m2 k hk]⟩
    · rintro ⟨m1, m2⟩
      exact ⟨by omega, fun k hk => by rw [m2 k hk, a4 k (by omega)]⟩
  have ty : tyS t n p = if wdJ t p (lnS t n p) = Rf.nul then 2 else wdC (wdJ t p (lnS t n p)) := by
    unfold tyS soS
    rw [if_pos hp, if_pos hL, if_pos h16]
    by_cases z : wdJ t p (lnS t n p) = Rf.nul
    · rw [if_pos z, if_pos z]
      rfl
    · rw [if_neg z, if_neg z]
      rfl
  rcases wd_J t p (lnS t n p) with ⟨j, hj, e, hm⟩ | ⟨e, hno⟩
  · obtain ⟨q, hq, hqj⟩ := wd_f7 j hj
    obtain ⟨a1, a2, -⟩ := wd_f5 q hq
    have hM := (mq q hq).mp (by rw [hqj]; exact hm)
    rw [ty, e, if_neg (by intro z; cases z)]
    have ec := (wdL_c q hq).1
    rw [hqj] at ec
    rw [ec]
    have := h1 (q.2 - 20) a1 hM (fun j' hj' hM' => ?_)
    · omega
    · obtain ⟨q', hq', e'⟩ := wd_f6 j' (by omega)
      have hm' := (mq q' hq').mpr (by rw [e', show 20 + j' - 20 = j' by omega]; exact hM')
      have hj2 := (wdL_c q' hq').2.2.2
      have : q'.1 = j := stE_u q'.1 hj2 j hj (by rw [hm'.1, hm.1]) (List.all_eq_true.mpr fun k hk => by
        have hk := List.mem_range.mp hk
        rw [hm'.1] at hk
        rw [beq_iff_eq, hm'.2 k hk, hm.2 k hk])
      have := wd_f8 q' hq' q hq (by rw [this, hqj])
      omega
  · rw [ty, if_pos e]
    refine h0 (fun j hj hM => ?_)
    obtain ⟨q, hq, e'⟩ := wd_f6 j hj
    exact hno q.1 (wdL_c q hq).2.2.2 ((mq q hq).mpr (by rw [e', show 20 + j - 20 = j by omega]; exact hM))
theorem cl_wordOrName (hZ : ZK Z) (hd : 15 ≤ d) (F : FX ΦC σ.sh σ.r) (T : TxC t n A m σ) (hp : p < n) (hL : isLet (t p)) (h16 : lnS t n p ≤ 16) (hpl : p + lnS t n p ≤ n) (h : K (.inl (some (.int (Int32.ofNat (tyS t n p))))) σ) : C_X8_wordOrName_0 Z d σ A (Int32.ofNat p) (Int32.ofNat (lnS t n p)) K := by
  obtain ⟨d, rfl⟩ : ∃ e, d = e + 1 := ⟨d - 1, by omega⟩
  have no : ¬ (2 ≤ lnS t n p ∧ lnS t n p ≤ 7) → K (.inl (some (.int 2))) σ := fun z => by
    have := wd_ty (r := 2) hp hL h16 (fun j hj hM _ => by
      have := wd_f4 j hj
      have := hM.1
      omega) (fun _ => rfl)
    rw [← this] at h
    exact h
  refine T_X8_wordOrName_0 F ⟨fun z => no ?_, fun z => ⟨fun z2 => ?_, fun z2 => no ?_⟩⟩
  · rw [show (2 : Int32) = Int32.ofNat 2 from rfl, oN_lt (by omega) (by decide)] at z
    omega
  · rw [show (2 : Int32) = Int32.ofNat 2 from rfl, oN_lt (by omega) (by decide)] at z
    rw [show (7 : Int32) = Int32.ofNat 7 from rfl, oN_le (by omega) (by decide)] at z2
    refine cl_words hZ (by omega) F T hpl (by omega) (fun r h1 h0 => ?_)
    rw [wd_ty hp hL h16 h1 h0]
    exact h
  · rw [show (7 : Int32) = Int32.ofNat 7 from rfl, oN_le (by omega) (by decide)] at z2
    omega
end WORDS

/-! THE REFERENCE'S ROW BY WAY 0: the merge -/
/-- the lists LL lie in merged, the first fr j of each are gone -/
def MgIs (τ : Sg) (LL : List (List Nat)) (fr : Nat → Nat) : Prop := ∀ j l, LL[j]? = some l → τ.i 35 j = Int32.ofNat (fr j) ∧ τ.i 36 j = Int32.ofNat l.length ∧ fr j ≤ l.length ∧ l.length ≤ 24 ∧ (∀ z ∈ l, z < 24) ∧ ∀ i y, l[i]? = some y → τ.i (9 + 1 + j) i = Int32.ofNat y
/-- y is behind a head -/
def Bhd (LL : List (List Nat)) (fr : Nat → Nat) (j0 y : Nat) : Prop := ∃ j l i, j0 ≤ j ∧ LL[j]? = some l ∧ fr j + 1 ≤ i ∧ l[i]? = some y
section MERGE
variable {Z : zT} {d y rn : Nat} {K : kS} {τ : Sg} {LL : List (List Nat)} {fr : Nat → Nat}
theorem mf_17 (F : FX ΦR τ.sh τ.r) (hM : MgIs τ LL fr) (hy : y < 24) {j : Nat} {l : List Nat} (hj : j < 25) (hl : LL[j]? = some l) (h0 : ∀ i, fr j + 1 ≤ i → l[i]? = some y → K (.inl (some (.int 0))) τ) (h1 : (∀ i, fr j + 1 ≤ i → l[i]? ≠ some y) → B_X23_isFirst_2 Z (d + 1) τ (Int32.ofNat y) (Int32.ofNat rn) (Int32.ofNat (j + 1)) K) : ∀ m i, l.length - i = m → fr j + 1 ≤ i → i ≤ 25 → (∀ i', fr j + 1 ≤ i' → i' < i → l[i']? ≠ some y) → B_X23_isFirst_17 Z (d + 1) τ (Int32.ofNat y) (Int32.ofNat rn) (Int32.ofNat j) (Int32.ofNat i) K := by
  obtain ⟨e1, e2, e3, e4, e5, e6⟩ := hM j l hl
  intro m
  induction m with
  | zero =>
    intro i hm hi hi25 hn
    refine S_X23_isFirst_17 F ⟨ib_oN hj (by decide), fun _ => ?_, fun q => absurd ?_ q⟩
    · rw [oN_1]
      refine h1 fun i' hi' z => ?_
      by_cases g : i' < i
      · exact hn i' hi' g z
      · have := (List.getElem?_eq_some_iff.mp z).1
        omega
    · rw [oN_t (by omega), e2, oN_le (by omega) (by omega)]
      omega
  | succ m ih =>
    intro i hm hi hi25 hn
    have hlt : i < l.length := by omega
    have ez := e5 _ (List.getElem_mem hlt)
    have er : τ.i (9 + 1 + (Int32.ofNat j).toNatClampNeg) (Int32.ofNat i).toNatClampNeg = Int32.ofNat l[i] := by
      rw [oN_t (by omega), oN_t (by omega)]
      exact e6 i _ (List.getElem?_eq_getElem hlt)
    refine S_X23_isFirst_17 F ⟨ib_oN hj (by decide), fun q => ?_, fun _ => ⟨ib_oN hj (by decide), ib_oN (by omega) (by decide), fun q => ?_, fun q => ?_⟩⟩
    · exfalso
      rw [oN_t (by omega), e2, oN_le (by omega) (by omega)] at q
      omega
    · rw [er, oN_eq (by omega) (by omega)] at q
      rw [oN_1]
      refine ih (i + 1) (by omega) (by omega) (by omega) fun i' h2 h3 z => ?_
      by_cases g : i' < i
      · exact hn i' h2 g z
      · rw [show i' = i by omega, List.getElem?_eq_getElem hlt] at z
        exact q (Option.some.inj z)
    · rw [er, oN_eq (by omega) (by omega)] at q
      exact h0 i hi (by rw [List.getElem?_eq_getElem hlt, q])
theorem mf_2 (F : FX ΦR τ.sh τ.r) (hM : MgIs τ LL fr) (hy : y < 24) (hL : LL.length = rn + 1) (hr : rn < 25) (h0 : Bhd LL fr 0 y → K (.inl (some (.int 0))) τ) (h1 : ¬ Bhd LL fr 0 y → K (.inl (some (.int 1))) τ) : ∀ m j, LL.length - j = m → j ≤ LL.length → (∀ j' l i, j' < j → LL[j']? = some l → fr j' + 1 ≤ i → l[i]? ≠ some y) → B_X23_isFirst_2 Z (d + 1) τ (Int32.ofNat y) (Int32.ofNat rn) (Int32.ofNat j) K := by
  intro m
  induction m with
  | zero =>
    intro j hm hj hn
    have e : j = rn + 1 := by omega
    subst e
    refine S_X23_isFirst_2 F ⟨fun _ => h1 ?_, fun q => absurd ?_ q⟩
    · rintro ⟨j', l, i, -, a1, a2, a3⟩
      exact hn j' l i (by have := (List.getElem?_eq_some_iff.mp a1).1; omega) a1 a2 a3
    · rw [oN_lt (by omega) (by omega)]
      omega
  | succ m ih =>
    intro j hm hj hn
    have hlt : j < LL.length := by omega
    have hl : LL[j]? = some LL[j] := List.getElem?_eq_getElem hlt
    obtain ⟨e1, e2, e3, e4, e5, e6⟩ := hM j _ hl
    refine S_X23_isFirst_2 F ⟨fun q => ?_, fun _ => ⟨ib_oN (by omega) (by decide), ?_⟩⟩
    · exfalso
      rw [oN_lt (by omega) (by omega)] at q
      omega
    · rw [oN_t (by omega), e1, oN_1]
      refine mf_17 F hM hy (by omega) hl (fun i a1 a2 => h0 ⟨j, _, i, Nat.zero_le _, hl, a1, a2⟩) (fun hno => ih (j + 1) (by omega) (by omega) fun j' l i a1 a2 a3 => ?_) _ _ rfl (Nat.le_refl _) (by omega) fun i' a1 a2 => by omega
      by_cases g : j' < j
      · exact hn j' l i g a2 a3
      · have ej : j' = j := by omega
        subst ej
        rw [hl] at a2
        cases a2
        exact hno i a3
/-- isFirst(): the kind is behind no head -/
theorem rf_first (F : FX ΦR τ.sh τ.r) (hM : MgIs τ LL fr) (hy : y < 24) (hL : LL.length = rn + 1) (hr : rn < 25) (h0 : Bhd LL fr 0 y → K (.inl (some (.int 0))) τ) (h1 : ¬ Bhd LL fr 0 y → K (.inl (some (.int 1))) τ) : B_X23_isFirst_0 Z (d + 1) τ (Int32.ofNat y) (Int32.ofNat rn) K := S_X23_isFirst_0 F (mf_2 F hM hy hL hr h0 h1 LL.length 0 rfl (Nat.zero_le _) fun j' l i a => absurd a (Nat.not_lt_zero _))
/-- y is the head of list j, and behind no head -/
def Can (LL : List (List Nat)) (fr : Nat → Nat) (j y : Nat) : Prop := (∃ l, LL[j]? = some l ∧ l[fr j]? = some y) ∧ ¬ Bhd LL fr 0 y
/-- the first head that is free -/
theorem mr_193 (F : FX ΦR τ.sh τ.r) {l2 : Nat} {l4 : Int32} (p2 : sh0R[l2]? = some (Sh.obj 18)) (hM : MgIs τ LL fr) (hL : LL.length = rn + 1) (hr : rn < 25) (hf : ∀ j y, j < LL.length → y < 24 → Can LL fr j y → (∀ j' y', j' < j → ¬ Can LL fr j' y') → B_X23_makeRows_273 Z (d + 2) τ l2 (Int32.ofNat rn) l4 (Int32.ofNat y) 1 K) (hn : ∀ b : Int32, (b = 0 ∨ b = 1) → (b = 0 ↔ ∀ j l, LL[j]? = some l → fr j = l.length) → (∀ j y, ¬ Can LL fr j y) → B_X23_makeRows_273 Z (d + 2) τ l2 (Int32.ofNat rn) l4 (-1) b K) : ∀ m j (b : Int32), LL.length - j = m → j ≤ LL.length → (b = 0 ∨ b = 1) → (b = 0 ↔ ∀ j' l, j' < j → LL[j']? = some l → fr j' = l.length) → (∀ j' y', j' < j → ¬ Can LL fr j' y') → B_X23_makeRows_193 Z (d + 2) τ l2 (Int32.ofNat rn) l4 (-1) b (Int32.ofNat j) K := by
  intro m
  induction m with
  | zero =>
    intro j b hm hj hb hbi hc
    have e : j = rn + 1 := by omega
    subst e
    refine S_X23_makeRows_193 (d := d + 1) F p2 ⟨fun _ => hn b hb ⟨fun z j' l a => hbi.mp z j' l (by have := (List.getElem?_eq_some_iff.mp a).1; omega) a, fun z => hbi.mpr fun j' l _ a => z j' l a⟩ fun j' y' a => ?_, fun q => absurd ?_ q⟩
    · obtain ⟨⟨l, a1, -⟩, -⟩ := id a
      exact hc j' y' (by have := (List.getElem?_eq_some_iff.mp a1).1; omega) a
    · rw [oN_lt (by omega) (by omega)]
      omega
  | succ m ih =>
    intro j b hm hj hb hbi hc
    have hlt : j < LL.length := by omega
    have hl : LL[j]? = some LL[j] := List.getElem?_eq_getElem hlt
    obtain ⟨e1, e2, e3, e4, e5, e6⟩ := hM j _ hl
    have ej : (Int32.ofNat j).toNatClampNeg = j := oN_t (by omega)
    have bj : ib (Int32.ofNat j) 25 := ib_oN (by omega) (by decide)
    refine S_X23_makeRows_193 (d := d + 1) F p2 ⟨fun q => ?_, fun _ => ⟨fun z => absurd z (by decide), fun _ => ⟨bj, bj, fun q => ?_, fun q => ?_⟩⟩⟩
    · exfalso
      rw [oN_lt (by omega) (by omega)] at q
      omega
    · rw [ej, e1, e2, oN_eq (by omega) (by omega)] at q
      have hlt2 : fr j < LL[j].length := by omega
      have ey := e5 _ (List.getElem_mem hlt2)
      have er : τ.i (9 + 1 + (Int32.ofNat j).toNatClampNeg) (τ.i 35 (Int32.ofNat j).toNatClampNeg).toNatClampNeg = Int32.ofNat LL[j][fr j] := by
        rw [ej, e1, oN_t (by omega)]
        exact e6 _ _ (List.getElem?_eq_getElem hlt2)
      have bf : ib (τ.i 35 (Int32.ofNat j).toNatClampNeg) 24 := by
        rw [ej, e1]
        exact ib_oN (by omega) (by decide)
      refine ⟨bj, bj, bf, ?_⟩
      rw [er]
      refine rf_first F hM ey hL hr (fun hb0 => ⟨fun _ => ?_, fun z => absurd rfl z⟩) (fun hb0 => ⟨fun z => absurd z (by decide), fun _ => ⟨bj, bj, bf, ?_⟩⟩)
      · rw [oN_1]
        refine ih (j + 1) 1 (by omega) (by omega) (Or.inr rfl) ⟨fun z => absurd z (by decide), fun z => ?_⟩ fun j' y' a1 a2 => ?_
        · have := z j _ (by omega) hl
          omega
        · by_cases g : j' < j
          · exact hc j' y' g a2
          · have ej' : j' = j := by omega
            subst ej'
            obtain ⟨⟨l, a3, a4⟩, a5⟩ := a2
            rw [hl] at a3
            cases a3
            rw [List.getElem?_eq_getElem hlt2] at a4
            cases a4
            exact a5 hb0
      · rw [er, oN_1]
        have can : Can LL fr j LL[j][fr j] := ⟨⟨_, hl, List.getElem?_eq_getElem hlt2⟩, hb0⟩
        have fin := hf j _ hlt ey can hc
        refine S_X23_makeRows_193 (d := d + 1) F p2 ⟨fun _ => fin, fun _ => ⟨fun _ => fin, fun z => absurd ?_ z⟩⟩
        rw [show (0 : Int32) = Int32.ofNat 0 from rfl, oN_le (by omega) (by omega)]
        exact Nat.zero_le _
    · rw [ej, e1, e2, oN_eq (by omega) (by omega)] at q
      rw [oN_1]
      refine ih (j + 1) b (by omega) (by omega) hb ⟨fun z j' l a1 a2 => ?_, fun z => hbi.mpr fun j' l a1 a2 => z j' l (by omega) a2⟩ fun j' y' a1 a2 => ?_
      · by_cases g : j' < j
        · exact hbi.mp z j' l g a2
        · have ej' : j' = j := by omega
          subst ej'
          rw [hl] at a2
          cases a2
          exact q
      · by_cases g : j' < j
        · exact hc j' y' g a2
        · have ej' : j' = j := by omega
          subst ej'
          obtain ⟨⟨l, a3, a4⟩, a5⟩ := a2
          rw [hl] at a3
          cases a3
          have := (List.getElem?_eq_some_iff.mp a4).1
          omega
end MERGE

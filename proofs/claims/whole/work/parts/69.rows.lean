/-! THE REFERENCE'S ROWS: makeRows() -/
/-- the same but for what the merge works with -/
def FrM (σ τ : Sg) : Prop := τ.sh = σ.sh ∧ τ.l = σ.l ∧ τ.r = σ.r ∧ ∀ a, ¬ (10 ≤ a ∧ a ≤ 36) → τ.i a = σ.i a
theorem FrM.refl (σ : Sg) : FrM σ σ := ⟨rfl, rfl, rfl, fun _ _ => rfl⟩
theorem FrM.wi {σ τ : Sg} (h : FrM σ τ) {a k : Nat} {v : Int32} (ha : 10 ≤ a ∧ a ≤ 36) : FrM σ (τ.wi a k v) := ⟨h.1, h.2.1, h.2.2.1, fun b hb => (up_row (fun z => hb (by rw [z]; exact ha))).trans (h.2.2.2 b hb)⟩
theorem FrM.fx {σ τ : Sg} {Φ : Fix} (h : FrM σ τ) (F : FX Φ σ.sh σ.r) : FX Φ τ.sh τ.r := by
  rw [h.1, h.2.2.1]
  exact F
theorem MgIs.wi {τ : Sg} {LL : List (List Nat)} {fr : Nat → Nat} {a k : Nat} {v : Int32} (h : MgIs τ LL fr) (ha : ∀ j, j < LL.length → ¬ (a = 35 ∧ k = j) ∧ ¬ (a = 36 ∧ k = j) ∧ a ≠ 9 + 1 + j) : MgIs (τ.wi a k v) LL fr := by
  intro j l hl
  obtain ⟨e1, e2, e3, e4, e5, e6⟩ := h j l hl
  obtain ⟨a1, a2, a3⟩ := ha j (List.getElem?_eq_some_iff.mp hl).1
  refine ⟨?_, ?_, e3, e4, e5, fun i y z => ?_⟩
  · rw [wi_i, if_neg (fun q => a1 ⟨q.1.symm, q.2.symm⟩)]
    exact e1
  · rw [wi_i, if_neg (fun q => a2 ⟨q.1.symm, q.2.symm⟩)]
    exact e2
  · rw [wi_i, if_neg (fun q => a3 q.1.symm)]
    exact e6 i y z
theorem MgIs.snoc {τ : Sg} {LL : List (List Nat)} {fr : Nat → Nat} {l : List Nat} (h : MgIs τ LL fr) (e1 : τ.i 35 LL.length = Int32.ofNat (fr LL.length)) (e2 : τ.i 36 LL.length = Int32.ofNat l.length) (e3 : fr LL.length ≤ l.length) (e4 : l.length ≤ 24) (e5 : ∀ z ∈ l, z < 24) (e6 : ∀ i y, l[i]? = some y → τ.i (9 + 1 + LL.length) i = Int32.ofNat y) : MgIs τ (LL ++ [l]) fr := by
  intro j l' hl
  by_cases g : j < LL.length
  · rw [List.getElem?_append_left g] at hl
    exact h j l' hl
  · rw [List.getElem?_append_right (by omega)] at hl
    have hj : j = LL.length := by
      have := (List.getElem?_eq_some_iff.mp hl).1
      simp only [List.length_cons, List.length_nil] at this
      omega
    subst hj
    rw [Nat.sub_self] at hl
    cases hl
    exact ⟨e1, e2, e3, e4, e5, e6⟩
section ROWS
variable {Z : zT} {d k : Nat} {K : kS}
/-- one parent's row is laid out -/
theorem mr_77 {σ : Sg} (F0 : FX ΦR σ.sh σ.r) (hk24 : k ≤ 23) {LL : List (List Nat)} {l : List Nat} {p : Nat} {l3 : Int32} (hp : p < 24) (hj : LL.length < 24) (hl : l.length ≤ 24) (hz : ∀ z ∈ l, z < 24) (e2 : σ.i (kdA p + 8) 0 = Int32.ofNat l.length) (e3 : ∀ i y, l[i]? = some y → σ.i (kdA p + 4 + 1 + 0) i = Int32.ofNat y) (hK : ∀ υ, FrM σ υ → MgIs υ (LL ++ [l]) (fun _ => 0) → B_X23_makeRows_29 Z (d + 2) υ (Int32.ofNat k) (kdA k) l3 (Int32.ofNat (LL.length + 1)) K) : ∀ m i (τ : Sg), l.length - i = m → i ≤ l.length → FrM σ τ → MgIs τ LL (fun _ => 0) → τ.i 35 LL.length = 0 → τ.i 36 LL.length = Int32.ofNat l.length → (∀ i' y, i' < i → l[i']? = some y → τ.i (9 + 1 + LL.length) i' = Int32.ofNat y) → B_X23_makeRows_77 Z (d + 2) τ (Int32.ofNat k) (kdA k) l3 (Int32.ofNat LL.length) (kdA p) (Int32.ofNat i) K := by
  intro m
  induction m with
  | zero =>
    intro i τ hm hi hF hM h35 h36 hI
    have e : i = l.length := by omega
    subst e
    refine S_X23_makeRows_77 (d := d + 1) (hF.fx F0) (kd_p (by omega)) (kd_p hp) ⟨fun _ => ?_, fun q => absurd ?_ q⟩
    · rw [oN_1]
      exact hK τ hF (hM.snoc h35 h36 (Nat.zero_le _) hl hz fun i y z => hI i y (List.getElem?_eq_some_iff.mp z).1 z)
    · rw [hF.2.2.2 _ (by show ¬ (10 ≤ 2193 + 9 * p + 8 ∧ 2193 + 9 * p + 8 ≤ 36); omega), e2]
      exact Int32.le_refl _
  | succ m ih =>
    intro i τ hm hi hF hM h35 h36 hI
    have hlt : i < l.length := by omega
    refine S_X23_makeRows_77 (d := d + 1) (hF.fx F0) (kd_p (by omega)) (kd_p hp) ⟨fun q => ?_, fun _ => ⟨ib_oN (by omega) (by decide), ib_oN (by omega) (by decide), ib_oN (by omega) (by decide), ?_⟩⟩
    · exfalso
      rw [hF.2.2.2 _ (by show ¬ (10 ≤ 2193 + 9 * p + 8 ∧ 2193 + 9 * p + 8 ≤ 36); omega), e2, oN_le (by omega) (by omega)] at q
      omega
    · rw [oN_t (by omega), oN_t (by omega), oN_1, hF.2.2.2 _ (by show ¬ (10 ≤ 2193 + 9 * p + 4 + 1 + 0 ∧ 2193 + 9 * p + 4 + 1 + 0 ≤ 36); omega), e3 i _ (List.getElem?_eq_getElem hlt)]
      refine ih (i + 1) _ (by omega) (by omega) (hF.wi (by omega)) (hM.wi fun j hj2 => ⟨by omega, by omega, by omega⟩) ?_ ?_ fun i' y a1 a2 => ?_
      · rw [wi_i, if_neg (by omega)]
        exact h35
      · rw [wi_i, if_neg (by omega)]
        exact h36
      · rw [wi_i]
        by_cases g : i' = i
        · subst g
          rw [if_pos ⟨rfl, rfl⟩]
          rw [List.getElem?_eq_getElem hlt] at a2
          rw [← Option.some.inj a2]
        · rw [if_neg (fun q => g q.2)]
          exact hI i' y (by omega) a2
/-- the parents' own row is laid out, and the merge begins -/
theorem mr_141 {σ : Sg} (F0 : FX ΦR σ.sh σ.r) (hk24 : k ≤ 23) {LL : List (List Nat)} {ps : List Nat} (hj : LL.length < 25) (hl : ps.length ≤ 24) (hz : ∀ z ∈ ps, z < 24) (e0 : σ.i (kdA k) 3 = Int32.ofNat ps.length) (e1 : ∀ i p, ps[i]? = some p → σ.i (kdA k + 3) i = Int32.ofNat p) (hK : ∀ υ, FrM σ υ → MgIs υ (LL ++ [ps]) (fun _ => 0) → B_X23_makeRows_184 Z (d + 2) (υ.wi (kdA k + 4 + 1 + 0) 0 (Int32.ofNat k)) (kdA k) (Int32.ofNat LL.length) 1 K) : ∀ m i (τ : Sg), ps.length - i = m → i ≤ ps.length → FrM σ τ → MgIs τ LL (fun _ => 0) → τ.i 35 LL.length = 0 → τ.i 36 LL.length = Int32.ofNat ps.length → (∀ i' y, i' < i → ps[i']? = some y → τ.i (9 + 1 + LL.length) i' = Int32.ofNat y) → B_X23_makeRows_141 Z (d + 2) τ (Int32.ofNat k) (kdA k) (Int32.ofNat LL.length) (Int32.ofNat i) K := by
  intro m
  induction m with
  | zero =>
    intro i τ hm hi hF hM h35 h36 hI
    have e : i = ps.length := by omega
    subst e
    refine S_X23_makeRows_141 (d := d + 1) (hF.fx F0) (kd_p (by omega)) ⟨fun _ => ?_, fun q => absurd ?_ q⟩
    · exact hK τ hF (hM.snoc h35 h36 (Nat.zero_le _) hl hz fun i y z => hI i y (List.getElem?_eq_some_iff.mp z).1 z)
    · rw [hF.2.2.2 _ (by show ¬ (10 ≤ 2193 + 9 * k ∧ 2193 + 9 * k ≤ 36); omega), e0]
      exact Int32.le_refl _
  | succ m ih =>
    intro i τ hm hi hF hM h35 h36 hI
    have hlt : i < ps.length := by omega
    refine S_X23_makeRows_141 (d := d + 1) (hF.fx F0) (kd_p (by omega)) ⟨fun q => ?_, fun _ => ⟨ib_oN (by omega) (by decide), ib_oN (by omega) (by decide), ib_oN (by omega) (by decide), ?_⟩⟩
    · exfalso
      rw [hF.2.2.2 _ (by show ¬ (10 ≤ 2193 + 9 * k ∧ 2193 + 9 * k ≤ 36); omega), e0, oN_le (by omega) (by omega)] at q
      omega
    · rw [oN_t (by omega), oN_t (by omega), oN_1, hF.2.2.2 _ (by show ¬ (10 ≤ 2193 + 9 * k + 3 ∧ 2193 + 9 * k + 3 ≤ 36); omega), e1 i _ (List.getElem?_eq_getElem hlt)]
      refine ih (i + 1) _ (by omega) (by omega) (hF.wi (by omega)) (hM.wi fun j hj2 => ⟨by omega, by omega, by omega⟩) ?_ ?_ fun i' y a1 a2 => ?_
      · rw [wi_i, if_neg (by omega)]
        exact h35
      · rw [wi_i, if_neg (by omega)]
        exact h36
      · rw [wi_i]
        by_cases g : i' = i
        · subst g
          rw [if_pos ⟨rfl, rfl⟩]
          rw [List.getElem?_eq_getElem hlt] at a2
          rw [← Option.some.inj a2]
        · rw [if_neg (fun q => g q.2)]
          exact hI i' y (by omega) a2
/-- the lists of the merge are laid out -/
theorem mr_29 {σ : Sg} (F0 : FX ΦR σ.sh σ.r) (hk24 : k ≤ 23) {ps : List Nat} {r0 : Nat → List Nat} (hps : ∀ p ∈ ps, p < k) (hpl : ps.length ≤ 24) (hrl : ∀ p ∈ ps, (r0 p).length ≤ 24 ∧ ∀ z ∈ r0 p, z < k) (e0 : σ.i (kdA k) 3 = Int32.ofNat ps.length) (e1 : ∀ i p, ps[i]? = some p → σ.i (kdA k + 3) i = Int32.ofNat p) (e2 : ∀ p ∈ ps, σ.i (kdA p + 8) 0 = Int32.ofNat (r0 p).length) (e3 : ∀ p ∈ ps, ∀ i y, (r0 p)[i]? = some y → σ.i (kdA p + 4 + 1 + 0) i = Int32.ofNat y) (hK : ∀ υ, FrM σ υ → MgIs υ (ps.map r0 ++ [ps]) (fun _ => 0) → B_X23_makeRows_184 Z (d + 2) (υ.wi (kdA k + 4 + 1 + 0) 0 (Int32.ofNat k)) (kdA k) (Int32.ofNat ps.length) 1 K) : ∀ m j (τ : Sg), ps.length - j = m → j ≤ ps.length → FrM σ τ → MgIs τ ((ps.take j).map r0) (fun _ => 0) → B_X23_makeRows_29 Z (d + 2) τ (Int32.ofNat k) (kdA k) (Int32.ofNat ps.length) (Int32.ofNat j) K := by
  intro m
  induction m with
  | zero =>
    intro j τ hm hj hF hM
    have e : j = ps.length := by omega
    subst e
    rw [List.take_length] at hM
    have hlen : (ps.map r0).length = ps.length := List.length_map r0
    have ek : τ.i (kdA k) 3 = Int32.ofNat ps.length := by rw [hF.2.2.2 _ (by show ¬ (10 ≤ 2193 + 9 * k ∧ 2193 + 9 * k ≤ 36); omega), e0]
    refine S_X23_makeRows_29 (d := d + 1) (hF.fx F0) (kd_p (by omega)) ⟨fun _ => ⟨ib_oN (by omega) (by decide), ib_oN (by omega) (by decide), ?_⟩, fun q => absurd (by rw [ek]; exact Int32.le_refl _) q⟩
    rw [oN_t (by omega)]
    have es : (τ.wi 35 ps.length 0).i (kdA k) 3 = Int32.ofNat ps.length := by
      rw [wi_i, if_neg (fun q => by have q1 : 2193 + 9 * k = 35 := q.1; omega)]
      exact ek
    rw [es]
    have key := mr_141 (Z := Z) (d := d) (K := K) F0 hk24 (LL := ps.map r0) (ps := ps) (by rw [hlen]; omega) hpl (fun z hz => by have := hps z hz; omega) e0 e1 (fun υ f1 f2 => by rw [hlen]; exact hK υ f1 f2) ps.length 0 ((τ.wi 35 ps.length 0).wi 36 ps.length (Int32.ofNat ps.length)) rfl (Nat.zero_le _) ((hF.wi (by omega)).wi (by omega)) ((hM.wi fun j hj2 => ⟨by omega, by omega, by omega⟩).wi fun j hj2 => ⟨by omega, by omega, by omega⟩) (by rw [hlen, wi_i, if_neg (by omega), wi_i, if_pos ⟨rfl, rfl⟩]) (by rw [hlen, wi_i, if_pos ⟨rfl, rfl⟩]) (fun i' y a => absurd a (Nat.not_lt_zero _))
    rw [hlen] at key
    exact key
  | succ m ih =>
    intro j τ hm hj hF hM
    have hlt : j < ps.length := by omega
    have hmem := List.getElem_mem hlt
    have hp := hps _ hmem
    have ht : ((ps.take j).map r0).length = j := by rw [List.length_map, List.length_take]; omega
    have ek : τ.i (kdA k) 3 = Int32.ofNat ps.length := by rw [hF.2.2.2 _ (by show ¬ (10 ≤ 2193 + 9 * k ∧ 2193 + 9 * k ≤ 36); omega), e0]
    have er : τ.i (kdA k + 3) (Int32.ofNat j).toNatClampNeg = Int32.ofNat ps[j] := by
      rw [oN_t (by omega), hF.2.2.2 _ (by show ¬ (10 ≤ 2193 + 9 * k + 3 ∧ 2193 + 9 * k + 3 ≤ 36); omega)]
      exact e1 j _ (List.getElem?_eq_getElem hlt)
    refine S_X23_makeRows_29 (d := d + 1) (hF.fx F0) (kd_p (by omega)) ⟨fun q => ?_, fun _ => ⟨ib_oN (by omega) (by decide), ?_, ib_oN (by omega) (by decide), ib_oN (by omega) (by decide), ?_⟩⟩
    · exfalso
      rw [ek, oN_le (by omega) (by omega)] at q
      omega
    · rw [er]
      exact ib_oN (by omega) (by decide)
    · rw [er, oN_t (by omega), oN_t (by omega)]
      have es : (τ.wi 35 j 0).i (kdA ps[j] + 8) 0 = Int32.ofNat (r0 ps[j]).length := by
        rw [wi_i, if_neg (fun q => by have q1 : 2193 + 9 * ps[j] + 8 = 35 := q.1; omega), hF.2.2.2 _ (by show ¬ (10 ≤ 2193 + 9 * ps[j] + 8 ∧ 2193 + 9 * ps[j] + 8 ≤ 36); omega)]
        exact e2 _ hmem
      have es2 : (τ.wi 35 j 0).i (2193 + 9 * ps[j] + 8) 0 = Int32.ofNat (r0 ps[j]).length := es
      rw [es2]
      have key := mr_77 (Z := Z) (d := d) (K := K) (k := k) (l3 := Int32.ofNat ps.length) F0 hk24 (LL := (ps.take j).map r0) (l := r0 ps[j]) (p := ps[j]) (by omega) (by rw [ht]; omega) (hrl _ hmem).1 (fun z hz => by have := (hrl _ hmem).2 z hz; omega) (e2 _ hmem) (e3 _ hmem) (fun υ f1 f2 => by
        rw [ht]
        refine ih (j + 1) υ (by omega) (by omega) f1 ?_
        rw [List.take_succ_eq_append_getElem hlt, List.map_append]
        exact f2) (r0 ps[j]).length 0 ((τ.wi 35 j 0).wi 36 j (Int32.ofNat (r0 ps[j]).length)) rfl (Nat.zero_le _) ((hF.wi (by omega)).wi (by omega)) ((hM.wi fun j' hj2 => ⟨by omega, by omega, by omega⟩).wi fun j' hj2 => ⟨by omega, by omega, by omega⟩) (by rw [ht, wi_i, if_neg (by omega), wi_i, if_pos ⟨rfl, rfl⟩]) (by rw [ht, wi_i, if_pos ⟨rfl, rfl⟩]) (fun i' y a => absurd a (Nat.not_lt_zero _))
      rw [ht] at key
      exact key
/-- what makeRows(k) has made of σ: the rows by ways 1, 2 (behind k) and 0, and whether the last could be made -/
def MkR (k : Nat) (ps : List Nat) (rs : Nat → Nat → List Nat) (σ υ : Sg) (L1 L2 L0 : List Nat) (b : Bool) : Prop :=
  υ.sh = σ.sh ∧ υ.l = σ.l ∧ υ.r = σ.r ∧
  (∀ a j, ¬ (10 ≤ a ∧ a ≤ 36) → a ≠ kdA k + 5 → a ≠ kdA k + 6 → a ≠ kdA k + 7 → a ≠ kdA k + 8 → υ.i a j = σ.i a j) ∧
  (∀ w, w < 3 → υ.i (kdA k + 4 + 1 + w) 0 = Int32.ofNat k) ∧
  RowIs υ (kdA k + 4 + 1 + 1) L1 ∧ RowIs υ (kdA k + 4 + 1 + 2) L2 ∧ RowIs υ (kdA k + 4 + 1 + 0) L0 ∧
  υ.i (kdA k + 8) 1 = Int32.ofNat (1 + L1.length) ∧ υ.i (kdA k + 8) 2 = Int32.ofNat (1 + L2.length) ∧ υ.i (kdA k + 8) 0 = Int32.ofNat (1 + L0.length) ∧
  JnF 1 [] (ps.flatMap (rs 1)) L1 ∧ JnF 2 [] (ps.flatMap (rs 2)) L2 ∧ MgR (ps.map (rs 0) ++ [ps]) (k + 1) (fun _ => 0) L0 b ∧
  L1.Nodup ∧ L2.Nodup ∧ L0.Nodup ∧ (∀ z ∈ L1, z < k) ∧ (∀ z ∈ L2, z < k) ∧ ∀ z ∈ L0, z < k
theorem rf_makeRows {σ : Sg} (F : FX ΦR σ.sh σ.r) (hk24 : k ≤ 23) {ps : List Nat} {rs : Nat → Nat → List Nat} (hps : ∀ p ∈ ps, p < k) (hpl : ps.length ≤ 24) (hrl : ∀ w, w < 3 → ∀ p ∈ ps, (rs w p).length ≤ 24 ∧ ∀ z ∈ rs w p, z < k) (e0 : σ.i (kdA k) 3 = Int32.ofNat ps.length) (e1 : ∀ i p, ps[i]? = some p → σ.i (kdA k + 3) i = Int32.ofNat p) (e2 : ∀ w, w < 3 → ∀ p ∈ ps, σ.i (kdA p + 8) w = Int32.ofNat (rs w p).length) (e3 : ∀ w, w < 3 → ∀ p ∈ ps, ∀ i y, (rs w p)[i]? = some y → σ.i (kdA p + 4 + 1 + w) i = Int32.ofNat y) (hK : ∀ υ L1 L2 L0 b, MkR k ps rs σ υ L1 L2 L0 b → K (.inl (some (.int (if b = true then 1 else 0)))) υ) : B_X23_makeRows_0 Z (d + 2) σ (Int32.ofNat k) K := by
  have low : ∀ p w, p < k → w < 3 → ∀ w', w' < 3 → kdA p + 4 + 1 + w ≠ kdA k + 4 + 1 + w' := fun p w h h1 w' h2 => by show 2193 + 9 * p + 4 + 1 + w ≠ 2193 + 9 * k + 4 + 1 + w'; omega
  refine S_X23_makeRows_0 (d := d + 1) F ⟨ib_oN (by omega) (by decide), ?_⟩
  rw [oN_t (by omega)]
  refine rf_joined (w := 1) F (by omega) hk24 hps hpl (hrl 1 (by omega)) e0 e1 (e2 1 (by omega)) (e3 1 (by omega)) fun υ1 L1 a1 a2 a3 a4 a5 a6 => ?_
  -- way 2
  have k1 : ∀ a, a ≠ kdA k + 4 + 1 + 1 → a ≠ kdA k + 8 → (υ1.wi (kdA k + 8) 1 (Int32.ofNat (1 + L1.length))).i a = σ.i a := fun a h1 h2 => (up_row h2).trans (a1.2.2.2 a h1)
  have F1 : FX ΦR (υ1.wi (kdA k + 8) 1 (Int32.ofNat (1 + L1.length))).sh (υ1.wi (kdA k + 8) 1 (Int32.ofNat (1 + L1.length))).r := a1.fx F
  refine rf_joined (w := 2) F1 (by omega) hk24 hps hpl (hrl 2 (by omega)) (by rw [k1 _ (by omega) (by omega)]; exact e0) (fun i p h => by rw [k1 _ (by omega) (by omega)]; exact e1 i p h) (fun p h => by
    have hp := hps p h
    rw [k1 _ (by show 2193 + 9 * p + 8 ≠ 2193 + 9 * k + 4 + 1 + 1; omega) (by show 2193 + 9 * p + 8 ≠ 2193 + 9 * k + 8; omega)]
    exact e2 2 (by omega) p h) (fun p h i y z => by
    have hp := hps p h
    rw [k1 _ (low p 2 hp (by omega) 1 (by omega)) (by show 2193 + 9 * p + 4 + 1 + 2 ≠ 2193 + 9 * k + 8; omega)]
    exact e3 2 (by omega) p h i y z) fun υ2 L2 b1 b2 b3 b4 b5 b6 => ?_
  have k2 : ∀ a, a ≠ kdA k + 4 + 1 + 1 → a ≠ kdA k + 4 + 1 + 2 → a ≠ kdA k + 8 → (υ2.wi (kdA k + 8) 2 (Int32.ofNat (1 + L2.length))).i a = σ.i a := fun a h1 h2 h3 => (up_row h3).trans ((b1.2.2.2 a h2).trans (k1 a h1 h3))
  have F2 : FX ΦR (υ2.wi (kdA k + 8) 2 (Int32.ofNat (1 + L2.length))).sh (υ2.wi (kdA k + 8) 2 (Int32.ofNat (1 + L2.length))).r := b1.fx F1
  have e0' : (υ2.wi (kdA k + 8) 2 (Int32.ofNat (1 + L2.length))).i (kdA k) 3 = Int32.ofNat ps.length := by
    rw [k2 _ (by omega) (by omega) (by omega)]
    exact e0
  show B_X23_makeRows_29 Z (d + 2) _ (Int32.ofNat k) (kdA k) ((υ2.wi (kdA k + 8) 2 (Int32.ofNat (1 + L2.length))).i (kdA k) 3) (Int32.ofNat 0) K
  rw [e0']
  refine mr_29 (r0 := rs 0) F2 hk24 hps hpl (hrl 0 (by omega)) e0' (fun i p h => by rw [k2 _ (by omega) (by omega) (by omega)]; exact e1 i p h) (fun p h => by
    have hp := hps p h
    rw [k2 _ (by show 2193 + 9 * p + 8 ≠ 2193 + 9 * k + 4 + 1 + 1; omega) (by show 2193 + 9 * p + 8 ≠ 2193 + 9 * k + 4 + 1 + 2; omega) (by show 2193 + 9 * p + 8 ≠ 2193 + 9 * k + 8; omega)]
    exact e2 0 (by omega) p h) (fun p h i y z => by
    have hp := hps p h
    rw [k2 _ (low p 0 hp (by omega) 1 (by omega)) (low p 0 hp (by omega) 2 (by omega)) (by show 2193 + 9 * p + 4 + 1 + 0 ≠ 2193 + 9 * k + 8; omega)]
    exact e3 0 (by omega) p h i y z) (fun υ3 c1 c2 => ?_) ps.length 0 _ rfl (Nat.zero_le _) (FrM.refl _) (fun j l h => by simp at h)
  have hlen : (ps.map (rs 0) ++ [ps]).length = ps.length + 1 := by rw [List.length_append, List.length_map]; rfl
  have F3 : FX ΦR (υ3.wi (kdA k + 4 + 1 + 0) 0 (Int32.ofNat k)).sh (υ3.wi (kdA k + 4 + 1 + 0) 0 (Int32.ofNat k)).r := c1.fx F2
  refine mr_184 (L := []) (σ := υ3.wi (kdA k + 4 + 1 + 0) 0 (Int32.ofNat k)) F3 hk24 hlen (by omega) (fun l hl z hz => ?_) k (fun _ => 0) _ (Nat.sub_zero _) (Fr2.refl _ _) (c2.fr (by omega) fun a ha => up_row (by show a ≠ 2193 + 9 * k + 4 + 1 + 0; omega)) List.nodup_nil (fun z h => absurd h List.not_mem_nil) (fun z h => absurd h List.not_mem_nil) (fun i y h => by simp at h) fun υ4 r b g1 g2 g3 g4 g5 g6 => ?_
  · rcases List.mem_append.mp hl with q | q
    · obtain ⟨p, q1, rfl⟩ := List.mem_map.mp q
      exact (hrl 0 (by omega) p q1).2 z hz
    · rw [List.mem_singleton.mp q] at hz
      exact hps z hz
  · rw [List.nil_append] at g4 g5 g6 ⊢
    have k3 : ∀ a, ¬ (10 ≤ a ∧ a ≤ 36) → a ≠ kdA k + 4 + 1 + 0 → υ4.i a = (υ2.wi (kdA k + 8) 2 (Int32.ofNat (1 + L2.length))).i a := fun a h1 h2 => (g1.2.2.2 a h2 (by omega)).trans ((up_row h2).trans (c1.2.2.2 a h1))
    have r1 : (υ4.wi (kdA k + 8) 0 (Int32.ofNat (1 + r.length))).i (kdA k + 4 + 1 + 1) = υ1.i (kdA k + 4 + 1 + 1) := (up_row (by omega)).trans ((k3 _ (by show ¬ (10 ≤ 2193 + 9 * k + 4 + 1 + 1 ∧ 2193 + 9 * k + 4 + 1 + 1 ≤ 36); omega) (by omega)).trans ((up_row (by omega)).trans ((b1.2.2.2 _ (by omega)).trans (up_row (by omega)))))
    have r2 : (υ4.wi (kdA k + 8) 0 (Int32.ofNat (1 + r.length))).i (kdA k + 4 + 1 + 2) = υ2.i (kdA k + 4 + 1 + 2) := (up_row (by omega)).trans ((k3 _ (by show ¬ (10 ≤ 2193 + 9 * k + 4 + 1 + 2 ∧ 2193 + 9 * k + 4 + 1 + 2 ≤ 36); omega) (by omega)).trans (up_row (by omega)))
    have r0 : (υ4.wi (kdA k + 8) 0 (Int32.ofNat (1 + r.length))).i (kdA k + 4 + 1 + 0) = υ4.i (kdA k + 4 + 1 + 0) := up_row (by omega)
    have l8 : υ4.i (kdA k + 8) = (υ2.wi (kdA k + 8) 2 (Int32.ofNat (1 + L2.length))).i (kdA k + 8) := k3 _ (by show ¬ (10 ≤ 2193 + 9 * k + 8 ∧ 2193 + 9 * k + 8 ≤ 36); omega) (by omega)
    refine hK _ L1 L2 r b ⟨g1.1.trans (c1.1.trans (b1.1.trans a1.1)), g1.2.1.trans (c1.2.1.trans (b1.2.1.trans a1.2.1)), g1.2.2.1.trans (c1.2.2.1.trans (b1.2.2.1.trans a1.2.2.1)), fun a j h1 h2 h3 h4 h5 => ?_, fun w hw => ?_, ?_, ?_, ?_, ?_, ?_, ?_, a5, b5, g3, a3, b3, g5, a4, b4, g6⟩
    · rw [wi_i, if_neg (fun q => h5 q.1), k3 a h1 (by omega), k2 a (by omega) (by omega) h5]
    · match w, hw with
      | 0, _ =>
        rw [r0, g2, wi_i, if_pos ⟨rfl, rfl⟩]
      | 1, _ =>
        rw [r1]
        exact a2
      | 2, _ =>
        rw [r2]
        exact b2
    · intro i y h
      rw [r1]
      exact a6 i y h
    · intro i y h
      rw [r2]
      exact b6 i y h
    · intro i y h
      rw [r0]
      exact g4 i y h
    · rw [wi_i, if_neg (by omega), l8, wi_i, if_neg (by omega), b1.2.2.2 _ (by omega), wi_i, if_pos ⟨rfl, rfl⟩]
    · rw [wi_i, if_neg (by omega), l8, wi_i, if_pos ⟨rfl, rfl⟩]
    · rw [wi_i, if_pos ⟨rfl, rfl⟩]
end ROWS

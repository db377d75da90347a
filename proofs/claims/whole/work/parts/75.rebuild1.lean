/-! THE REFERENCE: forget(), rebuild()'s first part -/
section FORGET
variable {Z : zT} {d : Nat} {σ : Sg} {K : kS}
theorem rf_forget (F0 : FX ΦR σ.sh σ.r) (hK : ∀ τ, FX ΦR τ.sh τ.r → FrR 2069 σ τ → (∀ k, k < 8192 → τ.i 2069 k = -1) → K (.inl none) τ) : B_X23_forget_0 Z (d + 1) σ K := by
  have loop : ∀ m k (τ : Sg), 8192 - k = m → k ≤ 8192 → FrR 2069 σ τ → (∀ i, i < k → τ.i 2069 i = -1) → B_X23_forget_2 Z (d + 1) τ (Int32.ofNat k) K := by
    intro m
    induction m with
    | zero =>
      intro k τ hm hk hF hI
      have e : k = 8192 := by omega
      subst e
      exact S_X23_forget_2 (hF.fx F0) ⟨fun _ => hK τ (hF.fx F0) hF hI, fun q => absurd (by decide) q⟩
    | succ m ih =>
      intro k τ hm hk hF hI
      refine S_X23_forget_2 (hF.fx F0) ⟨fun q => ?_, fun _ => ⟨ib_oN (by omega) (by decide), ?_⟩⟩
      · exfalso
        rw [show (8192 : Int32) = Int32.ofNat 8192 from rfl, oN_le (by omega) (by omega)] at q
        omega
      · rw [oN_t (by omega), oN_1]
        refine ih (k + 1) _ (by omega) (by omega) (hF.wi _ _) fun i hi => ?_
        rw [wi_i]
        by_cases g : i = k
        · rw [if_pos ⟨rfl, g⟩]
        · rw [if_neg (fun q => g q.2)]
          exact hI i (by omega)
  exact S_X23_forget_0 F0 (loop 8192 0 σ rfl (Nat.zero_le _) (FrR.refl _ _) fun i h => absurd h (Nat.not_lt_zero _))
end FORGET
/-- the same but for what rebuild()'s first part writes: below, makeable and their number -/
def FrB (σ τ : Sg) : Prop := τ.sh = σ.sh ∧ τ.l = σ.l ∧ τ.r = σ.r ∧ ∀ b j, ¬ (1881 ≤ b ∧ b < 1905) → b ≠ 1932 → ¬ (b = 0 ∧ j = 41) → τ.i b j = σ.i b j
theorem FrB.refl (σ : Sg) : FrB σ σ := ⟨rfl, rfl, rfl, fun _ _ _ _ _ => rfl⟩
theorem FrB.fx {σ τ : Sg} {Φ : Fix} (h : FrB σ τ) (F : FX Φ σ.sh σ.r) : FX Φ τ.sh τ.r := by
  rw [h.1, h.2.2.1]
  exact F
theorem FrB.wb {σ τ : Sg} (h : FrB σ τ) {a k : Nat} {v : Int32} (ha : 1881 ≤ a ∧ a < 1905) : FrB σ (τ.wi a k v) := ⟨h.1, h.2.1, h.2.2.1, fun b j h1 h2 h3 => by
  rw [wi_i, if_neg (fun q => h1 (by rw [q.1]; exact ha))]
  exact h.2.2.2 b j h1 h2 h3⟩
theorem FrB.wm {σ τ : Sg} (h : FrB σ τ) {k : Nat} {v : Int32} : FrB σ (τ.wi 1932 k v) := ⟨h.1, h.2.1, h.2.2.1, fun b j h1 h2 h3 => by
  rw [wi_i, if_neg (fun q => h2 q.1)]
  exact h.2.2.2 b j h1 h2 h3⟩
theorem FrB.wn {σ τ : Sg} (h : FrB σ τ) {v : Int32} : FrB σ (τ.wi 0 41 v) := ⟨h.1, h.2.1, h.2.2.1, fun b j h1 h2 h3 => by
  rw [wi_i, if_neg h3]
  exact h.2.2.2 b j h1 h2 h3⟩
/-- the table of BELOW, rows before a and a's first b -/
def BlIs (τ : Sg) (kn : Nat) (R1 : Nat → List Nat) (a b : Nat) : Prop := ∀ a' b', (a' < a ∧ b' < kn) ∨ (a' = a ∧ b' < b) → τ.i (1880 + 1 + a') b' = if b' ∈ R1 a' then 1 else 0
/-- the makeable kinds below a -/
def mkL (bare : Nat → Int32) (a : Nat) : List Nat := (List.range a).filter fun k => decide (bare k = 0)
theorem mkL_succ (bare : Nat → Int32) (a : Nat) : mkL bare (a + 1) = mkL bare a ++ if bare a = 0 then [a] else [] := by
  unfold mkL
  rw [List.range_succ, List.filter_append]
  congr 1
  by_cases h : bare a = 0
  · rw [if_pos h, List.filter_cons_of_pos (by simpa using h)]
    rfl
  · rw [if_neg h, List.filter_cons_of_neg (by simpa using h)]
    rfl
theorem mkL_len (bare : Nat → Int32) (a : Nat) : (mkL bare a).length ≤ a := by
  unfold mkL
  exact Nat.le_trans (List.length_filter_le _ _) (by rw [List.length_range]; exact Nat.le_refl _)
section REB1
variable {Z : zT} {d kn : Nat} {σ : Sg} {K : kS} {R1 : Nat → List Nat} {bare : Nat → Int32}
theorem rb_first (F0 : FX ΦR σ.sh σ.r) (hkn : kn ≤ 24) (e4 : σ.i 0 4 = Int32.ofNat kn) (hR : ∀ k, k < kn → RwIs σ (kdA k) 1 (R1 k)) (hB : ∀ k, k < kn → σ.i (kdA k) 1 = bare k) (hK : ∀ τ, FX ΦR τ.sh τ.r → FrB σ τ → BlIs τ kn R1 kn 0 → τ.i 0 41 = Int32.ofNat (mkL bare kn).length → (∀ i y, (mkL bare kn)[i]? = some y → τ.i 1932 i = Int32.ofNat y) → B_X23_rebuild_88 Z (d + 3) τ 0 K) : B_X23_rebuild_0 Z (d + 3) σ K := by
  have kd0 : ∀ k j, ¬ (1881 ≤ kdA k + j ∧ kdA k + j < 1905) ∧ kdA k + j ≠ 1932 ∧ kdA k + j ≠ 0 := fun k j => by
    show ¬ (1881 ≤ 2193 + 9 * k + j ∧ 2193 + 9 * k + j < 1905) ∧ 2193 + 9 * k + j ≠ 1932 ∧ 2193 + 9 * k + j ≠ 0
    omega
  have keep : ∀ {τ : Sg}, FrB σ τ → ∀ k j i, τ.i (kdA k + j) i = σ.i (kdA k + j) i := fun hF k j i => hF.2.2.2 _ _ (kd0 k j).1 (kd0 k j).2.1 (fun z => (kd0 k j).2.2 z.1)
  have rw1 : ∀ {τ : Sg}, FrB σ τ → ∀ k, k < kn → RwIs τ (kdA k) 1 (R1 k) := fun hF k hk => by
    obtain ⟨r1, r2, r3, r4⟩ := hR k hk
    refine ⟨by rw [keep hF]; exact r1, r2, r3, fun i y z => ?_⟩
    have := keep hF k (4 + 1 + 1) i
    rw [show kdA k + (4 + 1 + 1) = kdA k + 4 + 1 + 1 from rfl] at this
    rw [this]
    exact r4 i y z
  have k4 : ∀ {τ : Sg}, FrB σ τ → τ.i 0 4 = Int32.ofNat kn := fun hF => by
    rw [hF.2.2.2 0 4 (by decide) (by decide) (by decide)]
    exact e4
  have inner : ∀ (a : Nat), a < kn → ∀ m b (τ : Sg), kn - b = m → b ≤ kn → FrB σ τ → BlIs τ kn R1 a b → (∀ υ, FrB σ υ → BlIs υ kn R1 (a + 1) 0 → υ.i 0 41 = τ.i 0 41 → υ.i 1932 = τ.i 1932 → B_X23_rebuild_17 Z (d + 3) υ (Int32.ofNat a) (Int32.ofNat kn) K) → B_X23_rebuild_17 Z (d + 3) τ (Int32.ofNat a) (Int32.ofNat b) K := by
    intro a ha m
    induction m with
    | zero =>
      intro b τ hm hb hF hT hk
      have e : b = kn := by omega
      subst e
      refine hk τ hF (fun a' b' h => hT a' b' ?_) rfl rfl
      omega
    | succ m ih =>
      intro b τ hm hb hF hT hk
      have F := hF.fx F0
      have step : ∀ v : Int32, vp_nar .boolean v = v → v = (if b ∈ R1 a then 1 else 0) → B_X23_rebuild_17 Z (d + 3) (τ.wi (1880 + 1 + (Int32.ofNat a).toNatClampNeg) (Int32.ofNat b).toNatClampNeg (vp_nar .boolean v)) (Int32.ofNat a) (Int32.ofNat b + 1) K := by
        intro v hv e
        rw [oN_t (by omega), oN_t (by omega), oN_1, hv]
        refine ih (b + 1) _ (by omega) (by omega) (hF.wb (by omega)) (fun a' b' h => ?_) fun υ h1 h2 h3 h4 => hk υ h1 h2 (h3.trans ?_) (h4.trans ?_)
        · rw [wi_i]
          by_cases g : a' = a ∧ b' = b
          · rw [if_pos (by omega), e, g.1, g.2]
          · rw [if_neg (by omega)]
            exact hT a' b' (by omega)
        · rw [wi_i, if_neg (by omega)]
        · exact up_row (by omega)
      refine S_X23_rebuild_17 (d := d + 2) F ⟨fun q => ?_, fun _ => ⟨ib_oN (by omega) (by decide), ?_⟩⟩
      · exfalso
        rw [k4 hF, oN_le (by omega) (by omega)] at q
        omega
      · refine rf_below F (by omega) (rw1 hF a ha) (by omega) (fun h => ⟨ib_oN (by omega) (by decide), step 1 (by decide) (by rw [if_pos h])⟩) (fun h => ⟨ib_oN (by omega) (by decide), step 0 (by decide) (by rw [if_neg h])⟩)
  have outer : ∀ m a (τ : Sg), kn - a = m → a ≤ kn → FrB σ τ → BlIs τ kn R1 a 0 → τ.i 0 41 = Int32.ofNat (mkL bare a).length → (∀ i y, (mkL bare a)[i]? = some y → τ.i 1932 i = Int32.ofNat y) → B_X23_rebuild_7 Z (d + 3) τ (Int32.ofNat a) K := by
    intro m
    induction m with
    | zero =>
      intro a τ hm ha hF hT h41 hM
      have e : a = kn := by omega
      subst e
      have F := hF.fx F0
      exact S_X23_rebuild_7 (d := d + 2) F ⟨fun _ => hK τ F hF hT h41 hM, fun q => absurd (by rw [k4 hF]; exact Int32.le_refl _) q⟩
    | succ m ih =>
      intro a τ hm ha hF hT h41 hM
      have F := hF.fx F0
      have hlt : a < kn := by omega
      refine S_X23_rebuild_7 (d := d + 2) F ⟨fun q => ?_, fun _ => ?_⟩
      · exfalso
        rw [k4 hF, oN_le (by omega) (by omega)] at q
        omega
      · refine inner a hlt kn 0 τ rfl (Nat.zero_le _) hF hT fun υ f1 f2 f3 f4 => ?_
        have Fυ := f1.fx F0
        have eb : υ.i (2193 + 9 * (Int32.ofNat a).toNatClampNeg) 1 = bare a := by
          rw [oN_t (by omega)]
          have := keep f1 a 0 1
          exact this.trans (hB a hlt)
        have hml := mkL_len bare a
        have en : υ.i 0 41 = Int32.ofNat (mkL bare a).length := f3.trans h41
        refine S_X23_rebuild_17 (d := d + 2) Fυ ⟨fun _ => ⟨ib_oN (by omega) (by decide), fun q => ?_, fun q => ?_⟩, fun q => absurd (by rw [k4 f1]; exact Int32.le_refl _) q⟩
        · rw [eb] at q
          rw [en, oN_t (by omega), oN_1, oN_1]
          refine ⟨ib_oN (by omega) (by decide), ih (a + 1) _ (by omega) (by omega) (f1.wm.wn) (fun a' b' h => ?_) ?_ fun i y z => ?_⟩
          · rw [wi_i, if_neg (by omega), wi_i, if_neg (fun z => by omega)]
            exact f2 a' b' h
          · rw [wi_i, if_pos ⟨rfl, rfl⟩, mkL_succ, if_pos q, List.length_append]
            rfl
          · rw [mkL_succ, if_pos q] at z
            rw [wi_i, if_neg (by omega), wi_i]
            by_cases g : i < (mkL bare a).length
            · rw [List.getElem?_append_left g] at z
              rw [if_neg (by omega), f4]
              exact hM i y z
            · rw [List.getElem?_append_right (by omega)] at z
              have g3 : i = (mkL bare a).length := by
                have := (List.getElem?_eq_some_iff.mp z).1
                simp only [List.length_cons, List.length_nil] at this
                omega
              rw [if_pos ⟨rfl, g3⟩]
              rw [g3, Nat.sub_self] at z
              rw [← Option.some.inj z]
        · rw [eb] at q
          rw [oN_1]
          refine ih (a + 1) υ (by omega) (by omega) f1 f2 ?_ fun i y z => ?_
          · rw [en, mkL_succ, if_neg q, List.append_nil]
          · rw [mkL_succ, if_neg q, List.append_nil] at z
            rw [f4]
            exact hM i y z
  refine S_X23_rebuild_0 (d := d + 2) F0 (outer kn 0 _ rfl (Nat.zero_le _) (FrB.refl σ).wn (fun a' b' h => by omega) ?_ (fun i y h => by simp [mkL] at h))
  rw [wi_i, if_pos ⟨rfl, rfl⟩]
  rfl
end REB1

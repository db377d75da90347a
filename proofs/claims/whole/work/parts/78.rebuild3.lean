/-! THE REFERENCE: rebuild(), the methods come into their sets -/
/-- method M is in the set at A -/
def st2 (τ : Sg) (A M : Nat) : Bool := tb (τ.l A ((M - 1) / 64)) ((M - 1) % 64)
theorem st2_set {τ : Sg} {A m : Nat} (hm : 1 ≤ m) (hm2 : m ≤ 128) {A' M : Nat} (hM : 1 ≤ M) (hM2 : M ≤ 128) : st2 (τ.wl A ((m - 1) / 64) (τ.l A ((m - 1) / 64) ||| ((1 : Int64) <<< (Int32.toInt64 (Int32.ofNat (m - 1)) &&& 63)))) A' M = if A' = A ∧ M = m then true else st2 τ A' M := by
  unfold st2
  rw [wl_l]
  by_cases g : A' = A ∧ (M - 1) / 64 = (m - 1) / 64
  · rw [if_pos g, tb_or, tb_one (by omega) (Nat.mod_lt _ (by decide)), g.2, g.1]
    by_cases e : M = m
    · rw [if_pos ⟨rfl, e⟩, e]
      simp
    · rw [if_neg (fun z => e z.2)]
      have : ¬ (M - 1) % 64 = (m - 1) % 64 := by omega
      simp [this]
  · rw [if_neg g, if_neg (fun z => g ⟨z.1, by rw [z.2]⟩)]
theorem sh6 {n : Nat} (h : n < 128) : Int32.ofNat n >>> ((6 : Int32) &&& 31) = Int32.ofNat (n / 64) := by
  have key : ∀ k : Fin 128, Int32.ofNat k.val >>> ((6 : Int32) &&& 31) = Int32.ofNat (k.val / 64) := by decide +kernel
  exact key ⟨n, h⟩
theorem oN_p1 {m : Nat} (h : 1 ≤ m) : Int32.ofNat m - 1 = Int32.ofNat (m - 1) := by
  obtain ⟨k, rfl⟩ : ∃ k, m = k + 1 := ⟨m - 1, by omega⟩
  rw [← oN_1, Nat.add_sub_cancel, Int32.add_sub_cancel]
abbrev mtA (m : Nat) : Nat := 2497 + 4 * m
theorem mt_p {m : Nat} (h : m < 121) : sh0R[mtA m]? = some (Sh.obj 19) := kE_3 h
/-- the same, and 1931 is left -/
def FrGm (σ τ : Sg) : Prop := FrF σ τ ∧ τ.i 1931 = σ.i 1931
theorem FrGm.refl (σ : Sg) : FrGm σ σ := ⟨FrF.refl σ, rfl⟩
theorem FrGm.fx {σ τ : Sg} {Φ : Fix} (h : FrGm σ τ) (F : FX Φ σ.sh σ.r) : FX Φ τ.sh τ.r := h.1.fx F
theorem FrGm.wl {σ τ : Sg} (h : FrGm σ τ) {a k : Nat} {v : Int64} (ha : (55 ≤ a ∧ a < 1880) ∨ (1906 ≤ a ∧ a < 1930)) : FrGm σ (τ.wl a k v) := ⟨h.1.wl ha, h.2⟩
theorem FrGm.wi {σ τ : Sg} (h : FrGm σ τ) {k : Nat} {v : Int32} : FrGm σ (τ.wi 1930 k v) := ⟨h.1.wi (Or.inl rfl), (show (up τ.i 1930 k v) 1931 = _ from (up_row (f := τ.i) (a := 1930) (k := k) (v := v) (b := 1931) (by decide)).trans h.2)⟩
section REB3
variable {Z : zT} {d kn cn mn : Nat} {σ : Sg} {K : kS} {mc : Nat → Nat} {gn : Nat → Int32} {pl : Nat → Nat} {kd : Nat → Nat → Nat} {bl : Nat → Nat → Bool}
/-- which methods below m are in which sets -/
def MnS (τ : Sg) (cn : Nat) (mc : Nat → Nat) (gn : Nat → Int32) (m : Nat) : Prop := ∀ c M, c < cn → 1 ≤ M → M ≤ 128 → (st2 τ (1905 + 1 + c) M = true ↔ M < m ∧ gn M = 0 ∧ mc M = c)
def FtS (τ : Sg) (kn cn : Nat) (mc : Nat → Nat) (gn : Nat → Int32) (pl : Nat → Nat) (kd : Nat → Nat → Nat) (bl : Nat → Nat → Bool) (m i0 k0 : Nat) : Prop := ∀ c i k M, c < cn → i < 3 → k < kn → 1 ≤ M → M ≤ 128 → (st2 τ (fitA c i k) M = true ↔ (M < m ∨ (M = m ∧ (i < i0 ∨ (i = i0 ∧ k < k0)))) ∧ gn M = 0 ∧ mc M = c ∧ i < pl c ∧ bl k (kd M i) = true)
def ThS (τ : Sg) (cn : Nat) (mc : Nat → Nat) (gn : Nat → Int32) (m : Nat) : Prop := ∀ c, c < cn → τ.i 1930 c = Int32.ofNat (((List.range m).filter fun M => decide (1 ≤ M ∧ gn M = 0 ∧ mc M = c)).length)
/-- what is known of the methods while rebuild() goes over them -/
def MtK (τ : Sg) (kn cn mn : Nat) (mc : Nat → Nat) (gn : Nat → Int32) (pl : Nat → Nat) (kd : Nat → Nat → Nat) (bl : Nat → Nat → Bool) : Prop := τ.i 0 4 = Int32.ofNat kn ∧ τ.i 0 6 = Int32.ofNat mn ∧ (∀ m, 1 ≤ m → m ≤ mn → τ.i (mtA m) 10 = gn m) ∧ (∀ m, 1 ≤ m → m ≤ mn → gn m = 0 → mc m < cn ∧ τ.i (mtA m) 0 = Int32.ofNat (mc m) ∧ pl (mc m) ≤ 3 ∧ τ.i (2409 + 3 * mc m) 1 = Int32.ofNat (pl (mc m)) ∧ ∀ i, i < pl (mc m) → kd m i < 24 ∧ τ.i (mtA m + 1) i = Int32.ofNat (kd m i)) ∧ ∀ k y, k < kn → y < 24 → (τ.i (1880 + 1 + k) y = 0 ↔ bl k y = false)
theorem MtK.fr {τ : Sg} (h : MtK σ kn cn mn mc gn pl kd bl) (hkn : kn ≤ 24) (hF : FrF σ τ) : MtK τ kn cn mn mc gn pl kd bl := by
  obtain ⟨h1, h2, h3, h4, h5⟩ := h
  have kp : ∀ b j, b ≠ 1930 → b ≠ 1931 → τ.i b j = σ.i b j := fun b j a1 a2 => by rw [hF.2.2.1 b a1 a2]
  refine ⟨by rw [kp _ _ (by decide) (by decide)]; exact h1, by rw [kp _ _ (by decide) (by decide)]; exact h2, fun m a1 a2 => ?_, fun m a1 a2 a3 => ?_, fun k y a1 a2 => ?_⟩
  · rw [kp _ _ (by show 2497 + 4 * m ≠ 1930; omega) (by show 2497 + 4 * m ≠ 1931; omega)]
    exact h3 m a1 a2
  · obtain ⟨b1, b2, b3, b4, b5⟩ := h4 m a1 a2 a3
    refine ⟨b1, by rw [kp _ _ (by show 2497 + 4 * m ≠ 1930; omega) (by show 2497 + 4 * m ≠ 1931; omega)]; exact b2, b3, by rw [kp _ _ (by omega) (by omega)]; exact b4, fun i a4 => ⟨(b5 i a4).1, ?_⟩⟩
    rw [kp _ _ (by show 2497 + 4 * m + 1 ≠ 1930; omega) (by show 2497 + 4 * m + 1 ≠ 1931; omega)]
    exact (b5 i a4).2
  · rw [kp _ _ (by omega) (by omega)]
    exact h5 k y a1 a2
theorem rb_mt (F0 : FX ΦR σ.sh σ.r) (hkn : kn ≤ 24) (hcn : cn ≤ 24) (hmn : mn ≤ 120) (hM : MtK σ kn cn mn mc gn pl kd bl) (z1 : MnS σ cn mc gn 1) (z2 : FtS σ kn cn mc gn pl kd bl 1 0 0) (z3 : ThS σ cn mc gn 1) (hK : ∀ τ, FX ΦR τ.sh τ.r → FrGm σ τ → MnS τ cn mc gn (mn + 1) → FtS τ kn cn mc gn pl kd bl (mn + 1) 0 0 → ThS τ cn mc gn (mn + 1) → B_X23_rebuild_349 Z (d + 1) τ 0 K) : B_X23_rebuild_191 Z (d + 1) σ 1 K := by
  have l274 : ∀ (m : Nat), 1 ≤ m → m ≤ mn → gn m = 0 → ∀ (i : Nat), i < pl (mc m) → ∀ n k (τ : Sg), kn - k = n → k ≤ kn → FrGm σ τ → MnS τ cn mc gn (m + 1) → FtS τ kn cn mc gn pl kd bl m i k → ThS τ cn mc gn (m + 1) → (∀ υ, FrGm σ υ → MnS υ cn mc gn (m + 1) → FtS υ kn cn mc gn pl kd bl m (i + 1) 0 → ThS υ cn mc gn (m + 1) → B_X23_rebuild_255 Z (d + 1) υ (Int32.ofNat m) (mtA m) (Int32.ofNat (i + 1)) K) → B_X23_rebuild_274 Z (d + 1) τ (Int32.ofNat m) (mtA m) (Int32.ofNat i) (Int32.ofNat k) K := by
    intro m hm1 hm2 hg i hi n
    obtain ⟨c1, -, c3, -, -⟩ := hM.2.2.2.1 m hm1 hm2 hg
    induction n with
    | zero =>
      intro k τ hn hk hF hS hFt hT hnx
      have e : k = kn := by omega
      subst e
      have hMτ := hM.fr hkn hF.1
      refine S_X23_rebuild_274 (hF.fx F0) (mt_p (by omega)) ⟨fun _ => ?_, fun q => absurd (by rw [hMτ.1]; exact Int32.le_refl _) q⟩
      rw [oN_1]
      refine hnx τ hF hS (fun c i' k' M a1 a2 a3 a4 a5 => (hFt c i' k' M a1 a2 a3 a4 a5).trans ?_) hT
      constructor
      · rintro ⟨h1, h2⟩
        exact ⟨by omega, h2⟩
      · rintro ⟨h1, h2⟩
        exact ⟨by omega, h2⟩
    | succ n ih =>
      intro k τ hn hk hF hS hFt hT hnx
      have hMτ := hM.fr hkn hF.1
      obtain ⟨-, d2, -, -, d5⟩ := hMτ.2.2.2.1 m hm1 hm2 hg
      have bk : ib (Int32.ofNat k) 24 := ib_oN (by omega) (by decide)
      have bi : ib (Int32.ofNat i) 3 := ib_oN (by omega) (by decide)
      have ekd : τ.i (mtA m + 1) (Int32.ofNat i).toNatClampNeg = Int32.ofNat (kd m i) := by
        rw [oN_t (by omega)]
        exact (d5 i hi).2
      have hkd := (d5 i hi).1
      have ebl : τ.i (1880 + 1 + (Int32.ofNat k).toNatClampNeg) (τ.i (mtA m + 1) (Int32.ofNat i).toNatClampNeg).toNatClampNeg = τ.i (1880 + 1 + k) (kd m i) := by
        rw [ekd, oN_t (by omega), oN_t (by omega)]
      have b2 : ib (Int32.ofNat (m - 1) >>> ((6 : Int32) &&& 31)) 2 := by
        rw [sh6 (by omega)]
        exact ib_oN (by omega) (by decide)
      refine S_X23_rebuild_274 (hF.fx F0) (mt_p (by omega)) ⟨fun q => ?_, fun _ => ⟨bk, bi, by rw [ekd]; exact ib_oN hkd (by decide), fun q => ?_, fun q => ⟨by rw [d2]; exact ib_oN (by omega) (by decide), bi, bk, ?_⟩⟩⟩
      · exfalso
        rw [hMτ.1, oN_le (by omega) (by omega)] at q
        omega
      · rw [ebl, hMτ.2.2.2.2 k _ (by omega) hkd] at q
        rw [oN_1]
        refine ih (k + 1) τ (by omega) (by omega) hF hS (fun c i' k' M a1 a2 a3 a4 a5 => (hFt c i' k' M a1 a2 a3 a4 a5).trans ?_) hT hnx
        constructor
        · rintro ⟨h1, h2⟩
          exact ⟨by omega, h2⟩
        · rintro ⟨h1, h2, h3, h4, h5⟩
          refine ⟨?_, h2, h3, h4, h5⟩
          rcases h1 with h1 | ⟨h1, h6 | ⟨h6, h7⟩⟩
          · exact Or.inl h1
          · exact Or.inr ⟨h1, Or.inl h6⟩
          · by_cases g : k' < k
            · exact Or.inr ⟨h1, Or.inr ⟨h6, g⟩⟩
            · exfalso
              rw [show k' = k by omega, h6, h1, q] at h5
              cases h5
      · rw [ebl, hMτ.2.2.2.2 k _ (by omega) hkd] at q
        have q : bl k (kd m i) = true := by simpa using q
        rw [oN_p1 hm1, d2]
        refine ⟨b2, b2, ?_⟩
        rw [sh6 (by omega), oN_t (by omega), oN_t (by omega), oN_t (by omega), oN_t (by omega), oN_1]
        refine ih (k + 1) _ (by omega) (by omega) (hF.wl (Or.inl (by omega))) (fun c M a1 a2 a3 => ?_) (fun c i' k' M a1 a2 a3 a4 a5 => ?_) hT hnx
        · rw [st2_set hm1 (by omega) a2 a3, if_neg (by omega)]
          exact hS c M a1 a2 a3
        · rw [st2_set hm1 (by omega) a4 a5]
          by_cases g : fitA c i' k' = 55 + 1 + 76 * mc m + 1 + 25 * i + 1 + k ∧ M = m
          · rw [if_pos g]
            have g1 : 55 + 1 + 76 * c + 1 + 25 * i' + 1 + k' = 55 + 1 + 76 * mc m + 1 + 25 * i + 1 + k := g.1
            have e1 : c = mc m := by omega
            have e2 : i' = i := by omega
            have e3 : k' = k := by omega
            rw [e1, e2, e3, g.2]
            exact ⟨fun _ => ⟨Or.inr ⟨rfl, Or.inr ⟨rfl, Nat.lt_succ_self _⟩⟩, hg, rfl, hi, q⟩, fun _ => rfl⟩
          · rw [if_neg g]
            refine (hFt c i' k' M a1 a2 a3 a4 a5).trans ⟨fun ⟨h1, h2⟩ => ⟨by omega, h2⟩, fun ⟨h1, h2, h3, h4⟩ => ⟨?_, h2, h3, h4⟩⟩
            rcases h1 with h1 | ⟨h1, h6 | ⟨h6, h7⟩⟩
            · exact Or.inl h1
            · exact Or.inr ⟨h1, Or.inl h6⟩
            · by_cases g2 : k' < k
              · exact Or.inr ⟨h1, Or.inr ⟨h6, g2⟩⟩
              · exfalso
                refine g ⟨?_, h1⟩
                show 55 + 1 + 76 * c + 1 + 25 * i' + 1 + k' = _
                rw [← h3, h1, h6]
                omega
  have l255 : ∀ (m : Nat), 1 ≤ m → m ≤ mn → gn m = 0 → ∀ n i (τ : Sg), pl (mc m) - i = n → i ≤ pl (mc m) → FrGm σ τ → MnS τ cn mc gn (m + 1) → FtS τ kn cn mc gn pl kd bl m i 0 → ThS τ cn mc gn (m + 1) → (∀ υ, FrGm σ υ → MnS υ cn mc gn (m + 1) → FtS υ kn cn mc gn pl kd bl (m + 1) 0 0 → ThS υ cn mc gn (m + 1) → B_X23_rebuild_191 Z (d + 1) υ (Int32.ofNat (m + 1)) K) → B_X23_rebuild_255 Z (d + 1) τ (Int32.ofNat m) (mtA m) (Int32.ofNat i) K := by
    intro m hm1 hm2 hg n
    induction n with
    | zero =>
      intro i τ hn hi hF hS hFt hT hnx
      have hMτ := hM.fr hkn hF.1
      obtain ⟨d1, d2, d3, d4, d5⟩ := hMτ.2.2.2.1 m hm1 hm2 hg
      have e : i = pl (mc m) := by omega
      subst e
      refine S_X23_rebuild_255 (hF.fx F0) (mt_p (by omega)) ⟨by rw [d2]; exact ib_oN (by omega) (by decide), fun _ => ?_, fun q => absurd ?_ q⟩
      · rw [oN_1]
        refine hnx τ hF hS (fun c i' k' M a1 a2 a3 a4 a5 => (hFt c i' k' M a1 a2 a3 a4 a5).trans ?_) hT
        constructor
        · rintro ⟨h1, h2⟩
          exact ⟨by omega, h2⟩
        · rintro ⟨h1, h2, h3, h4, h5⟩
          refine ⟨?_, h2, h3, h4, h5⟩
          by_cases g : M < m
          · exact Or.inl g
          · have e : M = m := by omega
            refine Or.inr ⟨e, Or.inl ?_⟩
            rw [← e, h3]
            exact h4
      · rw [d2, oN_t (by omega), d4]
        exact Int32.le_refl _
    | succ n ih =>
      intro i τ hn hi hF hS hFt hT hnx
      have hMτ := hM.fr hkn hF.1
      obtain ⟨d1, d2, d3, d4, d5⟩ := hMτ.2.2.2.1 m hm1 hm2 hg
      refine S_X23_rebuild_255 (hF.fx F0) (mt_p (by omega)) ⟨by rw [d2]; exact ib_oN (by omega) (by decide), fun q => ?_, fun _ => ?_⟩
      · exfalso
        rw [d2, oN_t (by omega), d4, oN_le (by omega) (by omega)] at q
        omega
      · exact l274 m hm1 hm2 hg i (by omega) kn 0 τ rfl (Nat.zero_le _) hF hS hFt hT fun υ f1 f2 f3 f4 => ih (i + 1) υ (by omega) (by omega) f1 f2 f3 f4 hnx
  have l191 : ∀ n m (τ : Sg), mn + 1 - m = n → 1 ≤ m → m ≤ mn + 1 → FrGm σ τ → MnS τ cn mc gn m → FtS τ kn cn mc gn pl kd bl m 0 0 → ThS τ cn mc gn m → B_X23_rebuild_191 Z (d + 1) τ (Int32.ofNat m) K := by
    intro n
    induction n with
    | zero =>
      intro m τ hn h1 hm hF hS hFt hT
      have e : m = mn + 1 := by omega
      subst e
      have hMτ := hM.fr hkn hF.1
      refine S_X23_rebuild_191 (hF.fx F0) ⟨fun _ => hK τ (hF.fx F0) hF hS hFt hT, fun q => absurd ?_ q⟩
      rw [hMτ.2.1, oN_lt (by omega) (by omega)]
      omega
    | succ n ih =>
      intro m τ hn h1 hm hF hS hFt hT
      have hMτ := hM.fr hkn hF.1
      have hml : m ≤ mn := by omega
      have eg : τ.i (2497 + 4 * (Int32.ofNat m).toNatClampNeg) 10 = gn m := by
        rw [oN_t (by omega)]
        exact hMτ.2.2.1 m h1 hml
      refine S_X23_rebuild_191 (hF.fx F0) ⟨fun q => ?_, fun _ => ⟨ib_oN (by omega) (by decide), fun q => ?_, fun q => ?_⟩⟩
      · exfalso
        rw [hMτ.2.1, oN_lt (by omega) (by omega)] at q
        omega
      · rw [eg] at q
        obtain ⟨d1, d2, d3, d4, d5⟩ := hMτ.2.2.2.1 m h1 hml q
        have ec : τ.i (2497 + 4 * (Int32.ofNat m).toNatClampNeg) 0 = Int32.ofNat (mc m) := by
          rw [oN_t (by omega)]
          exact d2
        have bc : ib (Int32.ofNat (mc m)) 24 := ib_oN (by omega) (by decide)
        have ec2 : (τ.wi 1930 (mc m) (τ.i 1930 (mc m) + 1)).i (2497 + 4 * (Int32.ofNat m).toNatClampNeg) 0 = Int32.ofNat (mc m) := by
          rw [wi_i, if_neg (by rw [oN_t (by omega)]; omega)]
          exact ec
        have b2 : ib (Int32.ofNat (m - 1) >>> ((6 : Int32) &&& 31)) 2 := by
          rw [sh6 (by omega)]
          exact ib_oN (by omega) (by decide)
        rw [ec, oN_t (show mc m < 2147483648 by omega), ec2, oN_p1 h1]
        refine ⟨bc, bc, bc, b2, b2, ?_⟩
        rw [sh6 (by omega), oN_t (show mc m < 2147483648 by omega), oN_t (show (m - 1) / 64 < 2147483648 by omega), oN_t (show m < 2147483648 by omega)]
        refine l255 m h1 hml q (pl (mc m)) 0 _ rfl (Nat.zero_le _) (hF.wi.wl (Or.inr (by omega))) (fun c M a1 a2 a3 => ?_) (fun c i k M a1 a2 a3 a4 a5 => ?_) (fun c a1 => ?_) fun υ f1 f2 f3 f4 => ih (m + 1) υ (by omega) (by omega) (by omega) f1 f2 f3 f4
        · have := st2_set (τ := τ.wi 1930 (mc m) (τ.i 1930 (mc m) + 1)) (A := 1905 + 1 + mc m) h1 (by omega) (A' := 1905 + 1 + c) a2 a3
          rw [wi_l] at this
          rw [this]
          by_cases g : 1905 + 1 + c = 1905 + 1 + mc m ∧ M = m
          · rw [if_pos g]
            exact ⟨fun _ => ⟨by omega, by rw [g.2]; exact q, by rw [g.2]; omega⟩, fun _ => rfl⟩
          · rw [if_neg g]
            refine (hS c M a1 a2 a3).trans ⟨fun ⟨x1, x2⟩ => ⟨by omega, x2⟩, fun ⟨x1, x2, x3⟩ => ⟨?_, x2, x3⟩⟩
            by_cases g2 : M = m
            · exact absurd ⟨by rw [← x3, g2], g2⟩ g
            · omega
        · have := st2_set (τ := τ.wi 1930 (mc m) (τ.i 1930 (mc m) + 1)) (A := 1905 + 1 + mc m) h1 (by omega) (A' := fitA c i k) a4 a5
          rw [wi_l] at this
          rw [this, if_neg (fun z => by have z1 : 55 + 1 + 76 * c + 1 + 25 * i + 1 + k = 1905 + 1 + mc m := z.1; omega)]
          refine (hFt c i k M a1 a2 a3 a4 a5).trans ⟨fun ⟨x1, x2⟩ => ⟨by omega, x2⟩, fun ⟨x1, x2⟩ => ⟨by omega, x2⟩⟩
        · rw [wl_i, wi_i, List.range_succ, List.filter_append, List.length_append]
          by_cases g : c = mc m
          · rw [if_pos ⟨rfl, g⟩, ← g, hT c a1, oN_1, List.filter_cons_of_pos (by simp [h1, q, g])]
            rfl
          · rw [if_neg (fun z => g z.2), hT c a1, List.filter_cons_of_neg (by simp; intro _ _ z; exact g z.symm)]
            rfl
      · rw [eg] at q
        rw [oN_1]
        refine ih (m + 1) τ (by omega) (by omega) (by omega) hF (fun c M a1 a2 a3 => (hS c M a1 a2 a3).trans ⟨fun ⟨x1, x2⟩ => ⟨by omega, x2⟩, fun ⟨x1, x2, x3⟩ => ⟨?_, x2, x3⟩⟩) (fun c i k M a1 a2 a3 a4 a5 => (hFt c i k M a1 a2 a3 a4 a5).trans ⟨fun ⟨x1, x2⟩ => ⟨by omega, x2⟩, fun ⟨x1, x2, x3⟩ => ⟨?_, x2, x3⟩⟩) (fun c a1 => ?_)
        · by_cases g2 : M = m
          · rw [g2] at x2
            exact absurd x2 q
          · omega
        · by_cases g2 : M = m
          · rw [g2] at x2
            exact absurd x2 q
          · omega
        · rw [List.range_succ, List.filter_append, List.length_append, hT c a1, List.filter_cons_of_neg (by simp; intro _ z; exact absurd z q)]
          rfl
  exact l191 mn 1 σ (by omega) (by decide) (by omega) (FrGm.refl σ) z1 z2 z3
end REB3

/-! THE REFERENCE: rebuild(), the sets made empty -/
abbrev fitA (c i k : Nat) : Nat := 55 + 1 + 76 * c + 1 + 25 * i + 1 + k
/-- the same but for the sets of methods, their numbers and orders -/
def FrF (σ τ : Sg) : Prop := τ.sh = σ.sh ∧ τ.r = σ.r ∧ (∀ b, b ≠ 1930 → b ≠ 1931 → τ.i b = σ.i b) ∧ ∀ b, ¬ (55 ≤ b ∧ b < 1880) → ¬ (1906 ≤ b ∧ b < 1930) → τ.l b = σ.l b
theorem FrF.refl (σ : Sg) : FrF σ σ := ⟨rfl, rfl, fun _ _ _ => rfl, fun _ _ _ => rfl⟩
theorem FrF.fx {σ τ : Sg} {Φ : Fix} (h : FrF σ τ) (F : FX Φ σ.sh σ.r) : FX Φ τ.sh τ.r := by
  rw [h.1, h.2.1]
  exact F
theorem FrF.wl {σ τ : Sg} (h : FrF σ τ) {a k : Nat} {v : Int64} (ha : (55 ≤ a ∧ a < 1880) ∨ (1906 ≤ a ∧ a < 1930)) : FrF σ (τ.wl a k v) := ⟨h.1, h.2.1, h.2.2.1, fun b h1 h2 => (up_row (f := τ.l) (fun z => by rw [z] at h1 h2; exact ha.elim h1 h2)).trans (h.2.2.2 b h1 h2)⟩
theorem FrF.wi {σ τ : Sg} (h : FrF σ τ) {a k : Nat} {v : Int32} (ha : a = 1930 ∨ a = 1931) : FrF σ (τ.wi a k v) := ⟨h.1, h.2.1, fun b h1 h2 => (up_row (f := τ.i) (fun z => by rw [z] at h1 h2; exact ha.elim h1 h2)).trans (h.2.2.1 b h1 h2), h.2.2.2⟩
theorem wl_l (σ : Sg) (a k : Nat) (v : Int64) (b j : Nat) : (σ.wl a k v).l b j = if b = a ∧ j = k then v else σ.l b j := rfl
theorem wl_i (σ : Sg) (a k : Nat) (v : Int64) : (σ.wl a k v).i = σ.i := rfl
/-- empty up to call c, place i, kind k -/
def ZrF (τ : Sg) (kn c i k : Nat) : Prop := ∀ c' i' k' j, c' < 24 → i' < 3 → k' < kn → j < 2 → (c' < c ∨ (c' = c ∧ (i' < i ∨ (i' = i ∧ k' < k)))) → τ.l (fitA c' i' k') j = 0
def ZrM (τ : Sg) (c : Nat) : Prop := ∀ c', c' < c → τ.l (1905 + 1 + c') 0 = 0 ∧ τ.l (1905 + 1 + c') 1 = 0 ∧ τ.i 1930 c' = 0 ∧ τ.i 1931 c' = -1
section REB2
variable {Z : zT} {d kn cn : Nat} {σ : Sg} {K : kS}
theorem rb_zero (F0 : FX ΦR σ.sh σ.r) (hkn : kn ≤ 24) (hcn : cn ≤ 24) (e4 : σ.i 0 4 = Int32.ofNat kn) (e5 : σ.i 0 5 = Int32.ofNat cn) (hK : ∀ τ, FX ΦR τ.sh τ.r → FrF σ τ → ZrF τ kn cn 0 0 → ZrM τ cn → B_X23_rebuild_191 Z (d + 1) τ 1 K) : B_X23_rebuild_88 Z (d + 1) σ 0 K := by
  have k4 : ∀ {τ : Sg}, FrF σ τ → τ.i 0 4 = Int32.ofNat kn := fun hF => by rw [hF.2.2.1 0 (by decide) (by decide)]; exact e4
  have k5 : ∀ {τ : Sg}, FrF σ τ → τ.i 0 5 = Int32.ofNat cn := fun hF => by rw [hF.2.2.1 0 (by decide) (by decide)]; exact e5
  have l137 : ∀ (c : Nat), c < cn → ∀ (i : Nat), i < 3 → ∀ m k (τ : Sg), kn - k = m → k ≤ kn → FrF σ τ → ZrF τ kn c i k → ZrM τ (c + 1) → (∀ υ, FrF σ υ → ZrF υ kn c (i + 1) 0 → ZrM υ (c + 1) → B_X23_rebuild_130 Z (d + 1) υ (Int32.ofNat c) (Int32.ofNat (i + 1)) K) → B_X23_rebuild_137 Z (d + 1) τ (Int32.ofNat c) (Int32.ofNat i) (Int32.ofNat k) K := by
    intro c hc i hi m
    induction m with
    | zero =>
      intro k τ hm hk hF hZ hM hn
      have e : k = kn := by omega
      subst e
      refine S_X23_rebuild_137 (hF.fx F0) ⟨fun _ => ?_, fun q => absurd (by rw [k4 hF]; exact Int32.le_refl _) q⟩
      rw [oN_1]
      exact hn τ hF (fun c' i' k' j a1 a2 a3 a4 a5 => hZ c' i' k' j a1 a2 a3 a4 (by omega)) hM
    | succ m ih =>
      intro k τ hm hk hF hZ hM hn
      have bc : ib (Int32.ofNat c) 24 := ib_oN (by omega) (by decide)
      have bi : ib (Int32.ofNat i) 3 := ib_oN hi (by decide)
      have bk : ib (Int32.ofNat k) 24 := ib_oN (by omega) (by decide)
      refine S_X23_rebuild_137 (hF.fx F0) ⟨fun q => ?_, fun _ => ⟨bc, bi, bk, bc, bi, bk, ?_⟩⟩
      · exfalso
        rw [k4 hF, oN_le (by omega) (by omega)] at q
        omega
      · rw [oN_t (by omega), oN_t (by omega), oN_t (by omega), oN_1]
        refine ih (k + 1) _ (by omega) (by omega) ((hF.wl (Or.inl (by omega))).wl (Or.inl (by omega))) (fun c' i' k' j a1 a2 a3 a4 a5 => ?_) (fun c' a1 => ?_) hn
        · rw [wl_l, wl_l]
          by_cases g : fitA c' i' k' = 55 + 1 + 76 * c + 1 + 25 * i + 1 + k
          · by_cases g1 : j = 1
            · rw [if_pos ⟨g, g1⟩]
            · rw [if_neg (fun z => g1 z.2), if_pos ⟨g, by omega⟩]
          · rw [if_neg (fun z => g z.1), if_neg (fun z => g z.1)]
            refine hZ c' i' k' j a1 a2 a3 a4 ?_
            have g : ¬ 55 + 1 + 76 * c' + 1 + 25 * i' + 1 + k' = 55 + 1 + 76 * c + 1 + 25 * i + 1 + k := g
            omega
        · have := hM c' a1
          rw [wl_l, if_neg (by omega), wl_l, if_neg (by omega), wl_l, if_neg (by omega), wl_l, if_neg (by omega)]
          exact this
  have l130 : ∀ (c : Nat), c < cn → ∀ m i (τ : Sg), 3 - i = m → i ≤ 3 → FrF σ τ → ZrF τ kn c i 0 → ZrM τ (c + 1) → (∀ υ, FrF σ υ → ZrF υ kn (c + 1) 0 0 → ZrM υ (c + 1) → B_X23_rebuild_88 Z (d + 1) υ (Int32.ofNat (c + 1)) K) → B_X23_rebuild_130 Z (d + 1) τ (Int32.ofNat c) (Int32.ofNat i) K := by
    intro c hc m
    induction m with
    | zero =>
      intro i τ hm hi hF hZ hM hn
      have e : i = 3 := by omega
      subst e
      refine S_X23_rebuild_130 (hF.fx F0) ⟨fun _ => ?_, fun q => absurd (by decide) q⟩
      rw [oN_1]
      exact hn τ hF (fun c' i' k' j a1 a2 a3 a4 a5 => hZ c' i' k' j a1 a2 a3 a4 (by omega)) hM
    | succ m ih =>
      intro i τ hm hi hF hZ hM hn
      refine S_X23_rebuild_130 (hF.fx F0) ⟨fun q => ?_, fun _ => ?_⟩
      · exfalso
        rw [show (3 : Int32) = Int32.ofNat 3 from rfl, oN_le (by omega) (by omega)] at q
        omega
      · exact l137 c hc i (by omega) kn 0 τ rfl (Nat.zero_le _) hF hZ hM fun υ f1 f2 f3 => ih (i + 1) υ (by omega) (by omega) f1 f2 f3 hn
  have l88 : ∀ m c (τ : Sg), cn - c = m → c ≤ cn → FrF σ τ → ZrF τ kn c 0 0 → ZrM τ c → B_X23_rebuild_88 Z (d + 1) τ (Int32.ofNat c) K := by
    intro m
    induction m with
    | zero =>
      intro c τ hm hc hF hZ hM
      have e : c = cn := by omega
      subst e
      exact S_X23_rebuild_88 (hF.fx F0) ⟨fun _ => hK τ (hF.fx F0) hF hZ hM, fun q => absurd (by rw [k5 hF]; exact Int32.le_refl _) q⟩
    | succ m ih =>
      intro c τ hm hc hF hZ hM
      have bc : ib (Int32.ofNat c) 24 := ib_oN (by omega) (by decide)
      refine S_X23_rebuild_88 (hF.fx F0) ⟨fun q => ?_, fun _ => ⟨bc, bc, bc, bc, ?_⟩⟩
      · exfalso
        rw [k5 hF, oN_le (by omega) (by omega)] at q
        omega
      · rw [oN_t (by omega)]
        refine l130 c (by omega) 3 0 _ rfl (by decide) ((((hF.wl (Or.inr (by omega))).wl (Or.inr (by omega))).wi (Or.inl rfl)).wi (Or.inr rfl)) (fun c' i' k' j a1 a2 a3 a4 a5 => ?_) (fun c' a1 => ?_) fun υ f1 f2 f3 => ih (c + 1) υ (by omega) (by omega) f1 f2 f3
        · rw [wi_l, wi_l, wl_l, if_neg (fun z => by have z1 : 55 + 1 + 76 * c' + 1 + 25 * i' + 1 + k' = 1905 + 1 + c := z.1; omega), wl_l, if_neg (fun z => by have z1 : 55 + 1 + 76 * c' + 1 + 25 * i' + 1 + k' = 1905 + 1 + c := z.1; omega)]
          exact hZ c' i' k' j a1 a2 a3 a4 (by omega)
        · rw [wi_l, wi_l, wl_l, wl_l, wl_l, wl_l, wi_i, wi_i, wi_i, wi_i, wl_i, wl_i]
          by_cases g : c' = c
          · subst g
            simp
          · have := hM c' (by omega)
            rw [if_neg (by omega), if_neg (by omega), if_neg (by omega), if_neg (by omega), if_neg (by omega), if_neg (by omega), if_neg (by omega), if_neg (by omega)]
            exact this
  exact l88 cn 0 σ rfl (Nat.zero_le _) (FrF.refl σ) (fun c' i' k' j a1 a2 a3 a4 a5 => by omega) (fun c' a => absurd a (Nat.not_lt_zero _))
end REB2

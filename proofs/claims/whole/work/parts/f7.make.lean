/-! THE CLASS: a kind is made -/
section MAK
variable {Z : zT} {d : Nat} {σ τ υ : Sg} {K : kS} {ks : List Knd} {ps : List Nat} {k : Nat}
/-- the places in the rows -/
theorem mk_97 {w : Nat} {L : List Nat} {σ0 : Sg} (F : FX ΦC σ0.sh σ0.r) (hw : w < 3) (hk : k ≤ 23) (h5 : σ0.i 5 k = Int32.ofNat L.length) (hl : L.length ≤ 24 ∧ ∀ y ∈ L, y < 24) (nd : L.Nodup) (hR : RwC w k L σ0) (kk : ∀ υ, υ.sh = σ0.sh → υ.l = σ0.l → υ.r = σ0.r → (∀ a j, ¬ (a = 8 ∧ j / 24 = w * 24 + k) → υ.i a j = σ0.i a j) → (∀ (i : Nat) y, L[i]? = some y → υ.i 8 ((w * 24 + k) * 24 + y) = Int32.ofNat i) → C_X2_make_89 Z (d + 2) υ (Int32.ofNat k) (Int32.ofNat (w + 1)) K) : ∀ m i τ, L.length - i = m → i ≤ L.length → τ.sh = σ0.sh → τ.l = σ0.l → τ.r = σ0.r → (∀ a j, ¬ (a = 8 ∧ j / 24 = w * 24 + k) → τ.i a j = σ0.i a j) → (∀ (i' : Nat) y, i' < i → L[i']? = some y → τ.i 8 ((w * 24 + k) * 24 + y) = Int32.ofNat i') → C_X2_make_97 Z (d + 2) τ (Int32.ofNat k) (Int32.ofNat w) (Int32.ofNat i) K := by
  intro m
  induction m with
  | zero =>
    intro i τ hm hi g1 g2 g3 g4 g5
    refine T_X2_make_97 (by rw [g1, g3]; exact F) ⟨ib_oN (by omega) (by omega), ?_⟩
    rw [oN_t (by omega), g4 5 k (by omega), h5, oN_le (by omega) (by omega), oN_1]
    exact ⟨fun _ => kk τ g1 g2 g3 g4 (fun i' y q => g5 i' y (by have := (List.getElem?_eq_some_iff.mp q).1; omega) q), fun z => absurd (by omega) z⟩
  | succ m ih =>
    intro i τ hm hi g1 g2 g3 g4 g5
    have F1 : FX ΦC τ.sh τ.r := by rw [g1, g3]; exact F
    obtain ⟨y, hy⟩ : ∃ y, L[i]? = some y := ⟨_, List.getElem?_eq_getElem (by omega)⟩
    have yb := hl.2 y (List.mem_of_getElem? hy)
    refine T_X2_make_97 F1 ⟨ib_oN (by omega) (by omega), ?_⟩
    rw [oN_t (by omega), g4 5 k (by omega), h5, oN_le (by omega) (by omega)]
    refine ⟨fun z => absurd z (by omega), fun _ => T_X2_inRow_0 F1 ?_⟩
    rw [show (24 : Int32) = Int32.ofNat 24 from rfl, oN_mul, oN_add, oN_mul, oN_add, oN_t (by omega), g4 7 _ (by omega), hR i y hy]
    refine ⟨ib_oN (by omega) (by omega), ?_⟩
    show ib (Int32.ofNat ((w * 24 + k) * 24) + Int32.ofNat y) 1728 ∧ C_X2_make_97 Z (d + 2) (τ.wi 8 (Int32.ofNat ((w * 24 + k) * 24) + Int32.ofNat y).toNatClampNeg (Int32.ofNat i)) (Int32.ofNat k) (Int32.ofNat w) (Int32.ofNat i + 1) K
    rw [oN_add, oN_1, oN_t (by omega)]
    refine ⟨ib_oN (by omega) (by omega), ih (i + 1) _ (by omega) (by omega) g1 g2 g3 (fun a j q => (wi_ne (fun z => q ⟨z.1, by omega⟩)).trans (g4 a j q)) (fun i' z q1 q2 => ?_)⟩
    by_cases e : i' = i
    · subst e
      have : y = z := Option.some.inj (hy.symm.trans q2)
      subst this
      exact wi_eq
    · refine (wi_ne (fun q => e ?_)).trans (g5 i' z (by omega) q2)
      have zb := hl.2 z (List.mem_of_getElem? q2)
      have ez : z = y := by omega
      subst ez
      exact (List.getElem?_inj (List.getElem?_eq_some_iff.mp q2).1 nd).mp (q2.trans hy.symm)
/-- all three rows -/
theorem mk_89 {Ls : Nat → List Nat} {n0 : Nat} (F : FX ΦC σ.sh σ.r) (hk : k ≤ 23) (h5 : σ.i 5 k = Int32.ofNat n0) (hl : ∀ w, w < 3 → (Ls w).length = n0 ∧ (Ls w).Nodup ∧ RwC w k (Ls w) σ ∧ ∀ y ∈ Ls w, y < 24) (hn : n0 ≤ 24) (kk : ∀ υ, υ.sh = σ.sh → υ.l = σ.l → υ.r = σ.r → (∀ a j, ¬ (a = 8 ∧ j / 24 % 24 = k) → υ.i a j = σ.i a j) → (∀ w, w < 3 → ∀ (i : Nat) y, (Ls w)[i]? = some y → υ.i 8 ((w * 24 + k) * 24 + y) = Int32.ofNat i) → K (.inl (some (.int 1))) υ) : ∀ m w τ, 3 - w = m → w ≤ 3 → τ.sh = σ.sh → τ.l = σ.l → τ.r = σ.r → (∀ a j, ¬ (a = 8 ∧ j / 24 % 24 = k) → τ.i a j = σ.i a j) → (∀ w', w' < w → ∀ (i : Nat) y, (Ls w')[i]? = some y → τ.i 8 ((w' * 24 + k) * 24 + y) = Int32.ofNat i) → C_X2_make_89 Z (d + 2) τ (Int32.ofNat k) (Int32.ofNat w) K := by
  intro m
  induction m with
  | zero =>
    intro w τ hm hw g1 g2 g3 g4 g5
    refine T_X2_make_89 (by rw [g1, g3]; exact F) ?_
    rw [show (3 : Int32) = Int32.ofNat 3 from rfl, oN_le (by decide) (by omega)]
    exact ⟨fun _ => kk τ g1 g2 g3 g4 (fun w' q => g5 w' (by omega)), fun z => absurd (by omega) z⟩
  | succ m ih =>
    intro w τ hm hw g1 g2 g3 g4 g5
    obtain ⟨l1, l2, l3, l4⟩ := hl w (by omega)
    have F1 : FX ΦC τ.sh τ.r := by rw [g1, g3]; exact F
    refine T_X2_make_89 F1 ?_
    rw [show (3 : Int32) = Int32.ofNat 3 from rfl, oN_le (by decide) (by omega)]
    refine ⟨fun z => absurd z (by omega), fun _ => mk_97 (σ0 := τ) (L := Ls w) F1 (by omega) hk (by rw [g4 5 k (by omega), h5, l1]) ⟨by omega, l4⟩ l2 (fun i y hy => (g4 7 _ (by omega)).trans (l3 i y hy)) (fun υ a1 a2 a3 a4 a5 => ?_) _ 0 τ rfl (Nat.zero_le _) rfl rfl rfl (fun _ _ _ => rfl) (fun i' y q => by omega)⟩
    refine ih (w + 1) υ (by omega) (by omega) (a1.trans g1) (a2.trans g2) (a3.trans g3) (fun a j q => (a4 a j (fun z => q ⟨z.1, by omega⟩)).trans (g4 a j q)) (fun w' q i y hy => ?_)
    by_cases e : w' = w
    · subst e
      exact a5 i y hy
    · have yb := (hl w' (by omega)).2.2.2 y (List.mem_of_getElem? hy)
      exact (a4 8 _ (by omega)).trans (g5 w' (by omega) i y hy)
/-- what is above kind k -/
theorem mk_18 {σ0 : Sg} (X : KxS ks ps k σ0) (kk : ∀ υ, KF k σ0 υ → (∀ a j, ¬ (a = 4 ∧ j = k) → υ.i a j = σ0.i a j) → BtS (υ.i 4 k) (k :: ps.flatMap (rwW ks 0)) → C_X2_make_18 Z (d + 1) υ (Int32.ofNat k) (Int32.ofNat ps.length) K) : ∀ m j τ, ps.length - j = m → j ≤ ps.length → KF k σ0 τ → (∀ a j, ¬ (a = 4 ∧ j = k) → τ.i a j = σ0.i a j) → BtS (τ.i 4 k) (k :: (ps.take j).flatMap (rwW ks 0)) → C_X2_make_18 Z (d + 1) τ (Int32.ofNat k) (Int32.ofNat j) K := by
  have hk := X.2.2.1
  intro m
  induction m with
  | zero =>
    intro j τ hm hj hF g hB
    have e : j = ps.length := by omega
    subst e
    rw [List.take_length] at hB
    exact kk τ hF g hB
  | succ m ih =>
    intro j τ hm hj hF g hB
    have X1 := X.kf hF
    obtain ⟨p1, p2, -⟩ := X1.2.2.2
    obtain ⟨p, hp⟩ : ∃ p, ps[j]? = some p := ⟨_, List.getElem?_eq_getElem (by omega)⟩
    obtain ⟨q1, q2, q3⟩ := X1.pp hp
    refine T_X2_make_18 X1.1 ?_
    rw [p1, oN_le (by omega) (by omega), oN_t (show k < 2147483648 by omega), oN_t (show j < 2147483648 by omega), q1, oN_t (by omega), oN_1]
    refine ⟨fun z => absurd z (by omega), fun _ => ⟨ib_oN (by omega) (by omega), ib_oN (by omega) (by omega), ib_oN (by omega) (by omega), ib_oN (by omega) (by omega), ?_⟩⟩
    refine ih (j + 1) _ (by omega) (by omega) (hF.tr (KF.wi (Or.inl ⟨Or.inr (Or.inl rfl), rfl⟩))) (fun a i q => (wi_ne q).trans (g a i q)) ?_
    rw [wi_eq]
    refine bt_or hB (rw_at X1.2.1 (p := p) (by omega) (w := 0) (by decide)).2.2 (fun y => ?_)
    rw [List.take_add_one, hp, List.flatMap_append, List.mem_cons, List.mem_append, List.mem_cons, or_assoc]
    simp
end MAK

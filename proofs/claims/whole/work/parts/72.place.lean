/-! THE REFERENCE: places in rows, BELOW, names written -/
/-- a kind's row by a way -/
def RwIs (σ : Sg) (a w : Nat) (Rw : List Nat) : Prop := σ.i (a + 8) w = Int32.ofNat Rw.length ∧ Rw.length ≤ 24 ∧ (∀ z ∈ Rw, z < 24) ∧ ∀ i y, Rw[i]? = some y → σ.i (a + 4 + 1 + w) i = Int32.ofNat y
section PLACE
variable {Z : zT} {d a w y : Nat} {σ : Sg} {K : kS} {Rw : List Nat}
theorem rf_place (F : FX ΦR σ.sh σ.r) (p0 : sh0R[a]? = some (Sh.obj 18)) (hw : w < 3) (hR : RwIs σ a w Rw) (hy : y < 2147483648) (h1 : ∀ i, Rw[i]? = some y → (∀ j, j < i → Rw[j]? ≠ some y) → K (.inl (some (.int (Int32.ofNat i)))) σ) (h0 : y ∉ Rw → K (.inl (some (.int (-1)))) σ) : B_X17_place_0 Z (d + 1) σ a (Int32.ofNat w) (Int32.ofNat y) K := by
  obtain ⟨r1, r2, r3, r4⟩ := hR
  have bw : ib (Int32.ofNat w) 3 := ib_oN hw (by decide)
  have loop : ∀ m k, Rw.length - k = m → k ≤ Rw.length → (∀ j, j < k → Rw[j]? ≠ some y) → B_X17_place_2 Z (d + 1) σ a (Int32.ofNat w) (Int32.ofNat y) (Int32.ofNat k) K := by
    intro m
    induction m with
    | zero =>
      intro k hm hk hi
      have e : k = Rw.length := by omega
      subst e
      refine S_X17_place_2 F p0 ⟨bw, fun _ => h0 fun z => ?_, fun q => absurd ?_ q⟩
      · obtain ⟨i, hi2, e⟩ := List.mem_iff_getElem.mp z
        exact hi i hi2 (by rw [List.getElem?_eq_getElem hi2, e])
      · rw [oN_t (by omega), r1]
        exact Int32.le_refl _
    | succ m ih =>
      intro k hm hk hi
      have hlt : k < Rw.length := by omega
      have e1 : Rw[k]? = some Rw[k] := List.getElem?_eq_getElem hlt
      have ez := r3 _ (List.getElem_mem hlt)
      have er : σ.i (a + 4 + 1 + (Int32.ofNat w).toNatClampNeg) (Int32.ofNat k).toNatClampNeg = Int32.ofNat Rw[k] := by
        rw [oN_t (by omega), oN_t (by omega)]
        exact r4 k _ e1
      refine S_X17_place_2 F p0 ⟨bw, fun q => ?_, fun _ => ⟨bw, ib_oN (by omega) (by decide), fun q => ?_, fun q => ?_⟩⟩
      · exfalso
        rw [oN_t (by omega), r1, oN_le (by omega) (by omega)] at q
        omega
      · rw [er, oN_eq (by omega) hy] at q
        rw [oN_1]
        refine ih (k + 1) (by omega) (by omega) fun j hj z => ?_
        by_cases g : j < k
        · exact hi j g z
        · rw [show j = k by omega, e1] at z
          exact q (Option.some.inj z)
      · rw [er, oN_eq (by omega) hy] at q
        exact h1 k (by rw [e1, q]) hi
  exact S_X17_place_0 F p0 (loop Rw.length 0 rfl (Nat.zero_le _) fun j h => absurd h (Nat.not_lt_zero _))
/-- isBelow(): in the row by way 1 -/
theorem rf_below {k : Nat} (F : FX ΦR σ.sh σ.r) (hk : k < 24) (hR : RwIs σ (kdA k) 1 Rw) (hy : y < 2147483648) (h1 : y ∈ Rw → K (.inl (some (.int 1))) σ) (h0 : y ∉ Rw → K (.inl (some (.int 0))) σ) : B_X23_isBelow_0 Z (d + 2) σ (Int32.ofNat k) (Int32.ofNat y) K := by
  refine S_X23_isBelow_0 (d := d + 1) F ⟨ib_oN hk (by decide), ?_⟩
  rw [oN_t (by omega)]
  refine rf_place (w := 1) F (kd_p hk) (by decide) hR hy (fun i e _ => ⟨fun z => ?_, fun _ => h1 (List.mem_of_getElem? e)⟩) (fun h => ⟨fun _ => h0 h, fun z => absurd (by decide) z⟩)
  exfalso
  have := (List.getElem?_eq_some_iff.mp e).1
  have := hR.2.1
  rw [Int32.lt_iff_toInt_lt, oN_i (by omega)] at z
  have z : (i : Int) < 0 := z
  omega
end PLACE
/-- a byte -/
def by8 (x : Int32) : Prop := -128 ≤ x.toInt ∧ x.toInt ≤ 127
theorem by8_nar {x : Int32} (h : by8 x) : vp_nar .byte x = x := by
  have key : ∀ k : Fin 256, vp_nar .byte (Int32.ofInt ((k.val : Int) - 128)) = Int32.ofInt ((k.val : Int) - 128) := by decide +kernel
  have e : x = Int32.ofInt ((((x.toInt + 128).toNat : Nat) : Int) - 128) := by
    obtain ⟨h1, h2⟩ := h
    rw [show ((((x.toInt + 128).toNat : Nat) : Int) - 128) = x.toInt by omega, Int32.ofInt_toInt]
  have := key ⟨(x.toInt + 128).toNat, by obtain ⟨h1, h2⟩ := h; omega⟩
  rw [← e] at this
  exact this
/-- the same but for the name at a -/
def FrN (a : Nat) (σ τ : Sg) : Prop := τ.sh = σ.sh ∧ τ.l = σ.l ∧ τ.r = σ.r ∧ ∀ b j, b ≠ a + 1 → ¬ (b = a ∧ j = 1) → τ.i b j = σ.i b j
section NBE
variable {Z : zT} {d a p l : Nat} {σ : Sg} {K : kS} {t : Nat → Int32}
/-- be(t, from, many): the name is written -/
theorem rf_nbe (F0 : FX ΦR σ.sh σ.r) (p0 : sh0R[a]? = some (Sh.obj 20)) (ha : a ≠ 37 ∧ a + 1 ≠ 37) (ht : ∀ k, k < 8192 → σ.i 37 k = t k) (hb : ∀ k, by8 (t k)) (hl : l ≤ 16) (hp : p + l ≤ 8192) (hK : ∀ τ, FX ΦR τ.sh τ.r → FrN a σ τ → NmIs τ a (txN t p l) → K (.inl none) τ) : B_X19_be_0 Z (d + 1) σ a 37 (Int32.ofNat p) (Int32.ofNat l) K := by
  have loop : ∀ m k (τ : Sg), l - k = m → k ≤ l → FrN a σ τ → (∀ i, i < k → τ.i (a + 1) i = t (p + i)) → B_X19_be_3 Z (d + 1) τ a 37 (Int32.ofNat p) (Int32.ofNat l) (Int32.ofNat k) K := by
    intro m
    induction m with
    | zero =>
      intro k τ hm hk hF hI
      have e : k = l := by omega
      subst e
      have F : FX ΦR τ.sh τ.r := by rw [hF.1, hF.2.2.1]; exact F0
      refine S_X19_be_3 F p0 ⟨fun _ => hK _ F ⟨hF.1, hF.2.1, hF.2.2.1, fun b j h1 h2 => ?_⟩ ⟨?_, by rw [txN_len]; exact hl, fun i y z => ?_⟩, fun q => absurd (Int32.le_refl _) q⟩
      · rw [wi_i, if_neg h2]
        exact hF.2.2.2 b j h1 h2
      · rw [wi_i, if_pos ⟨rfl, rfl⟩, txN_len]
      · have hi := (List.getElem?_eq_some_iff.mp z).1
        rw [txN_len] at hi
        rw [txN_get t p hi] at z
        rw [wi_i, if_neg (by omega), hI i hi]
        exact Option.some.inj z
    | succ m ih =>
      intro k τ hm hk hF hI
      have F : FX ΦR τ.sh τ.r := by rw [hF.1, hF.2.2.1]; exact F0
      have e2 : τ.i 37 (Int32.ofNat p + Int32.ofNat k).toNatClampNeg = t (p + k) := by
        rw [oN_add, oN_t (by omega), hF.2.2.2 37 _ (fun z => ha.2 z.symm) (fun z => ha.1 z.1.symm), ht _ (by omega)]
      refine S_X19_be_3 F p0 ⟨fun q => ?_, fun _ => ⟨8192, F.s s0_37, ?_, ib_oN (by omega) (by decide), ?_⟩⟩
      · exfalso
        rw [oN_le (by omega) (by omega)] at q
        omega
      · rw [oN_add]
        exact ib_oN (by omega) (by decide)
      · rw [e2, by8_nar (hb _), oN_t (by omega), oN_1]
        refine ih (k + 1) _ (by omega) (by omega) ⟨hF.1, hF.2.1, hF.2.2.1, fun b j h1 h2 => ?_⟩ fun i hi => ?_
        · rw [wi_i, if_neg (fun q => h1 q.1)]
          exact hF.2.2.2 b j h1 h2
        · rw [wi_i]
          by_cases g : i = k
          · rw [if_pos ⟨rfl, g⟩, g]
          · rw [if_neg (fun q => g q.2)]
            exact hI i (by omega)
  exact S_X19_be_0 F0 p0 (loop l 0 σ rfl (Nat.zero_le _) ⟨rfl, rfl, rfl, fun _ _ _ _ => rfl⟩ fun i h => absurd h (Nat.not_lt_zero _))
end NBE
